/-! the law and what it calls: code, tables -/
noncomputable def k_L_cards : List Op := [fun nx jp cal => o_new 11 8 [.inr (.inl 0), .inr (.inl 0), .inr (.inl 0), .inr (.inl 0), .inr (.inl 0), .inr (.inl 0), .inr (.inl 0), .inr (.inl 0)] (o_dup (o_invI 5 1 (o_ast 0 (o_ald 1 (o_ic 5 (o_ic 20 (o_invS 133 3 (o_if 2 p_ne0 nx jp cal) jp cal) jp cal) jp cal) jp cal) jp cal) jp cal) jp cal) jp cal,
  o_no,
  fun nx jp cal => o_sld 0 (o_ic 0 (o_invS 0 2 (o_ic 2 (o_invS 1 2 (o_ist 1 (o_ic 2 (o_sld 0 (o_ic 1 (o_invS 0 2 (o_ic 4 (o_invS 1 2 (o_bin f_mul (o_ild 2 (o_bin f_add (o_ist 2 (o_sld 0 (o_ic 2 (o_invS 0 2 (o_ic 3 (o_invS 1 2 (o_if 4 p_ne0 nx jp cal) jp cal) jp cal) jp cal) jp cal) jp cal) jp cal) jp cal) jp cal) jp cal) jp cal) jp cal) jp cal) jp cal) jp cal) jp cal) jp cal) jp cal) jp cal) jp cal) jp cal) jp cal,
  fun nx jp cal => o_ic 1 (o_go 5 nx jp cal) jp cal,
  o_ic 0,
  fun nx jp cal => o_ist 3 (o_ald 1 (o_ic 99 (o_ic 2 (o_newI (o_dup (o_ic 0 (o_ild 3 (o_iast (o_dup (o_ic 1 (o_ic 120 (o_iast (o_invS 132 3 (o_ic 2294967294 (o_if2 9 p_ne nx jp cal) jp cal) jp cal) jp cal) jp cal) jp cal) jp cal) jp cal) jp cal) jp cal) jp cal) jp cal) jp cal) jp cal) jp cal) jp cal,
  fun nx jp cal => o_ald 1 (o_ic 99 (o_ic 2 (o_newI (o_dup (o_ic 0 (o_ic 8 (o_ild 2 (o_bin f_add (o_iast (o_dup (o_ic 1 (o_ic 103 (o_iast (o_invS 132 3 (o_ic 2294967292 (o_if2 9 p_ne nx jp cal) jp cal) jp cal) jp cal) jp cal) jp cal) jp cal) jp cal) jp cal) jp cal) jp cal) jp cal) jp cal) jp cal) jp cal) jp cal) jp cal,
  fun nx jp cal => o_ald 1 (o_ic 99 (o_ic 2 (o_newI (o_dup (o_ic 0 (o_ild 3 (o_iast (o_dup (o_ic 1 (o_ic 103 (o_iast (o_invS 132 3 (o_ic 103 (o_if2 9 p_ne nx jp cal) jp cal) jp cal) jp cal) jp cal) jp cal) jp cal) jp cal) jp cal) jp cal) jp cal) jp cal) jp cal) jp cal) jp cal,
  fun nx jp cal => o_ald 1 (o_ic 109 (o_ic 1 (o_newI (o_dup (o_ic 0 (o_ild 2 (o_iast (o_invS 132 3 (o_ic 4 (o_if2 10 p_eq nx jp cal) jp cal) jp cal) jp cal) jp cal) jp cal) jp cal) jp cal) jp cal) jp cal) jp cal,
  o_no,
  fun nx jp cal => o_ald 1 (o_ic 99 (o_ic 2 (o_newI (o_dup (o_ic 0 (o_ild 3 (o_iast (o_dup (o_ic 1 (o_ild 4 (o_if 12 p_eq0 nx jp cal) jp cal) jp cal) jp cal) jp cal) jp cal) jp cal) jp cal) jp cal) jp cal) jp cal) jp cal,
  fun nx jp cal => o_ic 114 (o_go 13 nx jp cal) jp cal,
  o_ic 103,
  fun nx jp cal => o_iast (o_invS 132 3 (o_ild 4 (o_if 15 p_eq0 nx jp cal) jp cal) jp cal) jp cal,
  fun nx jp cal => o_ic 114 (o_go 16 nx jp cal) jp cal,
  o_ic 121,
  o_if2 20 p_ne,
  fun nx jp cal => o_ald 1 (o_ic 109 (o_ic 1 (o_newI (o_dup (o_ic 0 (o_ild 2 (o_iast (o_invS 132 3 (o_ic 3 (o_if2 20 p_ne nx jp cal) jp cal) jp cal) jp cal) jp cal) jp cal) jp cal) jp cal) jp cal) jp cal) jp cal,
  fun nx jp cal => o_ald 1 (o_ic 99 (o_ic 2 (o_newI (o_dup (o_ic 0 (o_ild 3 (o_iast (o_dup (o_ic 1 (o_ic 103 (o_iast (o_invS 132 3 (o_ic 2294967292 (o_if2 20 p_ne nx jp cal) jp cal) jp cal) jp cal) jp cal) jp cal) jp cal) jp cal) jp cal) jp cal) jp cal) jp cal) jp cal) jp cal) jp cal,
  fun nx jp cal => o_ald 1 (o_ic 117 (o_ic 2 (o_newI (o_dup (o_ic 0 (o_ild 2 (o_iast (o_dup (o_ic 1 (o_ic 0 (o_iast (o_invS 132 3 (o_ic 2294967291 (o_if2 21 p_eq nx jp cal) jp cal) jp cal) jp cal) jp cal) jp cal) jp cal) jp cal) jp cal) jp cal) jp cal) jp cal) jp cal) jp cal) jp cal,
  o_no,
  fun nx jp cal => o_ild 3 (o_ic 2 (o_bin f_add (o_ic 8 (o_rem (o_ist 4 (o_ic 8 (o_ild 2 (o_bin f_add (o_ist 5 (o_ic 0 (o_ist 6 nx jp cal) jp cal) jp cal) jp cal) jp cal) jp cal) jp cal) jp cal) jp cal) jp cal) jp cal) jp cal,
  fun nx jp cal => o_ild 7 (o_ic 6 (o_if2 37 p_ge nx jp cal) jp cal) jp cal,
  fun nx jp cal => o_ild 7 (o_ic 2 (o_rem (o_if 25 p_ne0 nx jp cal) jp cal) jp cal) jp cal,
  fun nx jp cal => o_ild 5 (o_go 26 nx jp cal) jp cal,
  o_ild 6,
  fun nx jp cal => o_ist 7 (o_ild 7 (o_ic 2 (o_rem (o_if 28 p_ne0 nx jp cal) jp cal) jp cal) jp cal) jp cal,
  fun nx jp cal => o_ild 6 (o_go 29 nx jp cal) jp cal,
  o_ild 5,
  fun nx jp cal => o_ist 8 (o_ald 1 (o_ic 90 (o_ic 2 (o_newI (o_dup (o_ic 0 (o_ild 8 (o_iast (o_dup (o_ic 1 (o_ild 8 (o_iast (o_invS 132 3 (o_ic 2294967292 (o_if2 35 p_ne nx jp cal) jp cal) jp cal) jp cal) jp cal) jp cal) jp cal) jp cal) jp cal) jp cal) jp cal) jp cal) jp cal) jp cal) jp cal) jp cal,
  fun nx jp cal => o_ald 1 (o_ic 90 (o_ic 2 (o_newI (o_dup (o_ic 0 (o_ild 3 (o_iast (o_dup (o_ic 1 (o_ild 9 (o_iast (o_invS 132 3 (o_ic 2294967292 (o_if2 35 p_ne nx jp cal) jp cal) jp cal) jp cal) jp cal) jp cal) jp cal) jp cal) jp cal) jp cal) jp cal) jp cal) jp cal) jp cal) jp cal,
  fun nx jp cal => o_ald 1 (o_ic 90 (o_ic 2 (o_newI (o_dup (o_ic 0 (o_ild 8 (o_iast (o_dup (o_ic 1 (o_ild 9 (o_iast (o_invS 132 3 (o_ild 7 (o_ic 5 (o_if2 33 p_ge nx jp cal) jp cal) jp cal) jp cal) jp cal) jp cal) jp cal) jp cal) jp cal) jp cal) jp cal) jp cal) jp cal) jp cal) jp cal) jp cal,
  fun nx jp cal => o_ild 7 (o_ic 1 (o_bin f_add (o_go 34 nx jp cal) jp cal) jp cal) jp cal,
  o_ic 2294967292,
  o_if2 36 p_eq,
  o_no,
  fun nx jp cal => o_inc 7 1 (o_go 22 nx jp cal) jp cal,
  fun nx jp cal => o_ald 1 (o_ic 98 (o_ic 2 (o_newI (o_dup (o_ic 0 (o_ild 2 (o_iast (o_dup (o_ic 1 (o_ic 0 (o_iast (o_invS 132 3 (o_ic 10 (o_ild 2 (o_bin f_add (o_if2 40 p_ne nx jp cal) jp cal) jp cal) jp cal) jp cal) jp cal) jp cal) jp cal) jp cal) jp cal) jp cal) jp cal) jp cal) jp cal) jp cal) jp cal) jp cal,
  fun nx jp cal => o_ald 1 (o_ic 98 (o_ic 2 (o_newI (o_dup (o_ic 0 (o_ild 2 (o_iast (o_dup (o_ic 1 (o_ic 1 (o_iast (o_invS 132 3 (o_ild 5 (o_if2 40 p_ne nx jp cal) jp cal) jp cal) jp cal) jp cal) jp cal) jp cal) jp cal) jp cal) jp cal) jp cal) jp cal) jp cal) jp cal) jp cal,
  fun nx jp cal => o_ald 1 (o_ic 98 (o_ic 2 (o_newI (o_dup (o_ic 0 (o_ild 2 (o_iast (o_dup (o_ic 1 (o_ic 2 (o_iast (o_invS 132 3 (o_ic 2294967291 (o_if2 41 p_eq nx jp cal) jp cal) jp cal) jp cal) jp cal) jp cal) jp cal) jp cal) jp cal) jp cal) jp cal) jp cal) jp cal) jp cal) jp cal,
  o_no,
  fun nx jp cal => o_ic 0 (o_ist 6 nx jp cal) jp cal,
  fun nx jp cal => o_ild 7 (o_ic 4 (o_if2 51 p_ge nx jp cal) jp cal) jp cal,
  fun nx jp cal => o_ald 1 (o_ic 117 (o_ic 2 (o_newI (o_dup (o_ic 0 (o_ild 2 (o_iast (o_dup (o_ic 1 (o_ic 0 (o_iast (o_invS 132 3 (o_ic 2294967291 (o_if2 49 p_ne nx jp cal) jp cal) jp cal) jp cal) jp cal) jp cal) jp cal) jp cal) jp cal) jp cal) jp cal) jp cal) jp cal) jp cal) jp cal,
  fun nx jp cal => o_ald 1 (o_ic 109 (o_ic 1 (o_newI (o_dup (o_ic 0 (o_ild 2 (o_iast (o_invS 132 3 (o_ic 3 (o_if2 49 p_ne nx jp cal) jp cal) jp cal) jp cal) jp cal) jp cal) jp cal) jp cal) jp cal) jp cal) jp cal,
  fun nx jp cal => o_ald 1 (o_ic 84 (o_ic 0 (o_newI (o_invS 132 3 (o_ild 7 (o_ic 2 (o_rem (o_if2 49 p_ne nx jp cal) jp cal) jp cal) jp cal) jp cal) jp cal) jp cal) jp cal) jp cal,
  fun nx jp cal => o_ald 1 (o_ic 82 (o_ic 1 (o_newI (o_dup (o_ic 0 (o_ald 1 (o_ic 97 (o_ic 2 (o_newI (o_dup (o_ic 0 (o_ild 7 (o_ic 2 (o_rem (o_iast (o_dup (o_ic 1 (o_ic 0 (o_iast (o_invS 132 3 (o_iast (o_invS 132 3 (o_if 49 p_ne0 nx jp cal) jp cal) jp cal) jp cal) jp cal) jp cal) jp cal) jp cal) jp cal) jp cal) jp cal) jp cal) jp cal) jp cal) jp cal) jp cal) jp cal) jp cal) jp cal) jp cal) jp cal) jp cal) jp cal) jp cal,
  fun nx jp cal => o_ald 1 (o_ic 99 (o_ic 2 (o_newI (o_dup (o_ic 0 (o_ild 3 (o_iast (o_dup (o_ic 1 (o_ic 121 (o_iast (o_invS 132 3 (o_ic 2294967293 (o_if2 49 p_ne nx jp cal) jp cal) jp cal) jp cal) jp cal) jp cal) jp cal) jp cal) jp cal) jp cal) jp cal) jp cal) jp cal) jp cal) jp cal,
  fun nx jp cal => o_ald 1 (o_ic 67 (o_ic 0 (o_newI (o_invS 132 3 (o_if 50 p_eq0 nx jp cal) jp cal) jp cal) jp cal) jp cal) jp cal,
  o_no,
  fun nx jp cal => o_inc 7 1 (o_go 42 nx jp cal) jp cal,
  fun nx jp cal => o_ald 1 (o_ic 117 (o_ic 2 (o_newI (o_dup (o_ic 0 (o_ild 2 (o_iast (o_dup (o_ic 1 (o_ic 0 (o_iast (o_invS 132 3 (o_ild 4 (o_if 53 p_eq0 nx jp cal) jp cal) jp cal) jp cal) jp cal) jp cal) jp cal) jp cal) jp cal) jp cal) jp cal) jp cal) jp cal) jp cal) jp cal,
  fun nx jp cal => o_ic 2294967291 (o_go 54 nx jp cal) jp cal,
  o_ild 3,
  o_if2 60 p_ne,
  fun nx jp cal => o_ald 1 (o_ic 109 (o_ic 1 (o_newI (o_dup (o_ic 0 (o_ild 2 (o_iast (o_invS 132 3 (o_ic 3 (o_if2 60 p_ne nx jp cal) jp cal) jp cal) jp cal) jp cal) jp cal) jp cal) jp cal) jp cal) jp cal) jp cal,
  fun nx jp cal => o_ald 1 (o_invV 50 1 11 (o_ic 4 (o_if2 60 p_ne nx jp cal) jp cal) jp cal) jp cal,
  fun nx jp cal => o_ald 1 (o_invV 21 1 11 (o_v (.inr (.inr (.inr (.inr (.inl 1065353216))))) (o_fcmp (o_if 60 p_ne0 nx jp cal) jp cal) jp cal) jp cal) jp cal,
  fun nx jp cal => o_ald 1 (o_invV 27 1 11 (o_if 60 p_eq0 nx jp cal) jp cal) jp cal,
  fun nx jp cal => o_ic 1 (o_go 61 nx jp cal) jp cal,
  o_no,
  o_bret 1]
noncomputable def k_L_empties : List Op := [fun nx jp cal => o_new 11 8 [.inr (.inl 0), .inr (.inl 0), .inr (.inl 0), .inr (.inl 0), .inr (.inl 0), .inr (.inl 0), .inr (.inl 0), .inr (.inl 0)] (o_dup (o_invI 5 1 (o_ast 0 (o_ic 2 (o_ic 2 (o_sld 0 (o_ic 20 (o_invS 0 2 (o_ic 6 (o_invS 1 2 (o_bin f_mul (o_bin f_add (o_ist 1 (o_ald 1 (o_ic 1 (o_ild 2 (o_invS 133 3 (o_if 2 p_ne0 nx jp cal) jp cal) jp cal) jp cal) jp cal) jp cal) jp cal) jp cal) jp cal) jp cal) jp cal) jp cal) jp cal) jp cal) jp cal) jp cal) jp cal) jp cal) jp cal,
  o_no,
  fun nx jp cal => o_ic 2 (o_newI (o_ast 2 (o_ic 2 (o_newI (o_ast 3 (o_ic 2 (o_newI (o_ast 4 (o_ic 0 (o_ist 5 nx jp cal) jp cal) jp cal) jp cal) jp cal) jp cal) jp cal) jp cal) jp cal) jp cal) jp cal,
  fun nx jp cal => o_ild 6 (o_ic 2 (o_ild 2 (o_bin f_mul (o_if2 29 p_ge nx jp cal) jp cal) jp cal) jp cal) jp cal,
  fun nx jp cal => o_ild 6 (o_ild 2 (o_if2 6 p_ge nx jp cal) jp cal) jp cal,
  fun nx jp cal => o_ild 6 (o_ic 2 (o_rem (o_go 7 nx jp cal) jp cal) jp cal) jp cal,
  fun nx jp cal => o_ic 1 (o_ild 6 (o_ild 2 (o_bin f_sub (o_ic 2 (o_rem (o_bin f_sub nx jp cal) jp cal) jp cal) jp cal) jp cal) jp cal) jp cal,
  fun nx jp cal => o_ist 6 (o_ald 3 (o_ild 7 (o_iald (o_ic 2 (o_if2 9 p_ne nx jp cal) jp cal) jp cal) jp cal) jp cal) jp cal,
  fun nx jp cal => o_ic 1 (o_go 10 nx jp cal) jp cal,
  o_ic 0,
  fun nx jp cal => o_ist 7 (o_ald 1 (o_invV 23 1 11 (o_if 16 p_eq0 nx jp cal) jp cal) jp cal) jp cal,
  fun nx jp cal => o_ald 1 (o_ic 82 (o_ic 1 (o_newI (o_dup (o_ic 0 (o_ald 1 (o_ic 97 (o_ic 2 (o_newI (o_dup (o_ic 0 (o_ild 7 (o_iast (o_dup (o_ic 1 (o_ic 0 (o_iast (o_invS 132 3 (o_iast (o_invS 132 3 (o_ild 8 (o_if 13 p_eq0 nx jp cal) jp cal) jp cal) jp cal) jp cal) jp cal) jp cal) jp cal) jp cal) jp cal) jp cal) jp cal) jp cal) jp cal) jp cal) jp cal) jp cal) jp cal) jp cal) jp cal) jp cal) jp cal) jp cal,
  fun nx jp cal => o_ic 1 (o_go 14 nx jp cal) jp cal,
  o_ic 0,
  o_if2 16 p_ne,
  fun nx jp cal => o_ald 1 (o_ic 67 (o_ic 0 (o_newI (o_invS 132 3 (o_if 17 p_eq0 nx jp cal) jp cal) jp cal) jp cal) jp cal) jp cal,
  o_no,
  fun nx jp cal => o_ald 3 (o_ild 7 (o_ild 8 (o_if 19 p_eq0 nx jp cal) jp cal) jp cal) jp cal,
  fun nx jp cal => o_ic 0 (o_go 20 nx jp cal) jp cal,
  fun nx jp cal => o_ald 3 (o_ild 7 (o_iald (o_ic 1 (o_bin f_add nx jp cal) jp cal) jp cal) jp cal) jp cal,
  fun nx jp cal => o_iast (o_ild 8 (o_if 22 p_eq0 nx jp cal) jp cal) jp cal,
  fun nx jp cal => o_ald 4 (o_ic 1 (o_ild 7 (o_bin f_sub (o_dup2 (o_iald (o_ic 1 (o_bin f_add (o_iast (o_ald 5 (o_ild 7 (o_dup2 (o_iald (o_ic 1 (o_bin f_add (o_iast (o_ald 5 (o_ic 1 (o_ild 7 (o_bin f_sub (o_ic 0 (o_ald 5 (o_ic 1 (o_ild 7 (o_bin f_sub (o_iald (o_ic 1 (o_bin f_sub (o_max (o_iast nx jp cal) jp cal) jp cal) jp cal) jp cal) jp cal) jp cal) jp cal) jp cal) jp cal) jp cal) jp cal) jp cal) jp cal) jp cal) jp cal) jp cal) jp cal) jp cal) jp cal) jp cal) jp cal) jp cal) jp cal) jp cal) jp cal) jp cal) jp cal) jp cal) jp cal,
  fun nx jp cal => o_ald 1 (o_ic 105 (o_ic 1 (o_newI (o_dup (o_ic 0 (o_ic 0 (o_iast (o_invS 132 3 (o_ald 4 (o_ic 0 (o_iald (o_if2 27 p_ne nx jp cal) jp cal) jp cal) jp cal) jp cal) jp cal) jp cal) jp cal) jp cal) jp cal) jp cal) jp cal) jp cal,
  fun nx jp cal => o_ald 1 (o_ic 105 (o_ic 1 (o_newI (o_dup (o_ic 0 (o_ic 1 (o_iast (o_invS 132 3 (o_ald 4 (o_ic 1 (o_iald (o_if2 27 p_ne nx jp cal) jp cal) jp cal) jp cal) jp cal) jp cal) jp cal) jp cal) jp cal) jp cal) jp cal) jp cal) jp cal,
  fun nx jp cal => o_ald 1 (o_invV 23 1 11 (o_if 28 p_eq0 nx jp cal) jp cal) jp cal,
  fun nx jp cal => o_ald 1 (o_ic 109 (o_ic 1 (o_newI (o_dup (o_ic 0 (o_ic 0 (o_iast (o_invS 132 3 (o_ic 4 (o_ald 5 (o_ic 0 (o_iald (o_bin f_sub (o_if2 27 p_ne nx jp cal) jp cal) jp cal) jp cal) jp cal) jp cal) jp cal) jp cal) jp cal) jp cal) jp cal) jp cal) jp cal) jp cal) jp cal,
  fun nx jp cal => o_ald 1 (o_ic 109 (o_ic 1 (o_newI (o_dup (o_ic 0 (o_ic 1 (o_iast (o_invS 132 3 (o_ic 4 (o_ald 5 (o_ic 1 (o_iald (o_bin f_sub (o_if2 28 p_eq nx jp cal) jp cal) jp cal) jp cal) jp cal) jp cal) jp cal) jp cal) jp cal) jp cal) jp cal) jp cal) jp cal) jp cal) jp cal,
  o_no,
  fun nx jp cal => o_inc 6 1 (o_go 3 nx jp cal) jp cal,
  fun nx jp cal => o_ald 4 (o_ic 0 (o_iald (o_ald 4 (o_ic 1 (o_iald (o_if2 31 p_le nx jp cal) jp cal) jp cal) jp cal) jp cal) jp cal) jp cal,
  o_no,
  fun nx jp cal => o_ic 0 (o_ist 5 (o_ald 4 (o_ic 0 (o_iald (o_ald 4 (o_ic 1 (o_iald (o_if2 33 p_ne nx jp cal) jp cal) jp cal) jp cal) jp cal) jp cal) jp cal) jp cal) jp cal,
  fun nx jp cal => o_ic 1 (o_go 34 nx jp cal) jp cal,
  o_no,
  fun nx jp cal => o_ist 6 (o_ald 1 (o_invV 23 1 11 (o_if 54 p_ne0 nx jp cal) jp cal) jp cal) jp cal,
  fun nx jp cal => o_ald 1 (o_ic 108 (o_ic 1 (o_newI (o_dup (o_ic 0 (o_ic 0 (o_iast (o_invS 132 3 (o_ild 7 (o_if 37 p_eq0 nx jp cal) jp cal) jp cal) jp cal) jp cal) jp cal) jp cal) jp cal) jp cal) jp cal) jp cal,
  fun nx jp cal => o_ic 3 (o_go 38 nx jp cal) jp cal,
  o_no,
  o_if2 54 p_ne,
  fun nx jp cal => o_ald 1 (o_ic 108 (o_ic 1 (o_newI (o_dup (o_ic 0 (o_ic 1 (o_iast (o_invS 132 3 (o_ild 7 (o_if 41 p_eq0 nx jp cal) jp cal) jp cal) jp cal) jp cal) jp cal) jp cal) jp cal) jp cal) jp cal) jp cal,
  fun nx jp cal => o_ic 3 (o_go 42 nx jp cal) jp cal,
  o_no,
  o_if2 54 p_ne,
  fun nx jp cal => o_ald 1 (o_ic 76 (o_ic 1 (o_newI (o_dup (o_ic 0 (o_ic 0 (o_iast (o_invS 132 3 (o_ild 6 (o_if 45 p_ne0 nx jp cal) jp cal) jp cal) jp cal) jp cal) jp cal) jp cal) jp cal) jp cal) jp cal) jp cal,
  fun nx jp cal => o_ild 7 (o_if 46 p_eq0 nx jp cal) jp cal,
  fun nx jp cal => o_ic 0 (o_go 47 nx jp cal) jp cal,
  o_no,
  o_if2 54 p_ne,
  fun nx jp cal => o_ald 1 (o_invV 21 1 11 (o_v (.inr (.inr (.inr (.inr (.inl 1065353216))))) (o_fcmp (o_if 54 p_ne0 nx jp cal) jp cal) jp cal) jp cal) jp cal,
  fun nx jp cal => o_ald 1 (o_ic 78 (o_ic 0 (o_newI (o_invS 132 3 (o_ic 12 (o_if2 54 p_ne nx jp cal) jp cal) jp cal) jp cal) jp cal) jp cal) jp cal,
  fun nx jp cal => o_ald 1 (o_ic 108 (o_ic 1 (o_newI (o_dup (o_ic 0 (o_ic 0 (o_iast (o_invS 132 3 (o_if 54 p_ne0 nx jp cal) jp cal) jp cal) jp cal) jp cal) jp cal) jp cal) jp cal) jp cal) jp cal,
  fun nx jp cal => o_ald 1 (o_ic 111 (o_ic 1 (o_newI (o_dup (o_ic 0 (o_ic 0 (o_iast (o_invS 132 3 (o_ic 4294967295 (o_if2 54 p_ne nx jp cal) jp cal) jp cal) jp cal) jp cal) jp cal) jp cal) jp cal) jp cal) jp cal) jp cal,
  fun nx jp cal => o_ald 1 (o_invV 27 1 11 (o_if 54 p_eq0 nx jp cal) jp cal) jp cal,
  fun nx jp cal => o_ic 1 (o_go 55 nx jp cal) jp cal,
  o_no,
  o_bret 1]
noncomputable def k_L_law : List Op := [fun nx jp cal => o_new 11 8 [.inr (.inl 0), .inr (.inl 0), .inr (.inl 0), .inr (.inl 0), .inr (.inl 0), .inr (.inl 0), .inr (.inl 0), .inr (.inl 0)] (o_dup (o_invIq 5 1 (o_ast 0 (o_ald 1 (o_ic 1 (o_invSq 134 2 (o_if 42 p_eq0 nx jp cal) jp cal) jp cal) jp cal) jp cal) jp cal) jp cal) jp cal,
  fun nx jp cal => o_ald 1 (o_ic 0 (o_invSq 134 2 (o_if 42 p_eq0 nx jp cal) jp cal) jp cal) jp cal,
  fun nx jp cal => o_ald 1 (o_invX 23 1 11 [] (o_if 42 p_ne0 nx jp cal) jp cal) jp cal,
  fun nx jp cal => o_ald 1 (o_invX 50 1 11 [] (o_if 42 p_ne0 nx jp cal) jp cal) jp cal,
  fun nx jp cal => o_ald 1 (o_invX 17 1 11 [] (o_v (.inr (.inr (.inl 7))) (o_lcmp (o_if 42 p_ne0 nx jp cal) jp cal) jp cal) jp cal) jp cal,
  fun nx jp cal => o_ald 1 (o_invX 27 1 11 [] (o_if 42 p_eq0 nx jp cal) jp cal) jp cal,
  fun nx jp cal => o_ald 1 (o_ic 80 (o_ic 4 (o_newI (o_dup (o_ic 0 (o_ic 0 (o_iast (o_dup (o_ic 1 (o_ic 1 (o_iast (o_dup (o_ic 2 (o_ic 1 (o_iast (o_dup (o_ic 3 (o_ic 97 (o_iast (o_invSq 132 3 (o_ic 2294967294 (o_if2 42 p_ne nx jp cal) jp cal) jp cal) jp cal) jp cal) jp cal) jp cal) jp cal) jp cal) jp cal) jp cal) jp cal) jp cal) jp cal) jp cal) jp cal) jp cal) jp cal) jp cal) jp cal) jp cal) jp cal) jp cal,
  fun nx jp cal => o_ald 1 (o_ic 80 (o_ic 4 (o_newI (o_dup (o_ic 0 (o_ic 1 (o_iast (o_dup (o_ic 1 (o_ic 10 (o_iast (o_dup (o_ic 2 (o_ic 1 (o_iast (o_dup (o_ic 3 (o_ic 97 (o_iast (o_invSq 132 3 (o_ic 2294967294 (o_if2 42 p_ne nx jp cal) jp cal) jp cal) jp cal) jp cal) jp cal) jp cal) jp cal) jp cal) jp cal) jp cal) jp cal) jp cal) jp cal) jp cal) jp cal) jp cal) jp cal) jp cal) jp cal) jp cal) jp cal) jp cal,
  fun nx jp cal => o_ald 1 (o_ic 80 (o_ic 4 (o_newI (o_dup (o_ic 0 (o_ic 1 (o_iast (o_dup (o_ic 1 (o_ic 1 (o_iast (o_dup (o_ic 2 (o_ic 1 (o_iast (o_dup (o_ic 3 (o_ic 100 (o_iast (o_invSq 132 3 (o_ic 2294967294 (o_if2 42 p_ne nx jp cal) jp cal) jp cal) jp cal) jp cal) jp cal) jp cal) jp cal) jp cal) jp cal) jp cal) jp cal) jp cal) jp cal) jp cal) jp cal) jp cal) jp cal) jp cal) jp cal) jp cal) jp cal) jp cal,
  fun nx jp cal => o_ald 1 (o_ic 85 (o_ic 1 (o_newI (o_dup (o_ic 0 (o_ic 0 (o_iast (o_invSq 132 3 (o_ic 2294967295 (o_if2 42 p_ne nx jp cal) jp cal) jp cal) jp cal) jp cal) jp cal) jp cal) jp cal) jp cal) jp cal) jp cal,
  fun nx jp cal => o_ald 1 (o_ic 66 (o_ic 2 (o_newI (o_dup (o_ic 0 (o_ic 0 (o_iast (o_dup (o_ic 1 (o_ic 0 (o_iast (o_invSq 132 3 (o_ic 2294967295 (o_if2 42 p_ne nx jp cal) jp cal) jp cal) jp cal) jp cal) jp cal) jp cal) jp cal) jp cal) jp cal) jp cal) jp cal) jp cal) jp cal) jp cal,
  fun nx jp cal => o_ald 1 (o_ic 77 (o_ic 1 (o_newI (o_dup (o_ic 0 (o_ic 0 (o_iast (o_invSq 132 3 (o_ic 2294967295 (o_if2 42 p_ne nx jp cal) jp cal) jp cal) jp cal) jp cal) jp cal) jp cal) jp cal) jp cal) jp cal) jp cal,
  fun nx jp cal => o_ald 1 (o_ic 75 (o_ic 0 (o_newI (o_invSq 132 3 (o_ic 2294967293 (o_if2 42 p_ne nx jp cal) jp cal) jp cal) jp cal) jp cal) jp cal) jp cal,
  fun nx jp cal => o_ald 1 (o_ic 111 (o_ic 1 (o_newI (o_dup (o_ic 0 (o_ic 0 (o_iast (o_invSq 132 3 (o_ic 2294967295 (o_if2 42 p_ne nx jp cal) jp cal) jp cal) jp cal) jp cal) jp cal) jp cal) jp cal) jp cal) jp cal) jp cal,
  fun nx jp cal => o_ald 1 (o_ic 112 (o_ic 1 (o_newI (o_dup (o_ic 0 (o_ic 0 (o_iast (o_invSq 132 3 (o_ic 2294967295 (o_if2 42 p_ne nx jp cal) jp cal) jp cal) jp cal) jp cal) jp cal) jp cal) jp cal) jp cal) jp cal) jp cal,
  fun nx jp cal => o_ald 1 (o_ic 78 (o_ic 0 (o_newI (o_invSq 132 3 (o_if 42 p_ne0 nx jp cal) jp cal) jp cal) jp cal) jp cal) jp cal,
  fun nx jp cal => o_ald 1 (o_ic 69 (o_ic 4 (o_newI (o_dup (o_ic 0 (o_ic 2 (o_iast (o_dup (o_ic 1 (o_ic 6 (o_iast (o_dup (o_ic 2 (o_ic 1 (o_iast (o_dup (o_ic 3 (o_ic 10 (o_iast (o_invSq 132 3 (o_ic 2294967294 (o_if2 42 p_ne nx jp cal) jp cal) jp cal) jp cal) jp cal) jp cal) jp cal) jp cal) jp cal) jp cal) jp cal) jp cal) jp cal) jp cal) jp cal) jp cal) jp cal) jp cal) jp cal) jp cal) jp cal) jp cal) jp cal,
  fun nx jp cal => o_ald 1 (o_ic 69 (o_ic 4 (o_newI (o_dup (o_ic 0 (o_ic 7 (o_iast (o_dup (o_ic 1 (o_ic 8 (o_iast (o_dup (o_ic 2 (o_ic 1 (o_iast (o_dup (o_ic 3 (o_ic 10 (o_iast (o_invSq 132 3 (o_ic 2294967294 (o_if2 42 p_ne nx jp cal) jp cal) jp cal) jp cal) jp cal) jp cal) jp cal) jp cal) jp cal) jp cal) jp cal) jp cal) jp cal) jp cal) jp cal) jp cal) jp cal) jp cal) jp cal) jp cal) jp cal) jp cal) jp cal,
  fun nx jp cal => o_ald 1 (o_ic 69 (o_ic 4 (o_newI (o_dup (o_ic 0 (o_ic 7 (o_iast (o_dup (o_ic 1 (o_ic 6 (o_iast (o_dup (o_ic 2 (o_ic 1 (o_iast (o_dup (o_ic 3 (o_ic 9 (o_iast (o_invSq 132 3 (o_ic 2294967294 (o_if2 42 p_ne nx jp cal) jp cal) jp cal) jp cal) jp cal) jp cal) jp cal) jp cal) jp cal) jp cal) jp cal) jp cal) jp cal) jp cal) jp cal) jp cal) jp cal) jp cal) jp cal) jp cal) jp cal) jp cal) jp cal,
  fun nx jp cal => o_ald 1 (o_ic 69 (o_ic 4 (o_newI (o_dup (o_ic 0 (o_ic 7 (o_iast (o_dup (o_ic 1 (o_ic 6 (o_iast (o_dup (o_ic 2 (o_ic 1 (o_iast (o_dup (o_ic 3 (o_ic 22 (o_iast (o_invSq 132 3 (o_ic 2294967294 (o_if2 42 p_ne nx jp cal) jp cal) jp cal) jp cal) jp cal) jp cal) jp cal) jp cal) jp cal) jp cal) jp cal) jp cal) jp cal) jp cal) jp cal) jp cal) jp cal) jp cal) jp cal) jp cal) jp cal) jp cal) jp cal,
  fun nx jp cal => o_ald 1 (o_ic 71 (o_ic 3 (o_newI (o_dup (o_ic 0 (o_ic 0 (o_iast (o_dup (o_ic 1 (o_ic 0 (o_iast (o_dup (o_ic 2 (o_ic 0 (o_iast (o_invSq 132 3 (o_ic 2294967295 (o_if2 42 p_ne nx jp cal) jp cal) jp cal) jp cal) jp cal) jp cal) jp cal) jp cal) jp cal) jp cal) jp cal) jp cal) jp cal) jp cal) jp cal) jp cal) jp cal) jp cal) jp cal,
  fun nx jp cal => o_ald 1 (o_ic 84 (o_ic 0 (o_newI (o_invSq 132 3 (o_ic 2294967293 (o_if2 42 p_ne nx jp cal) jp cal) jp cal) jp cal) jp cal) jp cal) jp cal,
  fun nx jp cal => o_ald 1 (o_ic 105 (o_ic 1 (o_newI (o_dup (o_ic 0 (o_ic 0 (o_iast (o_invSq 132 3 (o_if 42 p_ne0 nx jp cal) jp cal) jp cal) jp cal) jp cal) jp cal) jp cal) jp cal) jp cal) jp cal,
  fun nx jp cal => o_ald 1 (o_ic 105 (o_ic 1 (o_newI (o_dup (o_ic 0 (o_ic 2 (o_iast (o_invSq 132 3 (o_ic 2294967294 (o_if2 42 p_ne nx jp cal) jp cal) jp cal) jp cal) jp cal) jp cal) jp cal) jp cal) jp cal) jp cal) jp cal,
  fun nx jp cal => o_ald 1 (o_ic 109 (o_ic 1 (o_newI (o_dup (o_ic 0 (o_ic 2 (o_iast (o_invSq 132 3 (o_ic 2294967294 (o_if2 42 p_ne nx jp cal) jp cal) jp cal) jp cal) jp cal) jp cal) jp cal) jp cal) jp cal) jp cal) jp cal,
  fun nx jp cal => o_ald 1 (o_ic 109 (o_ic 1 (o_newI (o_dup (o_ic 0 (o_ic 0 (o_iast (o_invSq 132 3 (o_ic 2294967293 (o_if2 42 p_ne nx jp cal) jp cal) jp cal) jp cal) jp cal) jp cal) jp cal) jp cal) jp cal) jp cal) jp cal,
  fun nx jp cal => o_ald 1 (o_ic 97 (o_ic 2 (o_newI (o_dup (o_ic 0 (o_ic 0 (o_iast (o_dup (o_ic 1 (o_ic 0 (o_iast (o_invSq 132 3 (o_ic 2294967293 (o_if2 42 p_ne nx jp cal) jp cal) jp cal) jp cal) jp cal) jp cal) jp cal) jp cal) jp cal) jp cal) jp cal) jp cal) jp cal) jp cal) jp cal,
  fun nx jp cal => o_ald 1 (o_ic 117 (o_ic 2 (o_newI (o_dup (o_ic 0 (o_ic 0 (o_iast (o_dup (o_ic 1 (o_ic 0 (o_iast (o_invSq 132 3 (o_ic 2294967293 (o_if2 42 p_ne nx jp cal) jp cal) jp cal) jp cal) jp cal) jp cal) jp cal) jp cal) jp cal) jp cal) jp cal) jp cal) jp cal) jp cal) jp cal,
  fun nx jp cal => o_ald 1 (o_ic 98 (o_ic 2 (o_newI (o_dup (o_ic 0 (o_ic 0 (o_iast (o_dup (o_ic 1 (o_ic 0 (o_iast (o_invSq 132 3 (o_ic 2294967293 (o_if2 42 p_ne nx jp cal) jp cal) jp cal) jp cal) jp cal) jp cal) jp cal) jp cal) jp cal) jp cal) jp cal) jp cal) jp cal) jp cal) jp cal,
  fun nx jp cal => o_ald 1 (o_ic 82 (o_ic 1 (o_newI (o_dup (o_ic 0 (o_ic 0 (o_iast (o_invSq 132 3 (o_ic 2294967295 (o_if2 42 p_ne nx jp cal) jp cal) jp cal) jp cal) jp cal) jp cal) jp cal) jp cal) jp cal) jp cal) jp cal,
  fun nx jp cal => o_ald 1 (o_ic 116 (o_ic 3 (o_newI (o_dup (o_ic 0 (o_ic 0 (o_iast (o_dup (o_ic 1 (o_ic 1 (o_iast (o_dup (o_ic 2 (o_ic 1 (o_iast (o_invSq 132 3 (o_ic 2294967295 (o_if2 42 p_ne nx jp cal) jp cal) jp cal) jp cal) jp cal) jp cal) jp cal) jp cal) jp cal) jp cal) jp cal) jp cal) jp cal) jp cal) jp cal) jp cal) jp cal) jp cal) jp cal,
  fun nx jp cal => o_ald 1 (o_ic 110 (o_ic 0 (o_newI (o_invSq 132 3 (o_ic 2294967293 (o_if2 42 p_ne nx jp cal) jp cal) jp cal) jp cal) jp cal) jp cal) jp cal,
  fun nx jp cal => o_ald 1 (o_ic 115 (o_ic 1 (o_newI (o_dup (o_ic 0 (o_ic 0 (o_iast (o_invSq 132 3 (o_ic 2294967293 (o_if2 42 p_ne nx jp cal) jp cal) jp cal) jp cal) jp cal) jp cal) jp cal) jp cal) jp cal) jp cal) jp cal,
  fun nx jp cal => o_ald 1 (o_ic 88 (o_ic 1 (o_newI (o_dup (o_ic 0 (o_ic 0 (o_iast (o_invSq 132 3 (o_ic 2294967295 (o_if2 42 p_ne nx jp cal) jp cal) jp cal) jp cal) jp cal) jp cal) jp cal) jp cal) jp cal) jp cal) jp cal,
  fun nx jp cal => o_ald 1 (o_ic 67 (o_ic 0 (o_newI (o_invSq 132 3 (o_ic 2294967293 (o_if2 42 p_ne nx jp cal) jp cal) jp cal) jp cal) jp cal) jp cal) jp cal,
  fun nx jp cal => o_ald 1 (o_ic 99 (o_ic 2 (o_newI (o_dup (o_ic 0 (o_ic 0 (o_iast (o_dup (o_ic 1 (o_ic 120 (o_iast (o_invSq 132 3 (o_ic 2294967295 (o_if2 42 p_ne nx jp cal) jp cal) jp cal) jp cal) jp cal) jp cal) jp cal) jp cal) jp cal) jp cal) jp cal) jp cal) jp cal) jp cal) jp cal,
  fun nx jp cal => o_ald 1 (o_ic 90 (o_ic 2 (o_newI (o_dup (o_ic 0 (o_ic 0 (o_iast (o_dup (o_ic 1 (o_ic 0 (o_iast (o_invSq 132 3 (o_ic 2294967295 (o_if2 42 p_ne nx jp cal) jp cal) jp cal) jp cal) jp cal) jp cal) jp cal) jp cal) jp cal) jp cal) jp cal) jp cal) jp cal) jp cal) jp cal,
  fun nx jp cal => o_ald 1 (o_ic 86 (o_ic 2 (o_newI (o_dup (o_ic 0 (o_ic 2 (o_iast (o_dup (o_ic 1 (o_ic 0 (o_iast (o_invSq 132 3 (o_ic 2294967295 (o_if2 42 p_ne nx jp cal) jp cal) jp cal) jp cal) jp cal) jp cal) jp cal) jp cal) jp cal) jp cal) jp cal) jp cal) jp cal) jp cal) jp cal,
  fun nx jp cal => o_ald 1 (o_ic 100 (o_ic 2 (o_newI (o_dup (o_ic 0 (o_ic 0 (o_iast (o_dup (o_ic 1 (o_ic 120 (o_iast (o_invSq 132 3 (o_ic 2294967295 (o_if2 42 p_ne nx jp cal) jp cal) jp cal) jp cal) jp cal) jp cal) jp cal) jp cal) jp cal) jp cal) jp cal) jp cal) jp cal) jp cal) jp cal,
  fun nx jp cal => o_ald 1 (o_ic 108 (o_ic 1 (o_newI (o_dup (o_ic 0 (o_ic 0 (o_iast (o_invSq 132 3 (o_ic 2294967295 (o_if2 42 p_ne nx jp cal) jp cal) jp cal) jp cal) jp cal) jp cal) jp cal) jp cal) jp cal) jp cal) jp cal,
  fun nx jp cal => o_ald 1 (o_ic 76 (o_ic 1 (o_newI (o_dup (o_ic 0 (o_ic 0 (o_iast (o_invSq 132 3 (o_ic 2294967291 (o_if2 42 p_ne nx jp cal) jp cal) jp cal) jp cal) jp cal) jp cal) jp cal) jp cal) jp cal) jp cal) jp cal,
  fun nx jp cal => o_ald 1 (o_ic 70 (o_ic 0 (o_newI (o_invSq 132 3 (o_ic 2294967292 (o_if2 43 p_eq nx jp cal) jp cal) jp cal) jp cal) jp cal) jp cal) jp cal,
  o_no,
  fun nx jp cal => o_sld 0 (o_invSq 2 1 (o_if 47 p_eq0 nx jp cal) jp cal) jp cal,
  fun nx jp cal => o_sld 0 (o_invSq 3 1 (o_if 47 p_eq0 nx jp cal) jp cal) jp cal,
  fun nx jp cal => o_sld 0 (o_invSq 4 1 (o_if 47 p_eq0 nx jp cal) jp cal) jp cal,
  fun nx jp cal => o_ic 1 (o_go 48 nx jp cal) jp cal,
  o_no,
  o_bret 1]
noncomputable def k_L_reviews : List Op := [fun nx jp cal => o_new 11 8 [.inr (.inl 0), .inr (.inl 0), .inr (.inl 0), .inr (.inl 0), .inr (.inl 0), .inr (.inl 0), .inr (.inl 0), .inr (.inl 0)] (o_dup (o_invI 5 1 (o_ast 0 (o_ald 1 (o_ic 9 (o_ic 20 (o_invS 133 3 (o_if 4 p_eq0 nx jp cal) jp cal) jp cal) jp cal) jp cal) jp cal) jp cal) jp cal) jp cal,
  fun nx jp cal => o_ald 1 (o_ic 86 (o_ic 2 (o_newI (o_dup (o_ic 0 (o_ic 0 (o_iast (o_dup (o_ic 1 (o_ic 1 (o_iast (o_invS 132 3 (o_ic 2294967293 (o_if2 4 p_ne nx jp cal) jp cal) jp cal) jp cal) jp cal) jp cal) jp cal) jp cal) jp cal) jp cal) jp cal) jp cal) jp cal) jp cal) jp cal,
  fun nx jp cal => o_ald 1 (o_ic 82 (o_ic 1 (o_newI (o_dup (o_ic 0 (o_ic 0 (o_iast (o_invS 132 3 (o_if 4 p_ne0 nx jp cal) jp cal) jp cal) jp cal) jp cal) jp cal) jp cal) jp cal) jp cal) jp cal,
  fun nx jp cal => o_ald 1 (o_ic 86 (o_ic 2 (o_newI (o_dup (o_ic 0 (o_ic 0 (o_iast (o_dup (o_ic 1 (o_ic 1 (o_iast (o_invS 132 3 (o_ic 2294967293 (o_if2 5 p_eq nx jp cal) jp cal) jp cal) jp cal) jp cal) jp cal) jp cal) jp cal) jp cal) jp cal) jp cal) jp cal) jp cal) jp cal) jp cal,
  o_no,
  fun nx jp cal => o_sld 0 (o_ic 10 (o_invS 0 2 (o_ic 64 (o_invS 1 2 (o_ist 1 (o_ic 0 (o_ist 2 (o_ic 0 (o_ist 3 nx jp cal) jp cal) jp cal) jp cal) jp cal) jp cal) jp cal) jp cal) jp cal) jp cal,
  fun nx jp cal => o_ild 4 (o_ic 3 (o_if2 27 p_ge nx jp cal) jp cal) jp cal,
  fun nx jp cal => o_ild 2 (o_ild 4 (o_shr (o_ic 1 (o_bin f_and (o_ic 1 (o_if2 9 p_ne nx jp cal) jp cal) jp cal) jp cal) jp cal) jp cal) jp cal,
  fun nx jp cal => o_ic 1 (o_go 10 nx jp cal) jp cal,
  o_ic 0,
  fun nx jp cal => o_ist 4 (o_ild 2 (o_ic 3 (o_ild 4 (o_bin f_add (o_shr (o_ic 1 (o_bin f_and (o_ic 1 (o_if2 12 p_ne nx jp cal) jp cal) jp cal) jp cal) jp cal) jp cal) jp cal) jp cal) jp cal) jp cal,
  fun nx jp cal => o_ic 1 (o_go 13 nx jp cal) jp cal,
  o_ic 0,
  fun nx jp cal => o_ist 5 (o_ild 3 (o_ild 6 (o_if 15 p_eq0 nx jp cal) jp cal) jp cal) jp cal,
  fun nx jp cal => o_ic 1 (o_go 16 nx jp cal) jp cal,
  o_ic 0,
  fun nx jp cal => o_bin f_add (o_ist 2 (o_ald 1 (o_ic 116 (o_ic 3 (o_newI (o_dup (o_ic 0 (o_ic 1 (o_ic 2 (o_ild 4 (o_bin f_mul (o_bin f_add (o_iast (o_dup (o_ic 1 (o_ild 5 (o_if 18 p_eq0 nx jp cal) jp cal) jp cal) jp cal) jp cal) jp cal) jp cal) jp cal) jp cal) jp cal) jp cal) jp cal) jp cal) jp cal) jp cal) jp cal) jp cal) jp cal,
  fun nx jp cal => o_ic 1 (o_go 19 nx jp cal) jp cal,
  o_ic 0,
  fun nx jp cal => o_iast (o_dup (o_ic 2 (o_ild 6 (o_if 21 p_eq0 nx jp cal) jp cal) jp cal) jp cal) jp cal,
  fun nx jp cal => o_ic 1 (o_go 22 nx jp cal) jp cal,
  o_ic 0,
  fun nx jp cal => o_iast (o_invS 132 3 (o_ic 2 (o_ild 4 (o_bin f_mul (o_ic 2 (o_bin f_add (o_if2 25 p_ne nx jp cal) jp cal) jp cal) jp cal) jp cal) jp cal) jp cal) jp cal,
  fun nx jp cal => o_ald 1 (o_ic 116 (o_ic 3 (o_newI (o_dup (o_ic 0 (o_ic 1 (o_ic 2 (o_ild 4 (o_bin f_mul (o_bin f_add (o_iast (o_dup (o_ic 1 (o_ic 1 (o_iast (o_dup (o_ic 2 (o_ic 1 (o_iast (o_invS 132 3 (o_ic 2294967292 (o_if2 25 p_ne nx jp cal) jp cal) jp cal) jp cal) jp cal) jp cal) jp cal) jp cal) jp cal) jp cal) jp cal) jp cal) jp cal) jp cal) jp cal) jp cal) jp cal) jp cal) jp cal) jp cal) jp cal) jp cal) jp cal,
  fun nx jp cal => o_ald 1 (o_ic 116 (o_ic 3 (o_newI (o_dup (o_ic 0 (o_ic 0 (o_iast (o_dup (o_ic 1 (o_ic 1 (o_iast (o_dup (o_ic 2 (o_ic 1 (o_iast (o_invS 132 3 (o_ic 2294967292 (o_if2 26 p_eq nx jp cal) jp cal) jp cal) jp cal) jp cal) jp cal) jp cal) jp cal) jp cal) jp cal) jp cal) jp cal) jp cal) jp cal) jp cal) jp cal) jp cal) jp cal) jp cal,
  o_no,
  fun nx jp cal => o_inc 4 1 (o_go 6 nx jp cal) jp cal,
  fun nx jp cal => o_ald 1 (o_ic 110 (o_ic 0 (o_newI (o_invS 132 3 (o_ic 2294967292 (o_if2 38 p_ne nx jp cal) jp cal) jp cal) jp cal) jp cal) jp cal) jp cal,
  fun nx jp cal => o_ald 1 (o_ic 67 (o_ic 0 (o_newI (o_invS 132 3 (o_ild 3 (o_if2 38 p_ne nx jp cal) jp cal) jp cal) jp cal) jp cal) jp cal) jp cal,
  fun nx jp cal => o_ald 1 (o_ic 105 (o_ic 1 (o_newI (o_dup (o_ic 0 (o_ic 0 (o_iast (o_invS 132 3 (o_ild 3 (o_if2 38 p_ne nx jp cal) jp cal) jp cal) jp cal) jp cal) jp cal) jp cal) jp cal) jp cal) jp cal) jp cal,
  fun nx jp cal => o_ald 1 (o_ic 109 (o_ic 1 (o_newI (o_dup (o_ic 0 (o_ic 1 (o_iast (o_invS 132 3 (o_ic 4 (o_ild 3 (o_bin f_sub (o_if2 38 p_ne nx jp cal) jp cal) jp cal) jp cal) jp cal) jp cal) jp cal) jp cal) jp cal) jp cal) jp cal) jp cal) jp cal,
  fun nx jp cal => o_ald 1 (o_ic 100 (o_ic 2 (o_newI (o_dup (o_ic 0 (o_ic 0 (o_iast (o_dup (o_ic 1 (o_ic 114 (o_iast (o_invS 132 3 (o_ild 3 (o_if2 38 p_ne nx jp cal) jp cal) jp cal) jp cal) jp cal) jp cal) jp cal) jp cal) jp cal) jp cal) jp cal) jp cal) jp cal) jp cal) jp cal,
  fun nx jp cal => o_ald 1 (o_ic 100 (o_ic 2 (o_newI (o_dup (o_ic 0 (o_ic 0 (o_iast (o_dup (o_ic 1 (o_ic 115 (o_iast (o_invS 132 3 (o_ild 3 (o_ic 3 (o_if2 34 p_ne nx jp cal) jp cal) jp cal) jp cal) jp cal) jp cal) jp cal) jp cal) jp cal) jp cal) jp cal) jp cal) jp cal) jp cal) jp cal) jp cal,
  fun nx jp cal => o_ic 1 (o_go 35 nx jp cal) jp cal,
  o_ic 0,
  o_if2 38 p_ne,
  fun nx jp cal => o_ald 1 (o_ic 100 (o_ic 2 (o_newI (o_dup (o_ic 0 (o_ic 0 (o_iast (o_dup (o_ic 1 (o_ic 110 (o_iast (o_invS 132 3 (o_ic 1 (o_if2 38 p_ne nx jp cal) jp cal) jp cal) jp cal) jp cal) jp cal) jp cal) jp cal) jp cal) jp cal) jp cal) jp cal) jp cal) jp cal) jp cal,
  fun nx jp cal => o_ald 1 (o_ic 100 (o_ic 2 (o_newI (o_dup (o_ic 0 (o_ic 0 (o_iast (o_dup (o_ic 1 (o_ic 116 (o_iast (o_invS 132 3 (o_if 39 p_eq0 nx jp cal) jp cal) jp cal) jp cal) jp cal) jp cal) jp cal) jp cal) jp cal) jp cal) jp cal) jp cal) jp cal) jp cal,
  o_no,
  fun nx jp cal => o_sld 0 (o_ic 11 (o_invS 0 2 (o_ic 2 (o_invS 1 2 (o_ist 3 (o_ild 3 (o_ist 4 (o_ic 4 (o_ild 3 (o_bin f_sub (o_ist 5 (o_ic 0 (o_ist 6 (o_ald 1 (o_ic 86 (o_ic 2 (o_newI (o_dup (o_ic 0 (o_ild 4 (o_iast (o_dup (o_ic 1 (o_ic 7 (o_iast (o_invS 132 3 (o_ic 2294967292 (o_if2 42 p_ne nx jp cal) jp cal) jp cal) jp cal) jp cal) jp cal) jp cal) jp cal) jp cal) jp cal) jp cal) jp cal) jp cal) jp cal) jp cal) jp cal) jp cal) jp cal) jp cal) jp cal) jp cal) jp cal) jp cal) jp cal) jp cal) jp cal) jp cal) jp cal) jp cal,
  fun nx jp cal => o_ald 1 (o_ic 86 (o_ic 2 (o_newI (o_dup (o_ic 0 (o_ic 2 (o_iast (o_dup (o_ic 1 (o_ic 1 (o_iast (o_invS 132 3 (o_ic 2294967294 (o_if2 42 p_ne nx jp cal) jp cal) jp cal) jp cal) jp cal) jp cal) jp cal) jp cal) jp cal) jp cal) jp cal) jp cal) jp cal) jp cal) jp cal,
  fun nx jp cal => o_ald 1 (o_ic 86 (o_ic 2 (o_newI (o_dup (o_ic 0 (o_ic 2 (o_iast (o_dup (o_ic 1 (o_ic 99 (o_iast (o_invS 132 3 (o_ic 2294967295 (o_if2 43 p_eq nx jp cal) jp cal) jp cal) jp cal) jp cal) jp cal) jp cal) jp cal) jp cal) jp cal) jp cal) jp cal) jp cal) jp cal) jp cal,
  o_no,
  fun nx jp cal => o_ic 0 (o_ist 7 nx jp cal) jp cal,
  fun nx jp cal => o_ild 8 (o_ic 3 (o_if2 78 p_ge nx jp cal) jp cal) jp cal,
  fun nx jp cal => o_ild 2 (o_ild 8 (o_shr (o_ic 1 (o_bin f_and (o_ic 1 (o_if2 47 p_ne nx jp cal) jp cal) jp cal) jp cal) jp cal) jp cal) jp cal,
  fun nx jp cal => o_ic 1 (o_go 48 nx jp cal) jp cal,
  o_ic 0,
  fun nx jp cal => o_ist 8 (o_ild 2 (o_ic 3 (o_ild 8 (o_bin f_add (o_shr (o_ic 1 (o_bin f_and (o_ic 1 (o_if2 50 p_ne nx jp cal) jp cal) jp cal) jp cal) jp cal) jp cal) jp cal) jp cal) jp cal) jp cal,
  fun nx jp cal => o_ic 1 (o_go 51 nx jp cal) jp cal,
  o_ic 0,
  fun nx jp cal => o_ist 9 (o_ild 9 (o_ild 10 (o_if2 53 p_eq nx jp cal) jp cal) jp cal) jp cal,
  fun nx jp cal => o_ic 1 (o_go 54 nx jp cal) jp cal,
  o_ic 0,
  fun nx jp cal => o_ist 10 (o_ild 7 (o_if 56 p_eq0 nx jp cal) jp cal) jp cal,
  fun nx jp cal => o_ic 2294967292 (o_go 59 nx jp cal) jp cal,
  fun nx jp cal => o_ild 11 (o_if 58 p_eq0 nx jp cal) jp cal,
  fun nx jp cal => o_ic 1 (o_go 59 nx jp cal) jp cal,
  o_ic 0,
  fun nx jp cal => o_ist 11 (o_ald 1 (o_ic 86 (o_ic 2 (o_newI (o_dup (o_ic 0 (o_ild 4 (o_iast (o_dup (o_ic 1 (o_ic 1 (o_ic 2 (o_ild 8 (o_bin f_mul (o_bin f_add (o_iast (o_invS 132 3 (o_ild 12 (o_if2 61 p_eq nx jp cal) jp cal) jp cal) jp cal) jp cal) jp cal) jp cal) jp cal) jp cal) jp cal) jp cal) jp cal) jp cal) jp cal) jp cal) jp cal) jp cal) jp cal) jp cal) jp cal,
  o_no,
  fun nx jp cal => o_ild 12 (o_ic 1 (o_if2 69 p_ne nx jp cal) jp cal) jp cal,
  fun nx jp cal => o_ild 5 (o_ild 9 (o_if 64 p_eq0 nx jp cal) jp cal) jp cal,
  fun nx jp cal => o_ic 1 (o_go 65 nx jp cal) jp cal,
  o_ic 4294967295,
  fun nx jp cal => o_bin f_add (o_ist 4 (o_ild 6 (o_ild 9 (o_if 67 p_eq0 nx jp cal) jp cal) jp cal) jp cal) jp cal,
  fun nx jp cal => o_ic 4294967295 (o_go 68 nx jp cal) jp cal,
  o_ic 1,
  fun nx jp cal => o_bin f_add (o_ist 5 nx jp cal) jp cal,
  fun nx jp cal => o_ild 7 (o_if 71 p_ne0 nx jp cal) jp cal,
  fun nx jp cal => o_ild 11 (o_if 72 p_ne0 nx jp cal) jp cal,
  fun nx jp cal => o_ic 1 (o_go 73 nx jp cal) jp cal,
  o_ic 0,
  fun nx jp cal => o_ist 6 (o_ald 1 (o_ic 86 (o_ic 2 (o_newI (o_dup (o_ic 0 (o_ild 4 (o_iast (o_dup (o_ic 1 (o_ic 1 (o_ic 2 (o_ild 8 (o_bin f_mul (o_bin f_add (o_iast (o_invS 132 3 (o_ic 2294967292 (o_if2 76 p_ne nx jp cal) jp cal) jp cal) jp cal) jp cal) jp cal) jp cal) jp cal) jp cal) jp cal) jp cal) jp cal) jp cal) jp cal) jp cal) jp cal) jp cal) jp cal) jp cal) jp cal,
  fun nx jp cal => o_ald 1 (o_ic 105 (o_ic 1 (o_newI (o_dup (o_ic 0 (o_ic 0 (o_iast (o_invS 132 3 (o_ild 5 (o_if2 76 p_ne nx jp cal) jp cal) jp cal) jp cal) jp cal) jp cal) jp cal) jp cal) jp cal) jp cal) jp cal,
  fun nx jp cal => o_ald 1 (o_ic 109 (o_ic 1 (o_newI (o_dup (o_ic 0 (o_ic 1 (o_iast (o_invS 132 3 (o_ild 6 (o_if2 77 p_eq nx jp cal) jp cal) jp cal) jp cal) jp cal) jp cal) jp cal) jp cal) jp cal) jp cal) jp cal,
  o_no,
  fun nx jp cal => o_inc 8 1 (o_go 44 nx jp cal) jp cal,
  fun nx jp cal => o_ald 1 (o_ic 100 (o_ic 2 (o_newI (o_dup (o_ic 0 (o_ic 0 (o_iast (o_dup (o_ic 1 (o_ic 114 (o_iast (o_invS 132 3 (o_ild 3 (o_if2 82 p_ne nx jp cal) jp cal) jp cal) jp cal) jp cal) jp cal) jp cal) jp cal) jp cal) jp cal) jp cal) jp cal) jp cal) jp cal) jp cal,
  fun nx jp cal => o_ald 1 (o_invV 33 1 11 (o_ild 3 (o_i2d (o_dcmp (o_if 82 p_ne0 nx jp cal) jp cal) jp cal) jp cal) jp cal) jp cal,
  fun nx jp cal => o_ald 1 (o_invV 27 1 11 (o_if 82 p_eq0 nx jp cal) jp cal) jp cal,
  fun nx jp cal => o_ic 1 (o_go 83 nx jp cal) jp cal,
  o_no,
  o_bret 1]
noncomputable def t_L_at : En := (([o_atb], []), (yL_at, (cL_at, (2, (some .int, [])))))
noncomputable def t_some (vs : List (Nat × (Nat × Nat))) : En := (([o_smb vs], [.inr (.inr (.inr (.inr (.inr 2))))]), (yL_some, (cL_some, (3, (some .int, [])))))
noncomputable def t_L_some : En := t_some []
noncomputable def t_L_cards : En := ((k_L_cards, [.inr (.inr (.inr (.inr (.inr 2)))), .inr (.inr (.inr (.inr (.inr 2)))), .inr (.inr (.inr (.inr (.inr 2)))), .inr (.inr (.inr (.inr (.inr 2)))), .inr (.inr (.inr (.inr (.inr 2)))), .inr (.inr (.inr (.inr (.inr 2)))), .inr (.inr (.inr (.inr (.inr 2)))), .inr (.inr (.inr (.inr (.inr 2)))), .inr (.inr (.inr (.inr (.inr 2))))]), (yL_cards, (cL_cards, (10, ((Option.some FieldType.boolean), [])))))
noncomputable def t_L_empties : En := ((k_L_empties, [.inr (.inr (.inr (.inr (.inr 2)))), .inr (.inr (.inr (.inr (.inr 2)))), .inr (.inr (.inr (.inr (.inr 2)))), .inr (.inr (.inr (.inr (.inr 2)))), .inr (.inr (.inr (.inr (.inr 2)))), .inr (.inr (.inr (.inr (.inr 2)))), .inr (.inr (.inr (.inr (.inr 2)))), .inr (.inr (.inr (.inr (.inr 2))))]), (yL_empties, (cL_empties, (9, ((Option.some FieldType.boolean), [])))))
noncomputable def t_L_law : En := ((k_L_law, [.inr (.inr (.inr (.inr (.inr 2))))]), (yL_law, (cL_law, (2, ((Option.some FieldType.boolean), [])))))
noncomputable def t_L_reviews : En := ((k_L_reviews, [.inr (.inr (.inr (.inr (.inr 2)))), .inr (.inr (.inr (.inr (.inr 2)))), .inr (.inr (.inr (.inr (.inr 2)))), .inr (.inr (.inr (.inr (.inr 2)))), .inr (.inr (.inr (.inr (.inr 2)))), .inr (.inr (.inr (.inr (.inr 2)))), .inr (.inr (.inr (.inr (.inr 2)))), .inr (.inr (.inr (.inr (.inr 2)))), .inr (.inr (.inr (.inr (.inr 2)))), .inr (.inr (.inr (.inr (.inr 2)))), .inr (.inr (.inr (.inr (.inr 2)))), .inr (.inr (.inr (.inr (.inr 2))))]), (yL_reviews, (cL_reviews, (13, ((Option.some FieldType.boolean), [])))))
noncomputable def tabT : List En := t_L_at :: t_L_some :: t_L_cards :: t_L_reviews :: t_L_empties :: tab
theorem en5_L_at : tabT[0]? = some t_L_at := rfl
theorem en5_L_some : tabT[1]? = some t_L_some := rfl
theorem en5_L_cards : tabT[2]? = some t_L_cards := rfl
theorem en5_L_reviews : tabT[3]? = some t_L_reviews := rfl
theorem en5_L_empties : tabT[4]? = some t_L_empties := rfl
theorem en5 {y : Nat} {e : En} (h : tab[y]? = some e) : tabT[y + 5]? = some e := by
  unfold tabT
  simp only [List.getElem?_cons_succ]
  exact h
theorem en5_X11_init : tabT[5]? = some t_X11_init := en5 (y := 0) en_X11_init
theorem en5_X11_allOut : tabT[6]? = some t_X11_allOut := en5 (y := 1) en_X11_allOut
theorem en5_X11_arePursesRight : tabT[7]? = some t_X11_arePursesRight := en5 (y := 2) en_X11_arePursesRight
theorem en5_X11_baseOf : tabT[8]? = some t_X11_baseOf := en5 (y := 3) en_X11_baseOf
theorem en5_X11_begin : tabT[9]? = some t_X11_begin := en5 (y := 4) en_X11_begin
theorem en5_X11_benchAt : tabT[10]? = some t_X11_benchAt := en5 (y := 5) en_X11_benchAt
theorem en5_X11_bid : tabT[11]? = some t_X11_bid := en5 (y := 6) en_X11_bid
theorem en5_X11_bonus : tabT[12]? = some t_X11_bonus := en5 (y := 7) en_X11_bonus
theorem en5_X11_bringHome : tabT[13]? = some t_X11_bringHome := en5 (y := 8) en_X11_bringHome
theorem en5_X11_canTake : tabT[14]? = some t_X11_canTake := en5 (y := 9) en_X11_canTake
theorem en5_X11_card : tabT[15]? = some t_X11_card := en5 (y := 10) en_X11_card
theorem en5_X11_champion : tabT[16]? = some t_X11_champion := en5 (y := 11) en_X11_champion
theorem en5_X11_checksum : tabT[17]? = some t_X11_checksum := en5 (y := 12) en_X11_checksum
theorem en5_X11_closeRaid : tabT[18]? = some t_X11_closeRaid := en5 (y := 13) en_X11_closeRaid
theorem en5_X11_comeBack : tabT[19]? = some t_X11_comeBack := en5 (y := 14) en_X11_comeBack
theorem en5_X11_edition : tabT[20]? = some t_X11_edition := en5 (y := 15) en_X11_edition
theorem en5_X11_emptyShare : tabT[21]? = some t_X11_emptyShare := en5 (y := 16) en_X11_emptyShare
theorem en5_X11_endSittings : tabT[22]? = some t_X11_endSittings := en5 (y := 17) en_X11_endSittings
theorem en5_X11_goesOn : tabT[23]? = some t_X11_goesOn := en5 (y := 18) en_X11_goesOn
theorem en5_X11_isAbility : tabT[24]? = some t_X11_isAbility := en5 (y := 19) en_X11_isAbility
theorem en5_X11_isEachInOnePlace : tabT[25]? = some t_X11_isEachInOnePlace := en5 (y := 20) en_X11_isEachInOnePlace
theorem en5_X11_isEachInOneSquad : tabT[26]? = some t_X11_isEachInOneSquad := en5 (y := 21) en_X11_isEachInOneSquad
theorem en5_X11_isTrue : tabT[27]? = some t_X11_isTrue := en5 (y := 22) en_X11_isTrue
theorem en5_X11_knockDown : tabT[28]? = some t_X11_knockDown := en5 (y := 23) en_X11_knockDown
theorem en5_X11_league : tabT[29]? = some t_X11_league := en5 (y := 24) en_X11_league
theorem en5_X11_lowestBid : tabT[30]? = some t_X11_lowestBid := en5 (y := 25) en_X11_lowestBid
theorem en5_X11_matAt : tabT[31]? = some t_X11_matAt := en5 (y := 26) en_X11_matAt
theorem en5_X11_match : tabT[32]? = some t_X11_match := en5 (y := 27) en_X11_match
theorem en5_X11_meanPoints : tabT[33]? = some t_X11_meanPoints := en5 (y := 28) en_X11_meanPoints
theorem en5_X11_needPause : tabT[34]? = some t_X11_needPause := en5 (y := 29) en_X11_needPause
theorem en5_X11_needPlayer : tabT[35]? = some t_X11_needPlayer := en5 (y := 30) en_X11_needPlayer
theorem en5_X11_needRaid : tabT[36]? = some t_X11_needRaid := en5 (y := 31) en_X11_needRaid
theorem en5_X11_needSide : tabT[37]? = some t_X11_needSide := en5 (y := 32) en_X11_needSide
theorem en5_X11_needSquad : tabT[38]? = some t_X11_needSquad := en5 (y := 33) en_X11_needSquad
theorem en5_X11_onMat : tabT[39]? = some t_X11_onMat := en5 (y := 34) en_X11_onMat
theorem en5_X11_outAt : tabT[40]? = some t_X11_outAt := en5 (y := 35) en_X11_outAt
theorem en5_X11_placed : tabT[41]? = some t_X11_placed := en5 (y := 36) en_X11_placed
theorem en5_X11_player : tabT[42]? = some t_X11_player := en5 (y := 37) en_X11_player
theorem en5_X11_playingSide : tabT[43]? = some t_X11_playingSide := en5 (y := 38) en_X11_playingSide
theorem en5_X11_points : tabT[44]? = some t_X11_points := en5 (y := 39) en_X11_points
theorem en5_X11_present : tabT[45]? = some t_X11_present := en5 (y := 40) en_X11_present
theorem en5_X11_purse : tabT[46]? = some t_X11_purse := en5 (y := 41) en_X11_purse
theorem en5_X11_putRight : tabT[47]? = some t_X11_putRight := en5 (y := 42) en_X11_putRight
theorem en5_X11_putUp : tabT[48]? = some t_X11_putUp := en5 (y := 43) en_X11_putUp
theorem en5_X11_raid : tabT[49]? = some t_X11_raid := en5 (y := 44) en_X11_raid
theorem en5_X11_raids : tabT[50]? = some t_X11_raids := en5 (y := 45) en_X11_raids
theorem en5_X11_review : tabT[51]? = some t_X11_review := en5 (y := 46) en_X11_review
theorem en5_X11_season : tabT[52]? = some t_X11_season := en5 (y := 47) en_X11_season
theorem en5_X11_sell : tabT[53]? = some t_X11_sell := en5 (y := 48) en_X11_sell
theorem en5_X11_squad : tabT[54]? = some t_X11_squad := en5 (y := 49) en_X11_squad
theorem en5_X11_squadOf : tabT[55]? = some t_X11_squadOf := en5 (y := 50) en_X11_squadOf
theorem en5_X11_stepOut : tabT[56]? = some t_X11_stepOut := en5 (y := 51) en_X11_stepOut
theorem en5_X11_struggle : tabT[57]? = some t_X11_struggle := en5 (y := 52) en_X11_struggle
theorem en5_X11_substitute : tabT[58]? = some t_X11_substitute := en5 (y := 53) en_X11_substitute
theorem en5_X11_takeTouched : tabT[59]? = some t_X11_takeTouched := en5 (y := 54) en_X11_takeTouched
theorem en5_X11_told : tabT[60]? = some t_X11_told := en5 (y := 55) en_X11_told
theorem en5_X11_touch : tabT[61]? = some t_X11_touch := en5 (y := 56) en_X11_touch
theorem en5_X11_turn : tabT[62]? = some t_X11_turn := en5 (y := 57) en_X11_turn
theorem en5_X11_wouldEmptyMat : tabT[63]? = some t_X11_wouldEmptyMat := en5 (y := 58) en_X11_wouldEmptyMat
theorem en5_X0_init : tabT[64]? = some t_X0_init := en5 (y := 59) en_X0_init
theorem en5_X0_close : tabT[65]? = some t_X0_close := en5 (y := 60) en_X0_close
theorem en5_X0_isOpen : tabT[66]? = some t_X0_isOpen := en5 (y := 61) en_X0_isOpen
theorem en5_X0_open : tabT[67]? = some t_X0_open := en5 (y := 62) en_X0_open
theorem en5_X0_take : tabT[68]? = some t_X0_take := en5 (y := 63) en_X0_take
theorem en5_X1_init : tabT[69]? = some t_X1_init := en5 (y := 64) en_X1_init
theorem en5_X1_enter : tabT[70]? = some t_X1_enter := en5 (y := 65) en_X1_enter
theorem en5_X1_enterResult : tabT[71]? = some t_X1_enterResult := en5 (y := 66) en_X1_enterResult
theorem en5_X1_enterResultOf : tabT[72]? = some t_X1_enterResultOf := en5 (y := 67) en_X1_enterResultOf
theorem en5_X1_isBetter : tabT[73]? = some t_X1_isBetter := en5 (y := 68) en_X1_isBetter
theorem en5_X1_placeOf : tabT[74]? = some t_X1_placeOf := en5 (y := 69) en_X1_placeOf
theorem en5_X1_squadAt : tabT[75]? = some t_X1_squadAt := en5 (y := 70) en_X1_squadAt
theorem en5_X1_startAnew : tabT[76]? = some t_X1_startAnew := en5 (y := 71) en_X1_startAnew
theorem en5_X2_init : tabT[77]? = some t_X2_init := en5 (y := 72) en_X2_init
theorem en5_X2_change : tabT[78]? = some t_X2_change := en5 (y := 73) en_X2_change
theorem en5_X3_init : tabT[79]? = some t_X3_init := en5 (y := 74) en_X3_init
theorem en5_X3_append : tabT[80]? = some t_X3_append := en5 (y := 75) en_X3_append
theorem en5_X3_at : tabT[81]? = some t_X3_at := en5 (y := 76) en_X3_at
theorem en5_X3_clear : tabT[82]? = some t_X3_clear := en5 (y := 77) en_X3_clear
theorem en5_X3_has : tabT[83]? = some t_X3_has := en5 (y := 78) en_X3_has
theorem en5_X3_insertByNumber : tabT[84]? = some t_X3_insertByNumber := en5 (y := 79) en_X3_insertByNumber
theorem en5_X3_remove : tabT[85]? = some t_X3_remove := en5 (y := 80) en_X3_remove
theorem en5_X4_init : tabT[86]? = some t_X4_init := en5 (y := 81) en_X4_init
theorem en5_X4_defenders : tabT[87]? = some t_X4_defenders := en5 (y := 82) en_X4_defenders
theorem en5_X4_isDecided : tabT[88]? = some t_X4_isDecided := en5 (y := 83) en_X4_isDecided
theorem en5_X4_lastDefenders : tabT[89]? = some t_X4_lastDefenders := en5 (y := 84) en_X4_lastDefenders
theorem en5_X4_lastRaiders : tabT[90]? = some t_X4_lastRaiders := en5 (y := 85) en_X4_lastRaiders
theorem en5_X4_raiders : tabT[91]? = some t_X4_raiders := en5 (y := 86) en_X4_raiders
theorem en5_X4_sideAt : tabT[92]? = some t_X4_sideAt := en5 (y := 87) en_X4_sideAt
theorem en5_X4_sideInTurn : tabT[93]? = some t_X4_sideInTurn := en5 (y := 88) en_X4_sideInTurn
theorem en5_X4_sideOfRaid : tabT[94]? = some t_X4_sideOfRaid := en5 (y := 89) en_X4_sideOfRaid
theorem en5_X4_sideOfSquad : tabT[95]? = some t_X4_sideOfSquad := en5 (y := 90) en_X4_sideOfSquad
theorem en5_X4_sideWith : tabT[96]? = some t_X4_sideWith := en5 (y := 91) en_X4_sideWith
theorem en5_X4_start : tabT[97]? = some t_X4_start := en5 (y := 92) en_X4_start
theorem en5_X5_init : tabT[98]? = some t_X5_init := en5 (y := 93) en_X5_init
theorem en5_X5_brought : tabT[99]? = some t_X5_brought := en5 (y := 94) en_X5_brought
theorem en5_X5_forget : tabT[100]? = some t_X5_forget := en5 (y := 95) en_X5_forget
theorem en5_X5_hasBreathFor : tabT[101]? = some t_X5_hasBreathFor := en5 (y := 96) en_X5_hasBreathFor
theorem en5_X5_isCalled : tabT[102]? = some t_X5_isCalled := en5 (y := 97) en_X5_isCalled
theorem en5_X5_isReviewable : tabT[103]? = some t_X5_isReviewable := en5 (y := 98) en_X5_isReviewable
theorem en5_X5_isTouched : tabT[104]? = some t_X5_isTouched := en5 (y := 99) en_X5_isTouched
theorem en5_X5_isWrong : tabT[105]? = some t_X5_isWrong := en5 (y := 100) en_X5_isWrong
theorem en5_X5_markReviewed : tabT[106]? = some t_X5_markReviewed := en5 (y := 101) en_X5_markReviewed
theorem en5_X5_markTold : tabT[107]? = some t_X5_markTold := en5 (y := 102) en_X5_markTold
theorem en5_X5_spend : tabT[108]? = some t_X5_spend := en5 (y := 103) en_X5_spend
theorem en5_X5_start : tabT[109]? = some t_X5_start := en5 (y := 104) en_X5_start
theorem en5_X6_init : tabT[110]? = some t_X6_init := en5 (y := 105) en_X6_init
theorem en5_X6_enter : tabT[111]? = some t_X6_enter := en5 (y := 106) en_X6_enter
theorem en5_X6_paidBy : tabT[112]? = some t_X6_paidBy := en5 (y := 107) en_X6_paidBy
theorem en5_X6_release : tabT[113]? = some t_X6_release := en5 (y := 108) en_X6_release
theorem en5_X6_sizeOf : tabT[114]? = some t_X6_sizeOf := en5 (y := 109) en_X6_sizeOf
theorem en5_X7_init : tabT[115]? = some t_X7_init := en5 (y := 110) en_X7_init
theorem en5_X7_add : tabT[116]? = some t_X7_add := en5 (y := 111) en_X7_add
theorem en5_X7_fill : tabT[117]? = some t_X7_fill := en5 (y := 112) en_X7_fill
theorem en5_X7_get : tabT[118]? = some t_X7_get := en5 (y := 113) en_X7_get
theorem en5_X7_set : tabT[119]? = some t_X7_set := en5 (y := 114) en_X7_set
theorem en5_X8_init : tabT[120]? = some t_X8_init := en5 (y := 115) en_X8_init
theorem en5_X8_change : tabT[121]? = some t_X8_change := en5 (y := 116) en_X8_change
theorem en5_X8_comeOn : tabT[122]? = some t_X8_comeOn := en5 (y := 117) en_X8_comeOn
theorem en5_X8_goOut : tabT[123]? = some t_X8_goOut := en5 (y := 118) en_X8_goOut
theorem en5_X8_isInPlay : tabT[124]? = some t_X8_isInPlay := en5 (y := 119) en_X8_isInPlay
theorem en5_X8_lineUp : tabT[125]? = some t_X8_lineUp := en5 (y := 120) en_X8_lineUp
theorem en5_X8_placesOf : tabT[126]? = some t_X8_placesOf := en5 (y := 121) en_X8_placesOf
theorem en5_X8_revive : tabT[127]? = some t_X8_revive := en5 (y := 122) en_X8_revive
theorem en5_X8_sendOff : tabT[128]? = some t_X8_sendOff := en5 (y := 123) en_X8_sendOff
theorem en5_X9_init : tabT[129]? = some t_X9_init := en5 (y := 124) en_X9_init
theorem en5_X9_record : tabT[130]? = some t_X9_record := en5 (y := 125) en_X9_record
theorem en5_X10_init : tabT[131]? = some t_X10_init := en5 (y := 126) en_X10_init
theorem en5_L_ask : tabT[132]? = some t_L_ask := en5 (y := 127) en_L_ask
theorem en5_L_begin : tabT[133]? = some t_L_begin := en5 (y := 128) en_L_begin
theorem en5_L_hasNone : tabT[134]? = some t_L_hasNone := en5 (y := 129) en_L_hasNone
