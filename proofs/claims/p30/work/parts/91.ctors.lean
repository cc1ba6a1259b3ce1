/-! the constructors, row by row -/
section CTORS
variable {E : am_E}
set_option maxRecDepth 100000 in
theorem ctor_lex_6 {Q : am_Q} (h : Q none (Mem 10 8 0)) : am_X E 52 (0, (3, 372), [some (amR 6)], [], Mem 7 5 0) Q := by
  refine x_al cc52 rfl rfl ?_
  refine y_oinit cc52 rfl rfl ?_
  refine x_al cc52 rfl rfl ?_
  refine x_si cc52 rfl (by decide) ?_
  refine y_newa (bd2 := (2, 12)) cc52 rfl rfl (by decide) rfl rfl rfl rfl rfl ?_
  refine y_putA cc52 rfl rfl rfl rfl rfl ?_
  refine x_al cc52 rfl rfl ?_
  refine x_bi cc52 rfl (by decide) ?_
  refine y_newa (bd2 := (1, 6)) cc52 rfl rfl (by decide) rfl rfl rfl rfl rfl ?_
  refine y_putA cc52 rfl rfl rfl rfl rfl ?_
  refine x_al cc52 rfl rfl ?_
  refine x_bi cc52 rfl (by decide) ?_
  refine y_newa (bd2 := (0, 0)) cc52 rfl rfl (by decide) rfl rfl rfl rfl rfl ?_
  refine y_putA cc52 rfl rfl rfl rfl rfl ?_
  exact y_vret cc52 rfl rfl h
set_option maxRecDepth 100000 in
theorem ctor_cut_11 {Q : am_Q} (h : Q none (Mem 21 19 0)) : am_X E 65 (0, (9, 390), [some (amR 11)], [], Mem 12 10 0) Q := by
  refine x_al cc65 rfl rfl ?_
  refine y_oinit cc65 rfl rfl ?_
  refine x_al cc65 rfl rfl ?_
  refine x_bi cc65 rfl (by decide) ?_
  refine y_newa (bd2 := (8, 360)) cc65 rfl rfl (by decide) rfl rfl rfl rfl rfl ?_
  refine y_putA cc65 rfl rfl rfl rfl rfl ?_
  refine x_al cc65 rfl rfl ?_
  refine x_bi cc65 rfl (by decide) ?_
  refine y_newa (bd2 := (7, 330)) cc65 rfl rfl (by decide) rfl rfl rfl rfl rfl ?_
  refine y_putA cc65 rfl rfl rfl rfl rfl ?_
  refine x_al cc65 rfl rfl ?_
  refine x_bi cc65 rfl (by decide) ?_
  refine y_newa (bd2 := (6, 300)) cc65 rfl rfl (by decide) rfl rfl rfl rfl rfl ?_
  refine y_putA cc65 rfl rfl rfl rfl rfl ?_
  refine x_al cc65 rfl rfl ?_
  refine x_bi cc65 rfl (by decide) ?_
  refine y_newa (bd2 := (5, 270)) cc65 rfl rfl (by decide) rfl rfl rfl rfl rfl ?_
  refine y_putA cc65 rfl rfl rfl rfl rfl ?_
  refine x_al cc65 rfl rfl ?_
  refine x_bi cc65 rfl (by decide) ?_
  refine y_newa (bd2 := (4, 240)) cc65 rfl rfl (by decide) rfl rfl rfl rfl rfl ?_
  refine y_putA cc65 rfl rfl rfl rfl rfl ?_
  refine x_al cc65 rfl rfl ?_
  refine x_bi cc65 rfl (by decide) ?_
  show am_X E 65 (24, (4, 240), [some (amR 11)], [amI 60, amR 11], Mem 17 15 0) Q
  refine y_newa (bd2 := (3, 180)) cc65 rfl rfl (by decide) rfl rfl rfl rfl rfl ?_
  refine y_putA cc65 rfl rfl rfl rfl rfl ?_
  refine x_al cc65 rfl rfl ?_
  refine x_bi cc65 rfl (by decide) ?_
  refine y_newa (bd2 := (2, 120)) cc65 rfl rfl (by decide) rfl rfl rfl rfl rfl ?_
  refine y_putA cc65 rfl rfl rfl rfl rfl ?_
  refine x_al cc65 rfl rfl ?_
  refine x_bi cc65 rfl (by decide) ?_
  refine y_newa (bd2 := (1, 60)) cc65 rfl rfl (by decide) rfl rfl rfl rfl rfl ?_
  refine y_putA cc65 rfl rfl rfl rfl rfl ?_
  refine x_al cc65 rfl rfl ?_
  refine x_bi cc65 rfl (by decide) ?_
  refine y_newa (bd2 := (0, 0)) cc65 rfl rfl (by decide) rfl rfl rfl rfl rfl ?_
  refine y_putA cc65 rfl rfl rfl rfl rfl ?_
  exact y_vret cc65 rfl rfl h
set_option maxRecDepth 100000 in
theorem ctor_stress_21 {Q : am_Q} (h : Q none (Mem 29 27 0)) : am_X E 76 (0, (7, 390), [some (amR 21)], [], Mem 22 20 0) Q := by
  refine x_al cc76 rfl rfl ?_
  refine y_oinit cc76 rfl rfl ?_
  refine x_al cc76 rfl rfl ?_
  refine x_bi cc76 rfl (by decide) ?_
  refine y_newa (bd2 := (6, 330)) cc76 rfl rfl (by decide) rfl rfl rfl rfl rfl ?_
  refine y_putA cc76 rfl rfl rfl rfl rfl ?_
  refine x_al cc76 rfl rfl ?_
  refine x_bi cc76 rfl (by decide) ?_
  refine y_newa (bd2 := (5, 270)) cc76 rfl rfl (by decide) rfl rfl rfl rfl rfl ?_
  refine y_putA cc76 rfl rfl rfl rfl rfl ?_
  refine x_al cc76 rfl rfl ?_
  refine x_bi cc76 rfl (by decide) ?_
  refine y_newa (bd2 := (4, 210)) cc76 rfl rfl (by decide) rfl rfl rfl rfl rfl ?_
  refine y_putA cc76 rfl rfl rfl rfl rfl ?_
  refine x_al cc76 rfl rfl ?_
  refine x_bi cc76 rfl (by decide) ?_
  refine y_newa (bd2 := (3, 150)) cc76 rfl rfl (by decide) rfl rfl rfl rfl rfl ?_
  refine y_putA cc76 rfl rfl rfl rfl rfl ?_
  refine x_al cc76 rfl rfl ?_
  refine x_bi cc76 rfl (by decide) ?_
  refine y_newa (bd2 := (2, 90)) cc76 rfl rfl (by decide) rfl rfl rfl rfl rfl ?_
  refine y_putA cc76 rfl rfl rfl rfl rfl ?_
  refine x_al cc76 rfl rfl ?_
  refine x_bi cc76 rfl (by decide) ?_
  show am_X E 76 (24, (2, 90), [some (amR 21)], [amI 60, amR 21], Mem 27 25 0) Q
  refine y_newa (bd2 := (1, 30)) cc76 rfl rfl (by decide) rfl rfl rfl rfl rfl ?_
  refine y_putA cc76 rfl rfl rfl rfl rfl ?_
  refine x_al cc76 rfl rfl ?_
  refine x_bi cc76 rfl (by decide) ?_
  refine y_newa (bd2 := (0, 0)) cc76 rfl rfl (by decide) rfl rfl rfl rfl rfl ?_
  refine y_putA cc76 rfl rfl rfl rfl rfl ?_
  exact y_vret cc76 rfl rfl h
set_option maxRecDepth 100000 in
theorem ctor_stress_29 {Q : am_Q} (h : Q none (Mem 37 35 0)) : am_X E 76 (0, (7, 390), [some (amR 29)], [], Mem 30 28 0) Q := by
  refine x_al cc76 rfl rfl ?_
  refine y_oinit cc76 rfl rfl ?_
  refine x_al cc76 rfl rfl ?_
  refine x_bi cc76 rfl (by decide) ?_
  refine y_newa (bd2 := (6, 330)) cc76 rfl rfl (by decide) rfl rfl rfl rfl rfl ?_
  refine y_putA cc76 rfl rfl rfl rfl rfl ?_
  refine x_al cc76 rfl rfl ?_
  refine x_bi cc76 rfl (by decide) ?_
  refine y_newa (bd2 := (5, 270)) cc76 rfl rfl (by decide) rfl rfl rfl rfl rfl ?_
  refine y_putA cc76 rfl rfl rfl rfl rfl ?_
  refine x_al cc76 rfl rfl ?_
  refine x_bi cc76 rfl (by decide) ?_
  refine y_newa (bd2 := (4, 210)) cc76 rfl rfl (by decide) rfl rfl rfl rfl rfl ?_
  refine y_putA cc76 rfl rfl rfl rfl rfl ?_
  refine x_al cc76 rfl rfl ?_
  refine x_bi cc76 rfl (by decide) ?_
  refine y_newa (bd2 := (3, 150)) cc76 rfl rfl (by decide) rfl rfl rfl rfl rfl ?_
  refine y_putA cc76 rfl rfl rfl rfl rfl ?_
  refine x_al cc76 rfl rfl ?_
  refine x_bi cc76 rfl (by decide) ?_
  refine y_newa (bd2 := (2, 90)) cc76 rfl rfl (by decide) rfl rfl rfl rfl rfl ?_
  refine y_putA cc76 rfl rfl rfl rfl rfl ?_
  refine x_al cc76 rfl rfl ?_
  refine x_bi cc76 rfl (by decide) ?_
  show am_X E 76 (24, (2, 90), [some (amR 29)], [amI 60, amR 29], Mem 35 33 0) Q
  refine y_newa (bd2 := (1, 30)) cc76 rfl rfl (by decide) rfl rfl rfl rfl rfl ?_
  refine y_putA cc76 rfl rfl rfl rfl rfl ?_
  refine x_al cc76 rfl rfl ?_
  refine x_bi cc76 rfl (by decide) ?_
  refine y_newa (bd2 := (0, 0)) cc76 rfl rfl (by decide) rfl rfl rfl rfl rfl ?_
  refine y_putA cc76 rfl rfl rfl rfl rfl ?_
  exact y_vret cc76 rfl rfl h
set_option maxRecDepth 100000 in
theorem ctor_sheet_37 {Q : am_Q} (h : Q none (Mem 40 38 12)) : am_X E 57 (0, (2, 120), [some (amR 37)], [], Mem 38 36 11) Q := by
  refine x_al cc57 rfl rfl ?_
  refine y_oinit cc57 rfl rfl ?_
  refine x_al cc57 rfl rfl ?_
  refine x_bi cc57 rfl (by decide) ?_
  refine y_newa (bd2 := (1, 60)) cc57 rfl rfl (by decide) rfl rfl rfl rfl rfl ?_
  refine y_putA cc57 rfl rfl rfl rfl rfl ?_
  refine x_al cc57 rfl rfl ?_
  refine x_bi cc57 rfl (by decide) ?_
  refine y_newa (bd2 := (0, 0)) cc57 rfl rfl (by decide) rfl rfl rfl rfl rfl ?_
  refine y_putA cc57 rfl rfl rfl rfl rfl ?_
  refine x_al cc57 rfl rfl ?_
  refine x_const cc57 rfl rfl (by decide) ?_
  refine y_putZ cc57 rfl rfl rfl rfl (by decide) rfl ?_
  exact y_vret cc57 rfl rfl h
set_option maxRecDepth 100000 in
theorem ctor_sheet_40 {Q : am_Q} (h : Q none (Mem 43 41 13)) : am_X E 57 (0, (2, 120), [some (amR 40)], [], Mem 41 39 12) Q := by
  refine x_al cc57 rfl rfl ?_
  refine y_oinit cc57 rfl rfl ?_
  refine x_al cc57 rfl rfl ?_
  refine x_bi cc57 rfl (by decide) ?_
  refine y_newa (bd2 := (1, 60)) cc57 rfl rfl (by decide) rfl rfl rfl rfl rfl ?_
  refine y_putA cc57 rfl rfl rfl rfl rfl ?_
  refine x_al cc57 rfl rfl ?_
  refine x_bi cc57 rfl (by decide) ?_
  refine y_newa (bd2 := (0, 0)) cc57 rfl rfl (by decide) rfl rfl rfl rfl rfl ?_
  refine y_putA cc57 rfl rfl rfl rfl rfl ?_
  refine x_al cc57 rfl rfl ?_
  refine x_const cc57 rfl rfl (by decide) ?_
  refine y_putZ cc57 rfl rfl rfl rfl (by decide) rfl ?_
  exact y_vret cc57 rfl rfl h
set_option maxRecDepth 100000 in
theorem ctor_sheet_43 {Q : am_Q} (h : Q none (Mem 46 44 14)) : am_X E 57 (0, (2, 120), [some (amR 43)], [], Mem 44 42 13) Q := by
  refine x_al cc57 rfl rfl ?_
  refine y_oinit cc57 rfl rfl ?_
  refine x_al cc57 rfl rfl ?_
  refine x_bi cc57 rfl (by decide) ?_
  refine y_newa (bd2 := (1, 60)) cc57 rfl rfl (by decide) rfl rfl rfl rfl rfl ?_
  refine y_putA cc57 rfl rfl rfl rfl rfl ?_
  refine x_al cc57 rfl rfl ?_
  refine x_bi cc57 rfl (by decide) ?_
  refine y_newa (bd2 := (0, 0)) cc57 rfl rfl (by decide) rfl rfl rfl rfl rfl ?_
  refine y_putA cc57 rfl rfl rfl rfl rfl ?_
  refine x_al cc57 rfl rfl ?_
  refine x_const cc57 rfl rfl (by decide) ?_
  refine y_putZ cc57 rfl rfl rfl rfl (by decide) rfl ?_
  exact y_vret cc57 rfl rfl h
set_option maxRecDepth 100000 in
theorem ctor_sheet_46 {Q : am_Q} (h : Q none (Mem 49 47 15)) : am_X E 57 (0, (2, 120), [some (amR 46)], [], Mem 47 45 14) Q := by
  refine x_al cc57 rfl rfl ?_
  refine y_oinit cc57 rfl rfl ?_
  refine x_al cc57 rfl rfl ?_
  refine x_bi cc57 rfl (by decide) ?_
  refine y_newa (bd2 := (1, 60)) cc57 rfl rfl (by decide) rfl rfl rfl rfl rfl ?_
  refine y_putA cc57 rfl rfl rfl rfl rfl ?_
  refine x_al cc57 rfl rfl ?_
  refine x_bi cc57 rfl (by decide) ?_
  refine y_newa (bd2 := (0, 0)) cc57 rfl rfl (by decide) rfl rfl rfl rfl rfl ?_
  refine y_putA cc57 rfl rfl rfl rfl rfl ?_
  refine x_al cc57 rfl rfl ?_
  refine x_const cc57 rfl rfl (by decide) ?_
  refine y_putZ cc57 rfl rfl rfl rfl (by decide) rfl ?_
  exact y_vret cc57 rfl rfl h
set_option maxRecDepth 100000 in
theorem ctor_words_0 (hE : EW E) {Q : am_Q} (h : Q none (Mem 49 48 15)) : am_X E 0 (0, (48, 2402), [some (amR 0), none], [], Mem 1 0 0) Q := by
  refine x_al cc0 rfl rfl ?_
  refine y_oinit cc0 rfl rfl ?_
  refine x_al cc0 rfl rfl ?_
  refine x_bi cc0 rfl (by decide) ?_
  refine y_newa (bd2 := (47, 2342)) cc0 rfl rfl (by decide) rfl rfl rfl rfl rfl ?_
  refine y_putA cc0 rfl rfl rfl rfl rfl ?_
  refine x_al cc0 rfl rfl ?_
  refine x_bi cc0 rfl (by decide) ?_
  refine y_newa (bd2 := (46, 2333)) cc0 rfl rfl (by decide) rfl rfl rfl rfl rfl ?_
  refine y_putA cc0 rfl rfl rfl rfl rfl ?_
  refine x_al cc0 rfl rfl ?_
  refine x_bi cc0 rfl (by decide) ?_
  refine y_newa (bd2 := (45, 2324)) cc0 rfl rfl (by decide) rfl rfl rfl rfl rfl ?_
  refine y_putA cc0 rfl rfl rfl rfl rfl ?_
  refine x_al cc0 rfl rfl ?_
  refine x_bi cc0 rfl (by decide) ?_
  refine y_newa (bd2 := (44, 2264)) cc0 rfl rfl (by decide) rfl rfl rfl rfl rfl ?_
  refine y_putA cc0 rfl rfl rfl rfl rfl ?_
  refine x_al cc0 rfl rfl ?_
  refine x_si cc0 rfl (by decide) ?_
  refine y_newa (bd2 := (43, 2084)) cc0 rfl rfl (by decide) rfl rfl rfl rfl rfl ?_
  refine y_putA cc0 rfl rfl rfl rfl rfl ?_
  refine x_al cc0 rfl rfl ?_
  refine y_new (bd2 := (42, 2080)) cc0 rfl rfl rfl rfl rfl rfl rfl ?_
  show am_X E 0 (24, (42, 2080), [some (amR 0), none], [amR 6, amR 0], Mem 7 5 0) Q
  refine x_dup cc0 rfl rfl ?_
  refine y_ctor cc0 rfl rfl rfl rfl (ctor_lex_6 ?_)
  show am_X E 0 (26, (39, 1708), [some (amR 0), none], [amR 6, amR 0], Mem 10 8 0) Q
  refine y_putA cc0 rfl rfl rfl rfl rfl ?_
  refine x_al cc0 rfl rfl ?_
  refine x_const cc0 rfl rfl (by decide) ?_
  refine y_anewa (bd2 := (38, 1704)) cc0 rfl rfl (by decide) rfl rfl rfl rfl rfl ?_
  refine y_putA cc0 rfl rfl rfl rfl rfl ?_
  refine x_al cc0 rfl rfl ?_
  refine y_new (bd2 := (37, 1692)) cc0 rfl rfl rfl rfl rfl rfl rfl ?_
  refine x_dup cc0 rfl rfl ?_
  refine y_ctor cc0 rfl rfl rfl rfl (ctor_cut_11 ?_)
  show am_X E 0 (35, (28, 1302), [some (amR 0), none], [amR 11, amR 0], Mem 21 19 0) Q
  refine y_putA cc0 rfl rfl rfl rfl rfl ?_
  refine x_al cc0 rfl rfl ?_
  refine y_new (bd2 := (27, 1291)) cc0 rfl rfl rfl rfl rfl rfl rfl ?_
  refine x_dup cc0 rfl rfl ?_
  refine y_ctor cc0 rfl rfl rfl rfl (ctor_stress_21 ?_)
  show am_X E 0 (40, (20, 901), [some (amR 0), none], [amR 21, amR 0], Mem 29 27 0) Q
  refine y_putA cc0 rfl rfl rfl rfl rfl ?_
  refine x_al cc0 rfl rfl ?_
  refine y_new (bd2 := (19, 890)) cc0 rfl rfl rfl rfl rfl rfl rfl ?_
  refine x_dup cc0 rfl rfl ?_
  refine y_ctor cc0 rfl rfl rfl rfl (ctor_stress_29 ?_)
  show am_X E 0 (45, (12, 500), [some (amR 0), none], [amR 29, amR 0], Mem 37 35 0) Q
  refine y_putA cc0 rfl rfl rfl rfl rfl ?_
  refine x_al cc0 rfl rfl ?_
  refine x_const cc0 rfl rfl (by decide) ?_
  refine y_putZ cc0 rfl rfl rfl rfl (by decide) rfl ?_
  show am_X E 0 (49, (12, 500), [some (amR 0), none], [], Mem 37 36 1) Q
  refine x_al cc0 rfl rfl ?_
  refine x_const cc0 rfl rfl (by decide) ?_
  refine y_putZ cc0 rfl rfl rfl rfl (by decide) rfl ?_
  refine x_const cc0 rfl rfl (by decide) ?_
  refine x_is (ls2 := [some (amR 0), some (amI 0)]) cc0 rfl rfl rfl ?_
  refine x_il cc0 rfl rfl ?_
  refine x_bi cc0 rfl (by decide) ?_
  refine x_ige cc0 rfl (fun _ => ?_) (fun c => absurd (by decide) c)
  refine x_al cc0 rfl rfl ?_
  refine x_getA (v := some 2) cc0 rfl rfl rfl rfl rfl ?_
  refine x_il cc0 rfl rfl ?_
  refine x_gets cc0 rfl rfl ?_
  refine x_il cc0 rfl rfl ?_
  refine y_sc cc0 rfl rfl rfl rfl (y_at (v := 0) hE (by decide) (by decide) (EW.least hE (k := 0) (by decide) rfl) ?_)
  show am_X E 0 (63, (12, 500), [some (amR 0), some (amI 0)], [amI 0, amI 0, amR 2], Mem 37 36 2) Q
  refine y_sc cc0 rfl rfl rfl rfl (y_set rfl rfl (by decide) (by decide) rfl ?_)
  show am_X E 0 (64, (12, 500), [some (amR 0), some (amI 0)], [], Mem 37 36 3) Q
  refine x_inc (ls2 := [some (amR 0), some (amI 1)]) cc0 rfl rfl rfl rfl (by decide) ?_
  refine x_goto cc0 rfl ?_
  refine x_il cc0 rfl rfl ?_
  refine x_bi cc0 rfl (by decide) ?_
  refine x_ige cc0 rfl (fun _ => ?_) (fun c => absurd (by decide) c)
  refine x_al cc0 rfl rfl ?_
  refine x_getA (v := some 2) cc0 rfl rfl rfl rfl rfl ?_
  refine x_il cc0 rfl rfl ?_
  refine x_gets cc0 rfl rfl ?_
  refine x_il cc0 rfl rfl ?_
  show am_X E 0 (62, (12, 500), [some (amR 0), some (amI 1)], [amI 1, amR 1000, amI 1, amR 2], Mem 37 36 3) Q
  refine y_sc cc0 rfl rfl rfl rfl (y_at (v := 1) hE (by decide) (by decide) (EW.least hE (k := 1) (by decide) rfl) ?_)
  show am_X E 0 (63, (12, 500), [some (amR 0), some (amI 1)], [amI 1, amI 1, amR 2], Mem 37 36 3) Q
  refine y_sc cc0 rfl rfl rfl rfl (y_set rfl rfl (by decide) (by decide) rfl ?_)
  show am_X E 0 (64, (12, 500), [some (amR 0), some (amI 1)], [], Mem 37 36 4) Q
  refine x_inc (ls2 := [some (amR 0), some (amI 2)]) cc0 rfl rfl rfl rfl (by decide) ?_
  refine x_goto cc0 rfl ?_
  refine x_il cc0 rfl rfl ?_
  refine x_bi cc0 rfl (by decide) ?_
  refine x_ige cc0 rfl (fun _ => ?_) (fun c => absurd (by decide) c)
  refine x_al cc0 rfl rfl ?_
  refine x_getA (v := some 2) cc0 rfl rfl rfl rfl rfl ?_
  refine x_il cc0 rfl rfl ?_
  refine x_gets cc0 rfl rfl ?_
  refine x_il cc0 rfl rfl ?_
  refine y_sc cc0 rfl rfl rfl rfl (y_at (v := 0) hE (by decide) (by decide) (EW.least hE (k := 2) (by decide) rfl) ?_)
  show am_X E 0 (63, (12, 500), [some (amR 0), some (amI 2)], [amI 0, amI 2, amR 2], Mem 37 36 4) Q
  refine y_sc cc0 rfl rfl rfl rfl (y_set rfl rfl (by decide) (by decide) rfl ?_)
  show am_X E 0 (64, (12, 500), [some (amR 0), some (amI 2)], [], Mem 37 36 5) Q
  refine x_inc (ls2 := [some (amR 0), some (amI 3)]) cc0 rfl rfl rfl rfl (by decide) ?_
  refine x_goto cc0 rfl ?_
  refine x_il cc0 rfl rfl ?_
  refine x_bi cc0 rfl (by decide) ?_
  refine x_ige cc0 rfl (fun _ => ?_) (fun c => absurd (by decide) c)
  refine x_al cc0 rfl rfl ?_
  refine x_getA (v := some 2) cc0 rfl rfl rfl rfl rfl ?_
  refine x_il cc0 rfl rfl ?_
  refine x_gets cc0 rfl rfl ?_
  refine x_il cc0 rfl rfl ?_
  refine y_sc cc0 rfl rfl rfl rfl (y_at (v := 0) hE (by decide) (by decide) (EW.least hE (k := 3) (by decide) rfl) ?_)
  show am_X E 0 (63, (12, 500), [some (amR 0), some (amI 3)], [amI 0, amI 3, amR 2], Mem 37 36 5) Q
  show am_X E 0 (63, (12, 500), [some (amR 0), some (amI 3)], [amI 0, amI 3, amR 2], Mem 37 36 5) Q
  refine y_sc cc0 rfl rfl rfl rfl (y_set rfl rfl (by decide) (by decide) rfl ?_)
  show am_X E 0 (64, (12, 500), [some (amR 0), some (amI 3)], [], Mem 37 36 6) Q
  refine x_inc (ls2 := [some (amR 0), some (amI 4)]) cc0 rfl rfl rfl rfl (by decide) ?_
  refine x_goto cc0 rfl ?_
  refine x_il cc0 rfl rfl ?_
  refine x_bi cc0 rfl (by decide) ?_
  refine x_ige cc0 rfl (fun _ => ?_) (fun c => absurd (by decide) c)
  refine x_al cc0 rfl rfl ?_
  refine x_getA (v := some 2) cc0 rfl rfl rfl rfl rfl ?_
  refine x_il cc0 rfl rfl ?_
  refine x_gets cc0 rfl rfl ?_
  refine x_il cc0 rfl rfl ?_
  refine y_sc cc0 rfl rfl rfl rfl (y_at (v := 0) hE (by decide) (by decide) (EW.least hE (k := 4) (by decide) rfl) ?_)
  show am_X E 0 (63, (12, 500), [some (amR 0), some (amI 4)], [amI 0, amI 4, amR 2], Mem 37 36 6) Q
  refine y_sc cc0 rfl rfl rfl rfl (y_set rfl rfl (by decide) (by decide) rfl ?_)
  show am_X E 0 (64, (12, 500), [some (amR 0), some (amI 4)], [], Mem 37 36 7) Q
  refine x_inc (ls2 := [some (amR 0), some (amI 5)]) cc0 rfl rfl rfl rfl (by decide) ?_
  refine x_goto cc0 rfl ?_
  refine x_il cc0 rfl rfl ?_
  refine x_bi cc0 rfl (by decide) ?_
  refine x_ige cc0 rfl (fun _ => ?_) (fun c => absurd (by decide) c)
  refine x_al cc0 rfl rfl ?_
  refine x_getA (v := some 2) cc0 rfl rfl rfl rfl rfl ?_
  refine x_il cc0 rfl rfl ?_
  refine x_gets cc0 rfl rfl ?_
  refine x_il cc0 rfl rfl ?_
  refine y_sc cc0 rfl rfl rfl rfl (y_at (v := 0) hE (by decide) (by decide) (EW.least hE (k := 5) (by decide) rfl) ?_)
  show am_X E 0 (63, (12, 500), [some (amR 0), some (amI 5)], [amI 0, amI 5, amR 2], Mem 37 36 7) Q
  refine y_sc cc0 rfl rfl rfl rfl (y_set rfl rfl (by decide) (by decide) rfl ?_)
  show am_X E 0 (64, (12, 500), [some (amR 0), some (amI 5)], [], Mem 37 36 8) Q
  show am_X E 0 (64, (12, 500), [some (amR 0), some (amI 5)], [], Mem 37 36 8) Q
  refine x_inc (ls2 := [some (amR 0), some (amI 6)]) cc0 rfl rfl rfl rfl (by decide) ?_
  refine x_goto cc0 rfl ?_
  refine x_il cc0 rfl rfl ?_
  refine x_bi cc0 rfl (by decide) ?_
  refine x_ige cc0 rfl (fun _ => ?_) (fun c => absurd (by decide) c)
  refine x_al cc0 rfl rfl ?_
  refine x_getA (v := some 2) cc0 rfl rfl rfl rfl rfl ?_
  refine x_il cc0 rfl rfl ?_
  refine x_gets cc0 rfl rfl ?_
  refine x_il cc0 rfl rfl ?_
  refine y_sc cc0 rfl rfl rfl rfl (y_at (v := 0) hE (by decide) (by decide) (EW.least hE (k := 6) (by decide) rfl) ?_)
  show am_X E 0 (63, (12, 500), [some (amR 0), some (amI 6)], [amI 0, amI 6, amR 2], Mem 37 36 8) Q
  refine y_sc cc0 rfl rfl rfl rfl (y_set rfl rfl (by decide) (by decide) rfl ?_)
  show am_X E 0 (64, (12, 500), [some (amR 0), some (amI 6)], [], Mem 37 36 9) Q
  refine x_inc (ls2 := [some (amR 0), some (amI 7)]) cc0 rfl rfl rfl rfl (by decide) ?_
  refine x_goto cc0 rfl ?_
  refine x_il cc0 rfl rfl ?_
  refine x_bi cc0 rfl (by decide) ?_
  refine x_ige cc0 rfl (fun _ => ?_) (fun c => absurd (by decide) c)
  refine x_al cc0 rfl rfl ?_
  refine x_getA (v := some 2) cc0 rfl rfl rfl rfl rfl ?_
  refine x_il cc0 rfl rfl ?_
  refine x_gets cc0 rfl rfl ?_
  refine x_il cc0 rfl rfl ?_
  refine y_sc cc0 rfl rfl rfl rfl (y_at (v := 0) hE (by decide) (by decide) (EW.least hE (k := 7) (by decide) rfl) ?_)
  show am_X E 0 (63, (12, 500), [some (amR 0), some (amI 7)], [amI 0, amI 7, amR 2], Mem 37 36 9) Q
  refine y_sc cc0 rfl rfl rfl rfl (y_set rfl rfl (by decide) (by decide) rfl ?_)
  show am_X E 0 (64, (12, 500), [some (amR 0), some (amI 7)], [], Mem 37 36 10) Q
  refine x_inc (ls2 := [some (amR 0), some (amI 8)]) cc0 rfl rfl rfl rfl (by decide) ?_
  show am_X E 0 (65, (12, 500), [some (amR 0), some (amI 8)], [], Mem 37 36 10) Q
  refine x_goto cc0 rfl ?_
  refine x_il cc0 rfl rfl ?_
  refine x_bi cc0 rfl (by decide) ?_
  refine x_ige cc0 rfl (fun _ => ?_) (fun c => absurd (by decide) c)
  refine x_al cc0 rfl rfl ?_
  refine x_getA (v := some 2) cc0 rfl rfl rfl rfl rfl ?_
  refine x_il cc0 rfl rfl ?_
  refine x_gets cc0 rfl rfl ?_
  refine x_il cc0 rfl rfl ?_
  refine y_sc cc0 rfl rfl rfl rfl (y_at (v := 0) hE (by decide) (by decide) (EW.least hE (k := 8) (by decide) rfl) ?_)
  show am_X E 0 (63, (12, 500), [some (amR 0), some (amI 8)], [amI 0, amI 8, amR 2], Mem 37 36 10) Q
  refine y_sc cc0 rfl rfl rfl rfl (y_set rfl rfl (by decide) (by decide) rfl ?_)
  show am_X E 0 (64, (12, 500), [some (amR 0), some (amI 8)], [], Mem 37 36 11) Q
  refine x_inc (ls2 := [some (amR 0), some (amI 9)]) cc0 rfl rfl rfl rfl (by decide) ?_
  refine x_goto cc0 rfl ?_
  refine x_il cc0 rfl rfl ?_
  refine x_bi cc0 rfl (by decide) ?_
  refine x_ige cc0 rfl (fun c => absurd c (by decide)) (fun _ => ?_)
  refine x_const cc0 rfl rfl (by decide) ?_
  refine x_is (ls2 := [some (amR 0), some (amI 0)]) cc0 rfl rfl rfl ?_
  refine x_il cc0 rfl rfl ?_
  refine x_al cc0 rfl rfl ?_
  refine x_getA (v := some 10) cc0 rfl rfl rfl rfl rfl ?_
  refine x_len (n := 4) cc0 rfl rfl (by decide) ?_
  refine x_ige cc0 rfl (fun _ => ?_) (fun c => absurd (by decide) c)
  refine x_al cc0 rfl rfl ?_
  refine x_getA (v := some 10) cc0 rfl rfl rfl rfl rfl ?_
  show am_X E 0 (75, (12, 500), [some (amR 0), some (amI 0)], [amR 10], Mem 37 36 11) Q
  refine x_il cc0 rfl rfl ?_
  refine y_new (bd2 := (11, 495)) cc0 rfl rfl rfl rfl rfl rfl rfl ?_
  refine x_dup cc0 rfl rfl ?_
  refine y_ctor cc0 rfl rfl rfl rfl (ctor_sheet_37 ?_)
  show am_X E 0 (79, (9, 375), [some (amR 0), some (amI 0)], [amR 37, amI 0, amR 10], Mem 40 38 12) Q
  refine y_aas cc0 rfl rfl rfl (by decide) rfl ?_
  refine x_inc (ls2 := [some (amR 0), some (amI 1)]) cc0 rfl rfl rfl rfl (by decide) ?_
  refine x_goto cc0 rfl ?_
  refine x_il cc0 rfl rfl ?_
  refine x_al cc0 rfl rfl ?_
  refine x_getA (v := some 10) cc0 rfl rfl rfl rfl rfl ?_
  refine x_len (n := 4) cc0 rfl rfl (by decide) ?_
  refine x_ige cc0 rfl (fun _ => ?_) (fun c => absurd (by decide) c)
  refine x_al cc0 rfl rfl ?_
  refine x_getA (v := some 10) cc0 rfl rfl rfl rfl rfl ?_
  refine x_il cc0 rfl rfl ?_
  refine y_new (bd2 := (8, 370)) cc0 rfl rfl rfl rfl rfl rfl rfl ?_
  refine x_dup cc0 rfl rfl ?_
  refine y_ctor cc0 rfl rfl rfl rfl (ctor_sheet_40 ?_)
  show am_X E 0 (79, (6, 250), [some (amR 0), some (amI 1)], [amR 40, amI 1, amR 10], Mem 43 41 13) Q
  refine y_aas cc0 rfl rfl rfl (by decide) rfl ?_
  refine x_inc (ls2 := [some (amR 0), some (amI 2)]) cc0 rfl rfl rfl rfl (by decide) ?_
  refine x_goto cc0 rfl ?_
  refine x_il cc0 rfl rfl ?_
  refine x_al cc0 rfl rfl ?_
  refine x_getA (v := some 10) cc0 rfl rfl rfl rfl rfl ?_
  refine x_len (n := 4) cc0 rfl rfl (by decide) ?_
  show am_X E 0 (72, (6, 250), [some (amR 0), some (amI 2)], [amI 4, amI 2], Mem 43 42 13) Q
  refine x_ige cc0 rfl (fun _ => ?_) (fun c => absurd (by decide) c)
  refine x_al cc0 rfl rfl ?_
  refine x_getA (v := some 10) cc0 rfl rfl rfl rfl rfl ?_
  refine x_il cc0 rfl rfl ?_
  refine y_new (bd2 := (5, 245)) cc0 rfl rfl rfl rfl rfl rfl rfl ?_
  refine x_dup cc0 rfl rfl ?_
  refine y_ctor cc0 rfl rfl rfl rfl (ctor_sheet_43 ?_)
  show am_X E 0 (79, (3, 125), [some (amR 0), some (amI 2)], [amR 43, amI 2, amR 10], Mem 46 44 14) Q
  refine y_aas cc0 rfl rfl rfl (by decide) rfl ?_
  refine x_inc (ls2 := [some (amR 0), some (amI 3)]) cc0 rfl rfl rfl rfl (by decide) ?_
  refine x_goto cc0 rfl ?_
  refine x_il cc0 rfl rfl ?_
  refine x_al cc0 rfl rfl ?_
  refine x_getA (v := some 10) cc0 rfl rfl rfl rfl rfl ?_
  refine x_len (n := 4) cc0 rfl rfl (by decide) ?_
  refine x_ige cc0 rfl (fun _ => ?_) (fun c => absurd (by decide) c)
  refine x_al cc0 rfl rfl ?_
  refine x_getA (v := some 10) cc0 rfl rfl rfl rfl rfl ?_
  refine x_il cc0 rfl rfl ?_
  refine y_new (bd2 := (2, 120)) cc0 rfl rfl rfl rfl rfl rfl rfl ?_
  refine x_dup cc0 rfl rfl ?_
  refine y_ctor cc0 rfl rfl rfl rfl (ctor_sheet_46 ?_)
  show am_X E 0 (79, (0, 0), [some (amR 0), some (amI 3)], [amR 46, amI 3, amR 10], Mem 49 47 15) Q
  refine y_aas cc0 rfl rfl rfl (by decide) rfl ?_
  refine x_inc (ls2 := [some (amR 0), some (amI 4)]) cc0 rfl rfl rfl rfl (by decide) ?_
  refine x_goto cc0 rfl ?_
  refine x_il cc0 rfl rfl ?_
  show am_X E 0 (69, (0, 0), [some (amR 0), some (amI 4)], [amI 4], Mem 49 48 15) Q
  refine x_al cc0 rfl rfl ?_
  refine x_getA (v := some 10) cc0 rfl rfl rfl rfl rfl ?_
  refine x_len (n := 4) cc0 rfl rfl (by decide) ?_
  refine x_ige cc0 rfl (fun c => absurd c (by decide)) (fun _ => ?_)
  exact y_vret cc0 rfl rfl h
set_option maxRecDepth 100000 in
theorem law_new (hE : EW E) {Q : am_Q} (h : am_X E 180 (10, BDL, [some (amR 1002), some (amR 0), some (amR 49), some (amR 50), none, none, none, none, none, none, none, none, none, none, none, none, none, none, none], [], Mem 51 48 15) Q) : am_X E 180 (0, (600000, 7302249), [some (amR 1002), none, none, none, none, none, none, none, none, none, none, none, none, none, none, none, none, none, none], [], Mem 0 0 0) Q := by
  refine y_new (bd2 := (599999, 7302232)) cc180 rfl rfl rfl rfl rfl rfl rfl ?_
  refine x_dup cc180 rfl rfl ?_
  refine y_ctor cc180 rfl rfl rfl rfl (ctor_words_0 hE ?_)
  show am_X E 180 (3, (599951, 7299830), [some (amR 1002), none, none, none, none, none, none, none, none, none, none, none, none, none, none, none, none, none, none], [amR 0], Mem 49 48 15) Q
  refine x_as (ls2 := [some (amR 1002), some (amR 0), none, none, none, none, none, none, none, none, none, none, none, none, none, none, none, none, none]) cc180 rfl rfl rfl ?_
  refine x_bi cc180 rfl (by decide) ?_
  refine y_newa (bd2 := (599950, 7299768)) cc180 rfl rfl (by decide) rfl rfl rfl rfl rfl ?_
  refine x_as (ls2 := [some (amR 1002), some (amR 0), some (amR 49), none, none, none, none, none, none, none, none, none, none, none, none, none, none, none, none]) cc180 rfl rfl rfl ?_
  refine x_bi cc180 rfl (by decide) ?_
  refine y_newa (bd2 := (599949, 7299759)) cc180 rfl rfl (by decide) rfl rfl rfl rfl rfl ?_
  refine x_as (ls2 := [some (amR 1002), some (amR 0), some (amR 49), some (amR 50), none, none, none, none, none, none, none, none, none, none, none, none, none, none, none]) cc180 rfl rfl rfl ?_
  exact h
end CTORS
