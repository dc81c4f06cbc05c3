/-! every instruction of the program, 0 -/
set_option maxRecDepth 1000000 in
theorem z_all_0 : zchk 0 27 = true := by decide +kernel
set_option maxRecDepth 1000000 in
theorem z_all_27 : zchk 27 25 = true := by decide +kernel
set_option maxRecDepth 1000000 in
theorem z_all_52 : zchk 52 36 = true := by decide +kernel
set_option maxRecDepth 1000000 in
theorem z_all_88 : zchk 88 16 = true := by decide +kernel
