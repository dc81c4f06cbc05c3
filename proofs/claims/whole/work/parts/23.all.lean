/-! every instruction of the program, 2 -/
set_option maxRecDepth 1000000 in
theorem z_all_9 : zchk 247 15 = true := by decide +kernel
set_option maxRecDepth 1000000 in
theorem z_all_10 : zchk 262 18 = true := by decide +kernel
set_option maxRecDepth 1000000 in
theorem z_all_11 : zchk 280 21 = true := by decide +kernel
