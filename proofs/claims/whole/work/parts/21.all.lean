/-! every instruction of the program, 0 -/
set_option maxRecDepth 1000000 in
theorem z_all_0 : zchk 0 46 = true := by decide +kernel
set_option maxRecDepth 1000000 in
theorem z_all_1 : zchk 46 52 = true := by decide +kernel
set_option maxRecDepth 1000000 in
theorem z_all_2 : zchk 98 25 = true := by decide +kernel
set_option maxRecDepth 1000000 in
theorem z_all_3 : zchk 123 26 = true := by decide +kernel
set_option maxRecDepth 1000000 in
theorem z_all_4 : zchk 149 27 = true := by decide +kernel
