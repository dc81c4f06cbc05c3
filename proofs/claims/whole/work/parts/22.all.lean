/-! every instruction of the program, 1 -/
set_option maxRecDepth 1000000 in
theorem z_all_5 : zchk 176 22 = true := by decide +kernel
set_option maxRecDepth 1000000 in
theorem z_all_6 : zchk 198 20 = true := by decide +kernel
set_option maxRecDepth 1000000 in
theorem z_all_7 : zchk 218 18 = true := by decide +kernel
set_option maxRecDepth 1000000 in
theorem z_all_8 : zchk 236 11 = true := by decide +kernel
