/-! every instruction of the program, 1 -/
set_option maxRecDepth 1000000 in
theorem z_all_104 : zchk 104 11 = true := by decide +kernel
set_option maxRecDepth 1000000 in
theorem z_all_115 : zchk 115 13 = true := by decide +kernel
set_option maxRecDepth 1000000 in
theorem z_all_128 : zchk 128 13 = true := by decide +kernel
set_option maxRecDepth 1000000 in
theorem z_all_141 : zchk 141 13 = true := by decide +kernel
