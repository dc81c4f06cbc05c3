/-! every instruction of the program, 2 -/
set_option maxRecDepth 1000000 in
theorem z_all_154 : zchk 154 17 = true := by decide +kernel
set_option maxRecDepth 1000000 in
theorem z_all_171 : zchk 171 11 = true := by decide +kernel
set_option maxRecDepth 1000000 in
theorem z_all_182 : zchk 182 13 = true := by decide +kernel
set_option maxRecDepth 1000000 in
theorem z_all_195 : zchk 195 3 = true := by decide +kernel
set_option maxRecDepth 1000000 in
theorem z_all_199 : zchk 199 17 = true := by decide +kernel
