/-! every instruction of the program, 4 -/
set_option maxRecDepth 1000000 in
theorem z_all_248 : zchk 248 10 = true := by decide +kernel
set_option maxRecDepth 1000000 in
theorem z_all_258 : zchk 258 7 = true := by decide +kernel
set_option maxRecDepth 1000000 in
theorem z_all_265 : zchk 265 2 = true := by decide +kernel
set_option maxRecDepth 1000000 in
theorem z_all_267 : zchk 267 8 = true := by decide +kernel
set_option maxRecDepth 1000000 in
theorem z_all_275 : zchk 275 7 = true := by decide +kernel
