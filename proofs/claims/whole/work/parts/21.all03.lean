/-! every instruction of the program, 3 -/
set_option maxRecDepth 1000000 in
theorem z_all_216 : zchk 216 8 = true := by decide +kernel
set_option maxRecDepth 1000000 in
theorem z_all_224 : zchk 224 7 = true := by decide +kernel
set_option maxRecDepth 1000000 in
theorem z_all_231 : zchk 231 8 = true := by decide +kernel
set_option maxRecDepth 1000000 in
theorem z_all_239 : zchk 239 4 = true := by decide +kernel
set_option maxRecDepth 1000000 in
theorem z_all_243 : zchk 243 4 = true := by decide +kernel
