/-! every instruction of the program, 3 -/
set_option maxRecDepth 1000000 in
theorem z_all_12 : zchk 301 1 = true := by decide +kernel
