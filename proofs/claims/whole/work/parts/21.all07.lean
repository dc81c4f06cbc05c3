/-! every instruction of the program, 7 -/
set_option maxRecDepth 1000000 in
theorem z_blk_301_21 : zchb 301 21 1 = true := by decide +kernel
set_option maxRecDepth 1000000 in
theorem z_blk_301_22 : zchb 301 22 1 = true := by decide +kernel
set_option maxRecDepth 1000000 in
theorem z_blk_301_23 : zchb 301 23 1 = true := by decide +kernel
set_option maxRecDepth 1000000 in
theorem z_blk_301_24 : zchb 301 24 1 = true := by decide +kernel
set_option maxRecDepth 1000000 in
theorem z_blk_301_25 : zchb 301 25 1 = true := by decide +kernel
set_option maxRecDepth 1000000 in
theorem z_blk_301_26 : zchb 301 26 1 = true := by decide +kernel
set_option maxRecDepth 1000000 in
theorem z_blk_301_27 : zchb 301 27 1 = true := by decide +kernel
set_option maxRecDepth 1000000 in
theorem z_blk_301_28 : zchb 301 28 1 = true := by decide +kernel
set_option maxRecDepth 1000000 in
theorem z_blk_301_29 : zchb 301 29 1 = true := by decide +kernel
