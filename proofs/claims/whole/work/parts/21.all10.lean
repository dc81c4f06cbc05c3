/-! every instruction of the program, 10 -/
set_option maxRecDepth 1000000 in
theorem z_blk_301_47 : zchb 301 47 1 = true := by decide +kernel
set_option maxRecDepth 1000000 in
theorem z_blk_301_48 : zchb 301 48 1 = true := by decide +kernel
set_option maxRecDepth 1000000 in
theorem z_blk_301_49 : zchb 301 49 1 = true := by decide +kernel
set_option maxRecDepth 1000000 in
theorem z_blk_301_50 : zchb 301 50 1 = true := by decide +kernel
set_option maxRecDepth 1000000 in
theorem z_blk_301_51 : zchb 301 51 2 = true := by decide +kernel
