/-! every instruction of the program, 6 -/
set_option maxRecDepth 1000000 in
theorem z_blk_301_6 : zchb 301 6 2 = true := by decide +kernel
set_option maxRecDepth 1000000 in
theorem z_blk_301_8 : zchb 301 8 1 = true := by decide +kernel
set_option maxRecDepth 1000000 in
theorem z_blk_301_9 : zchb 301 9 2 = true := by decide +kernel
set_option maxRecDepth 1000000 in
theorem z_blk_301_11 : zchb 301 11 2 = true := by decide +kernel
set_option maxRecDepth 1000000 in
theorem z_blk_301_13 : zchb 301 13 1 = true := by decide +kernel
set_option maxRecDepth 1000000 in
theorem z_blk_301_14 : zchb 301 14 1 = true := by decide +kernel
set_option maxRecDepth 1000000 in
theorem z_blk_301_15 : zchb 301 15 1 = true := by decide +kernel
set_option maxRecDepth 1000000 in
theorem z_blk_301_16 : zchb 301 16 1 = true := by decide +kernel
set_option maxRecDepth 1000000 in
theorem z_blk_301_17 : zchb 301 17 3 = true := by decide +kernel
set_option maxRecDepth 1000000 in
theorem z_blk_301_20 : zchb 301 20 1 = true := by decide +kernel
