/-! every instruction of the program, 8 -/
set_option maxRecDepth 1000000 in
theorem z_blk_301_30 : zchb 301 30 1 = true := by decide +kernel
set_option maxRecDepth 1000000 in
theorem z_blk_301_31 : zchb 301 31 1 = true := by decide +kernel
set_option maxRecDepth 1000000 in
theorem z_blk_301_32 : zchb 301 32 1 = true := by decide +kernel
set_option maxRecDepth 1000000 in
theorem z_blk_301_33 : zchb 301 33 1 = true := by decide +kernel
set_option maxRecDepth 1000000 in
theorem z_blk_301_34 : zchb 301 34 1 = true := by decide +kernel
set_option maxRecDepth 1000000 in
theorem z_blk_301_35 : zchb 301 35 1 = true := by decide +kernel
set_option maxRecDepth 1000000 in
theorem z_blk_301_36 : zchb 301 36 1 = true := by decide +kernel
set_option maxRecDepth 1000000 in
theorem z_blk_301_37 : zchb 301 37 1 = true := by decide +kernel
set_option maxRecDepth 1000000 in
theorem z_blk_301_38 : zchb 301 38 1 = true := by decide +kernel
