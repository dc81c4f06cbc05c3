/-! every instruction of the program, 9 -/
set_option maxRecDepth 1000000 in
theorem z_blk_301_39 : zchb 301 39 1 = true := by decide +kernel
set_option maxRecDepth 1000000 in
theorem z_blk_301_40 : zchb 301 40 1 = true := by decide +kernel
set_option maxRecDepth 1000000 in
theorem z_blk_301_41 : zchb 301 41 1 = true := by decide +kernel
set_option maxRecDepth 1000000 in
theorem z_blk_301_42 : zchb 301 42 1 = true := by decide +kernel
set_option maxRecDepth 1000000 in
theorem z_blk_301_43 : zchb 301 43 1 = true := by decide +kernel
set_option maxRecDepth 1000000 in
theorem z_blk_301_44 : zchb 301 44 1 = true := by decide +kernel
set_option maxRecDepth 1000000 in
theorem z_blk_301_45 : zchb 301 45 1 = true := by decide +kernel
set_option maxRecDepth 1000000 in
theorem z_blk_301_46 : zchb 301 46 1 = true := by decide +kernel
