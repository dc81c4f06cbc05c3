/-! every instruction of the program, 5 -/
set_option maxRecDepth 1000000 in
theorem z_all_282 : zchk 282 18 = true := by decide +kernel
set_option maxRecDepth 1000000 in
theorem z_all_300 : zchk 300 1 = true := by decide +kernel
set_option maxRecDepth 1000000 in
theorem z_blk_198_0 : zchb 198 0 1 = true := by decide +kernel
set_option maxRecDepth 1000000 in
theorem z_blk_198_1 : zchb 198 1 13 = true := by decide +kernel
set_option maxRecDepth 1000000 in
theorem z_blk_198_14 : zchb 198 14 1 = true := by decide +kernel
set_option maxRecDepth 1000000 in
theorem z_blk_247_0 : zchb 247 0 22 = true := by decide +kernel
set_option maxRecDepth 1000000 in
theorem z_blk_247_22 : zchb 247 22 10 = true := by decide +kernel
set_option maxRecDepth 1000000 in
theorem z_blk_247_32 : zchb 247 32 5 = true := by decide +kernel
set_option maxRecDepth 1000000 in
theorem z_blk_301_0 : zchb 301 0 6 = true := by decide +kernel
