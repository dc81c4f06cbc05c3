/-! every instruction of the program is looked at -/
noncomputable def zchk (a n : Nat) : Bool := (List.range n).all fun j => (zBs.getD (a + j) []).all (zokB (a + j))
set_option maxRecDepth 1000000 in
theorem z_all_0 : zchk 0 46 = true := by decide +kernel
set_option maxRecDepth 1000000 in
theorem z_all_1 : zchk 46 52 = true := by decide +kernel
set_option maxRecDepth 1000000 in
theorem z_all_2 : zchk 98 25 = true := by decide +kernel
set_option maxRecDepth 1000000 in
theorem z_all_3 : zchk 123 26 = true := by decide +kernel
set_option maxRecDepth 1000000 in
theorem z_all_4 : zchk 149 27 = true := by decide +kernel
set_option maxRecDepth 1000000 in
theorem z_all_5 : zchk 176 22 = true := by decide +kernel
set_option maxRecDepth 1000000 in
theorem z_all_6 : zchk 198 20 = true := by decide +kernel
set_option maxRecDepth 1000000 in
theorem z_all_7 : zchk 218 18 = true := by decide +kernel
set_option maxRecDepth 1000000 in
theorem z_all_8 : zchk 236 11 = true := by decide +kernel
set_option maxRecDepth 1000000 in
theorem z_all_9 : zchk 247 15 = true := by decide +kernel
set_option maxRecDepth 1000000 in
theorem z_all_10 : zchk 262 18 = true := by decide +kernel
set_option maxRecDepth 1000000 in
theorem z_all_11 : zchk 280 21 = true := by decide +kernel
set_option maxRecDepth 1000000 in
theorem z_all_12 : zchk 301 1 = true := by decide +kernel
