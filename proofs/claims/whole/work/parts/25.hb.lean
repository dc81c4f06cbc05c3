theorem zchk_at {a n : Nat} (h : zchk a n = true) {m : Nat} (h1 : a ≤ m) (h2 : m < a + n) (h3 : m < 302) (b : Nat) : zokB m (zB m b) = true := by
  unfold zchk at h
  have h4 := List.all_eq_true.mp h (m - a) (List.mem_range.mpr (by omega))
  rw [show a + (m - a) = m by omega] at h4
  unfold zB
  rw [List.getD_eq_getElem?_getD (l := zBs.getD m [])]
  cases hq : (zBs.getD m [])[b]? with
  | none => rfl
  | some l => exact zokF_ok h3 l (List.all_eq_true.mp h4 l (List.mem_of_getElem? hq))
theorem zchb_at {m a n : Nat} (h : zchb m a n = true) {b : Nat} (h1 : a ≤ b) (h2 : b < a + n) (h3 : m < 302) : zokB m (zB m b) = true := by
  unfold zchb at h
  have h4 := List.all_eq_true.mp h (b - a) (List.mem_range.mpr (by omega))
  rw [show a + (b - a) = b by omega] at h4
  exact zokF_ok h3 _ h4
theorem zB_out {m b : Nat} (h : (zBs.getD m []).length ≤ b) : zokB m (zB m b) = true := by
  unfold zB
  rw [List.getD_eq_getElem?_getD (l := zBs.getD m []), List.getElem?_eq_none h]
  rfl
theorem z_long_198 (b : Nat) : zokB 198 (zB 198 b) = true := by
  by_cases h0 : b < 1
  · exact zchb_at z_blk_198_0 (by omega) (by omega) (by decide)
  by_cases h1 : b < 14
  · exact zchb_at z_blk_198_1 (by omega) (by omega) (by decide)
  by_cases h14 : b < 15
  · exact zchb_at z_blk_198_14 (by omega) (by omega) (by decide)
  exact zB_out (by show 15 ≤ b; omega)
theorem z_long_247 (b : Nat) : zokB 247 (zB 247 b) = true := by
  by_cases h0 : b < 22
  · exact zchb_at z_blk_247_0 (by omega) (by omega) (by decide)
  by_cases h22 : b < 32
  · exact zchb_at z_blk_247_22 (by omega) (by omega) (by decide)
  by_cases h32 : b < 37
  · exact zchb_at z_blk_247_32 (by omega) (by omega) (by decide)
  exact zB_out (by show 37 ≤ b; omega)
theorem z_long_301 (b : Nat) : zokB 301 (zB 301 b) = true := by
  by_cases h0 : b < 6
  · exact zchb_at z_blk_301_0 (by omega) (by omega) (by decide)
  by_cases h6 : b < 8
  · exact zchb_at z_blk_301_6 (by omega) (by omega) (by decide)
  by_cases h8 : b < 9
  · exact zchb_at z_blk_301_8 (by omega) (by omega) (by decide)
  by_cases h9 : b < 11
  · exact zchb_at z_blk_301_9 (by omega) (by omega) (by decide)
  by_cases h11 : b < 13
  · exact zchb_at z_blk_301_11 (by omega) (by omega) (by decide)
  by_cases h13 : b < 14
  · exact zchb_at z_blk_301_13 (by omega) (by omega) (by decide)
  by_cases h14 : b < 15
  · exact zchb_at z_blk_301_14 (by omega) (by omega) (by decide)
  by_cases h15 : b < 16
  · exact zchb_at z_blk_301_15 (by omega) (by omega) (by decide)
  by_cases h16 : b < 17
  · exact zchb_at z_blk_301_16 (by omega) (by omega) (by decide)
  by_cases h17 : b < 20
  · exact zchb_at z_blk_301_17 (by omega) (by omega) (by decide)
  by_cases h20 : b < 21
  · exact zchb_at z_blk_301_20 (by omega) (by omega) (by decide)
  by_cases h21 : b < 22
  · exact zchb_at z_blk_301_21 (by omega) (by omega) (by decide)
  by_cases h22 : b < 23
  · exact zchb_at z_blk_301_22 (by omega) (by omega) (by decide)
  by_cases h23 : b < 24
  · exact zchb_at z_blk_301_23 (by omega) (by omega) (by decide)
  by_cases h24 : b < 25
  · exact zchb_at z_blk_301_24 (by omega) (by omega) (by decide)
  by_cases h25 : b < 26
  · exact zchb_at z_blk_301_25 (by omega) (by omega) (by decide)
  by_cases h26 : b < 27
  · exact zchb_at z_blk_301_26 (by omega) (by omega) (by decide)
  by_cases h27 : b < 28
  · exact zchb_at z_blk_301_27 (by omega) (by omega) (by decide)
  by_cases h28 : b < 29
  · exact zchb_at z_blk_301_28 (by omega) (by omega) (by decide)
  by_cases h29 : b < 30
  · exact zchb_at z_blk_301_29 (by omega) (by omega) (by decide)
  by_cases h30 : b < 31
  · exact zchb_at z_blk_301_30 (by omega) (by omega) (by decide)
  by_cases h31 : b < 32
  · exact zchb_at z_blk_301_31 (by omega) (by omega) (by decide)
  by_cases h32 : b < 33
  · exact zchb_at z_blk_301_32 (by omega) (by omega) (by decide)
  by_cases h33 : b < 34
  · exact zchb_at z_blk_301_33 (by omega) (by omega) (by decide)
  by_cases h34 : b < 35
  · exact zchb_at z_blk_301_34 (by omega) (by omega) (by decide)
  by_cases h35 : b < 36
  · exact zchb_at z_blk_301_35 (by omega) (by omega) (by decide)
  by_cases h36 : b < 37
  · exact zchb_at z_blk_301_36 (by omega) (by omega) (by decide)
  by_cases h37 : b < 38
  · exact zchb_at z_blk_301_37 (by omega) (by omega) (by decide)
  by_cases h38 : b < 39
  · exact zchb_at z_blk_301_38 (by omega) (by omega) (by decide)
  by_cases h39 : b < 40
  · exact zchb_at z_blk_301_39 (by omega) (by omega) (by decide)
  by_cases h40 : b < 41
  · exact zchb_at z_blk_301_40 (by omega) (by omega) (by decide)
  by_cases h41 : b < 42
  · exact zchb_at z_blk_301_41 (by omega) (by omega) (by decide)
  by_cases h42 : b < 43
  · exact zchb_at z_blk_301_42 (by omega) (by omega) (by decide)
  by_cases h43 : b < 44
  · exact zchb_at z_blk_301_43 (by omega) (by omega) (by decide)
  by_cases h44 : b < 45
  · exact zchb_at z_blk_301_44 (by omega) (by omega) (by decide)
  by_cases h45 : b < 46
  · exact zchb_at z_blk_301_45 (by omega) (by omega) (by decide)
  by_cases h46 : b < 47
  · exact zchb_at z_blk_301_46 (by omega) (by omega) (by decide)
  by_cases h47 : b < 48
  · exact zchb_at z_blk_301_47 (by omega) (by omega) (by decide)
  by_cases h48 : b < 49
  · exact zchb_at z_blk_301_48 (by omega) (by omega) (by decide)
  by_cases h49 : b < 50
  · exact zchb_at z_blk_301_49 (by omega) (by omega) (by decide)
  by_cases h50 : b < 51
  · exact zchb_at z_blk_301_50 (by omega) (by omega) (by decide)
  by_cases h51 : b < 53
  · exact zchb_at z_blk_301_51 (by omega) (by omega) (by decide)
  exact zB_out (by show 53 ≤ b; omega)
set_option maxRecDepth 100000 in
theorem z_hB : ∀ m b, zokB m (zB m b) = true := by
  intro m b
  by_cases q0 : m < 27
  · exact zchk_at z_all_0 (by omega) (by omega) (by omega) b
  by_cases q27 : m < 52
  · exact zchk_at z_all_27 (by omega) (by omega) (by omega) b
  by_cases q52 : m < 88
  · exact zchk_at z_all_52 (by omega) (by omega) (by omega) b
  by_cases q88 : m < 104
  · exact zchk_at z_all_88 (by omega) (by omega) (by omega) b
  by_cases q104 : m < 115
  · exact zchk_at z_all_104 (by omega) (by omega) (by omega) b
  by_cases q115 : m < 128
  · exact zchk_at z_all_115 (by omega) (by omega) (by omega) b
  by_cases q128 : m < 141
  · exact zchk_at z_all_128 (by omega) (by omega) (by omega) b
  by_cases q141 : m < 154
  · exact zchk_at z_all_141 (by omega) (by omega) (by omega) b
  by_cases q154 : m < 171
  · exact zchk_at z_all_154 (by omega) (by omega) (by omega) b
  by_cases q171 : m < 182
  · exact zchk_at z_all_171 (by omega) (by omega) (by omega) b
  by_cases q182 : m < 195
  · exact zchk_at z_all_182 (by omega) (by omega) (by omega) b
  by_cases q195 : m < 198
  · exact zchk_at z_all_195 (by omega) (by omega) (by omega) b
  by_cases q198 : m < 199
  · have e : m = 198 := by omega
    subst e
    exact z_long_198 b
  by_cases q199 : m < 216
  · exact zchk_at z_all_199 (by omega) (by omega) (by omega) b
  by_cases q216 : m < 224
  · exact zchk_at z_all_216 (by omega) (by omega) (by omega) b
  by_cases q224 : m < 231
  · exact zchk_at z_all_224 (by omega) (by omega) (by omega) b
  by_cases q231 : m < 239
  · exact zchk_at z_all_231 (by omega) (by omega) (by omega) b
  by_cases q239 : m < 243
  · exact zchk_at z_all_239 (by omega) (by omega) (by omega) b
  by_cases q243 : m < 247
  · exact zchk_at z_all_243 (by omega) (by omega) (by omega) b
  by_cases q247 : m < 248
  · have e : m = 247 := by omega
    subst e
    exact z_long_247 b
  by_cases q248 : m < 258
  · exact zchk_at z_all_248 (by omega) (by omega) (by omega) b
  by_cases q258 : m < 265
  · exact zchk_at z_all_258 (by omega) (by omega) (by omega) b
  by_cases q265 : m < 267
  · exact zchk_at z_all_265 (by omega) (by omega) (by omega) b
  by_cases q267 : m < 275
  · exact zchk_at z_all_267 (by omega) (by omega) (by omega) b
  by_cases q275 : m < 282
  · exact zchk_at z_all_275 (by omega) (by omega) (by omega) b
  by_cases q282 : m < 300
  · exact zchk_at z_all_282 (by omega) (by omega) (by omega) b
  by_cases q300 : m < 301
  · exact zchk_at z_all_300 (by omega) (by omega) (by omega) b
  by_cases q301 : m < 302
  · have e : m = 301 := by omega
    subst e
    exact z_long_301 b
  have e : zBs.getD m [] = [] := by
    rw [List.getD_eq_getElem?_getD, List.getElem?_eq_none (by show 302 ≤ m; omega)]
    rfl
  unfold zB
  rw [e]
  rfl
set_option maxRecDepth 100000 in
theorem z_hP0 : ∀ m, m < 302 → zpc (zB m 0) = 0 := by decide +kernel
