/-! paid: the pieces of the call -/
section KPAID
variable {X : Nat} {H : zHp} {s : zSg} {A : Nat → Nat} {B : Nat → Nat → Nat} {K : Nat → Nat} {ow : Nat → Nat × Nat} {E : Nat → Nat} {t land day act sum mi who c Y au dv toA tA : Int} {L a : Nat}
theorem cl50_0 (h : L = 0 ∨ dv = 0) : cl50 E X day act sum who a L dv toA H = some (clF sum who toA 0, H) := by
  unfold cl50 clF
  by_cases hL : L = 0
  · simp only [↓yjn_p, ↓yvl_p, hL, if_true, cl_if]
  · have hd := h.resolve_left hL
    simp only [↓yjn_p, ↓yvl_p, hL, if_false, hd, if_true, cl_if]
theorem cl50_1 {v64 r v : Int} {H3 : zHp} (hL : L ≠ 0) (ht : ztg H a = 9) (h3 : zct H a 3 = v64) (hX : ztg H X = 11) (hL2 : ztg H L = 2) (hr : fH_hasRight X v64 L day H = some (r, H)) (hs : r ≠ 0 → fContract_shareOf E L 1 act sum H = some (v, H3)) : cl50 E X day act sum who a L 1 toA H = if r = 0 then some (clF sum who toA 0, H) else some (clF sum who toA v, H3) := by
  have z8 : zisA 8 9 = true := rfl
  unfold cl50 clF
  by_cases hr0 : r = 0
  · simp only [↓yjn_p, ↓yvl_p, hL, if_false, show ¬ (1 : Int) = 0 by decide, ygi, ht, z8, if_true, h3, yck, hX, zA10, hr, ybd_s, hr0, cl_if]
  · simp only [↓yjn_p, ↓yvl_p, hL, if_false, show ¬ (1 : Int) = 0 by decide, ygi, ht, z8, if_true, h3, yck, hX, hL2, zA1, zA10, hr, ybd_s, hr0, hs hr0, cl_if]
theorem cl39_0 (h : L = 0) : cl39 E X day act sum who a L au dv H = some (clF sum who 0 0, H) := by
  have e : cl39 E X day act sum who a L au dv H = cl50 E X day act sum who a L dv 0 H := by
    unfold cl39 cl50
    simp only [↓yjn_p, h, if_true]
  rw [e, cl50_0 (Or.inl h)]
theorem cl39_1 {r v : Int} {H3 : zHp} (hL : L ≠ 0) (hX : ztg H X = 11) (hL2 : ztg H L = 2) (hr : fH_hasRight X au L day H = some (r, H)) (hs : r ≠ 0 → fContract_shareOf E L 0 act sum H = some (v, H3)) : cl39 E X day act sum who a L au dv H = if r = 0 then cl50 E X day act sum who a L dv 0 H else cl50 E X day act sum who a L dv v H3 := by
  unfold cl39 cl50
  by_cases hr0 : r = 0
  · rw [if_pos hr0]
    simp only [↓yjn_p, hL, if_false, yck, hX, zA10, if_true, hr, ybd_s, hr0]
  · rw [if_neg hr0]
    simp only [↓yjn_p, hL, if_false, yck, hX, hL2, zA1, zA10, if_true, hr, ybd_s, hr0, hs hr0]
theorem clQ_0 (h : L = 0) : clQ E X day act sum mi who a L au dv H = some (clF sum who 0 0, H) := by
  have e : clQ E X day act sum mi who a L au dv H = cl39 E X day act sum who a L au dv H := by
    unfold clQ cl39
    simp only [↓yjn_p, h, if_true]
  rw [e, cl39_0 h]
theorem clQ_1 (hL : L ≠ 0) (hX : ztg H X = 11) (hL2 : ztg H L = 2) (hd : dv = 0 ∨ dv = 1) (hy : fH_wholeYearsSince X au day H = some (Y, H)) : clQ E X day act sum mi who a L au dv H = cl39 E X day act sum who a L au dv (zwr (zwr (zwr H L 8 dv) L 9 Y) L 10 mi) := by
  unfold clQ cl39 fContract_asked
  simp only [↓yjn_p, hL, if_false, yck, hX, hL2, zA1, zA10, if_true, hy, ybd_s, ypz, ypi, ztg_wr, hd, and_self]
theorem rf54_0 : rf54 t land day act sum mi who c Y 0 tA s = some (rfF sum who tA 0, s) := by
  unfold rf54 rfF
  simp only [↓yjn_p, if_true, rf_if]
theorem rf54_1 {n : Nat} {v66 r v : Int} {s3 : zSg} (ht : n < 60) (h7 : s 7 n = v66) (hr : gM_hasRight v66 land day s = some (r, s)) (hs : r ≠ 0 → gM_gets c 1 act 1 Y mi sum (zsub sum tA) s = some (v, s3)) : rf54 (n : Int) land day act sum mi who c Y 1 tA s = if r = 0 then some (rfF sum who tA 0, s) else some (rfF sum who tA v, s3) := by
  unfold rf54 rfF
  by_cases hr0 : r = 0
  · simp only [↓yjn_p, show ¬ (1 : Int) = 0 by decide, if_false, yrd_n ht, h7, hr, ybd_s, hr0, if_true, rf_if]
  · simp only [↓yjn_p, show ¬ (1 : Int) = 0 by decide, if_false, yrd_n ht, h7, hr, ybd_s, hr0, hs hr0, rf_if]
theorem rf41_1 {r v : Int} {s3 : zSg} (hr : gM_hasRight au land day s = some (r, s)) (hs : r ≠ 0 → gM_gets c 0 act dv Y mi sum sum s = some (v, s3)) : rf41 t land day act sum mi who c au Y dv s = if r = 0 then rf54 t land day act sum mi who c Y dv 0 s else rf54 t land day act sum mi who c Y dv v s3 := by
  unfold rf41 rf54
  by_cases hr0 : r = 0
  · rw [if_pos hr0]
    simp only [↓yjn_p, hr, ybd_s, hr0, if_true]
  · rw [if_neg hr0]
    simp only [↓yjn_p, hr, ybd_s, hr0, if_false, hs hr0]
theorem rfQ_e {n : Nat} (ht : n < 60) : rfQ (n : Int) land day act sum mi who c au Y s = rf41 (n : Int) land day act sum mi who c au Y (if s 3 n = 6 then 1 else 0) s := by
  unfold rfQ rf41
  by_cases h : s 3 n = 6
  · rw [if_pos h]
    simp only [↓yjn_p, yrd_n ht, h, if_true]
  · rw [if_neg h]
    simp only [↓yjn_p, yrd_n ht, h, if_false]
end KPAID
