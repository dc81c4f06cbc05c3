/-! THE LAW: the calls, one by one (13 to 24) -/
section LAW1
variable {X a0 N i : Nat} {H : zHp} {E : Nat → Nat}
theorem law_c13 (L : LI X H E a0 N) (h : i + 8 ≤ N) (hN : N ≤ 4096) (hw : zand (zct H a0 i) 63 = 13) : LC X a0 N i H E := by
  obtain ⟨⟨A, B, K, ow, I⟩, rg, ek, bk, ew, ⟨s1, s2, s3⟩, z⟩ := id L
  have hk : wX (fH_plate X (zct H a0 (i + 1)) (zct H a0 (i + 2)) (zct H a0 (i + 3)) H) fun x H' => wX (gM_plate (zct H a0 (i + 1)) (zct H a0 (i + 2)) (zct H a0 (i + 3)) (zrd (X + 37) H)) fun w s' => w = x ∧ KD X H H' s' := k_plate I
  obtain ⟨x, H', H'', c1, c2, L2, bd, ⟨t1, t2, t3⟩, t4⟩ := law_step (g := gM_plate (zct H a0 (i + 1)) (zct H a0 (i + 2)) (zct H a0 (i + 3))) L hk
  obtain ⟨lt, e1, e2, e3, e4, e5, e6, e7, e8⟩ := law_num h hN
  have hX := ft0 I.1
  refine ⟨H'', fun n => ?_, L2, bd⟩
  rw [fW_law_l1]
  generalize fW_law_l1 E n = Lk
  simp only [↓yjn_p, ↓yvl_p, ↓reduceIte, yln_n s2 s3, lt, yai_n s2 s3 (show i < N by omega), hw, show ¬ (13 : Int) = 0 by decide, show ¬ (13 : Int) = 1 by decide, show ¬ (13 : Int) = 2 by decide, show ¬ (13 : Int) = 3 by decide, show ¬ (13 : Int) = 4 by decide, show ¬ (13 : Int) = 5 by decide, show ¬ (13 : Int) = 6 by decide, show ¬ (13 : Int) = 7 by decide, show ¬ (13 : Int) = 8 by decide, show ¬ (13 : Int) = 9 by decide, show ¬ (13 : Int) = 10 by decide, show ¬ (13 : Int) = 11 by decide, show ¬ (13 : Int) = 12 by decide, e1, e2, e3, yai_n s2 s3 (show i + 1 < N by omega), yai_n t1 t2 (show i + 1 < N by omega), yai_n s2 s3 (show i + 2 < N by omega), yai_n t1 t2 (show i + 2 < N by omega), yai_n s2 s3 (show i + 3 < N by omega), yai_n t1 t2 (show i + 3 < N by omega), t3, yck, hX, zA10, t4, zA11, c1, ybd_s, c2, e8]
theorem law_c14 (L : LI X H E a0 N) (h : i + 8 ≤ N) (hN : N ≤ 4096) (hw : zand (zct H a0 i) 63 = 14) : LC X a0 N i H E := by
  obtain ⟨⟨A, B, K, ow, I⟩, rg, ek, bk, ew, ⟨s1, s2, s3⟩, z⟩ := id L
  have hk : wX (fH_mend X (zct H a0 (i + 1)) (zct H a0 (i + 2)) (zct H a0 (i + 3)) (zct H a0 (i + 4)) H) fun x H' => wX (gM_mend (zct H a0 (i + 1)) (zct H a0 (i + 2)) (zct H a0 (i + 3)) (zct H a0 (i + 4)) (zrd (X + 37) H)) fun w s' => w = x ∧ KD X H H' s' := k_mend I (z _ (by omega))
  obtain ⟨x, H', H'', c1, c2, L2, bd, ⟨t1, t2, t3⟩, t4⟩ := law_step (g := gM_mend (zct H a0 (i + 1)) (zct H a0 (i + 2)) (zct H a0 (i + 3)) (zct H a0 (i + 4))) L hk
  obtain ⟨lt, e1, e2, e3, e4, e5, e6, e7, e8⟩ := law_num h hN
  have hX := ft0 I.1
  refine ⟨H'', fun n => ?_, L2, bd⟩
  rw [fW_law_l1]
  generalize fW_law_l1 E n = Lk
  simp only [↓yjn_p, ↓yvl_p, ↓reduceIte, yln_n s2 s3, lt, yai_n s2 s3 (show i < N by omega), hw, show ¬ (14 : Int) = 0 by decide, show ¬ (14 : Int) = 1 by decide, show ¬ (14 : Int) = 2 by decide, show ¬ (14 : Int) = 3 by decide, show ¬ (14 : Int) = 4 by decide, show ¬ (14 : Int) = 5 by decide, show ¬ (14 : Int) = 6 by decide, show ¬ (14 : Int) = 7 by decide, show ¬ (14 : Int) = 8 by decide, show ¬ (14 : Int) = 9 by decide, show ¬ (14 : Int) = 10 by decide, show ¬ (14 : Int) = 11 by decide, show ¬ (14 : Int) = 12 by decide, show ¬ (14 : Int) = 13 by decide, e1, e2, e3, e4, yai_n s2 s3 (show i + 1 < N by omega), yai_n t1 t2 (show i + 1 < N by omega), yai_n s2 s3 (show i + 2 < N by omega), yai_n t1 t2 (show i + 2 < N by omega), yai_n s2 s3 (show i + 3 < N by omega), yai_n t1 t2 (show i + 3 < N by omega), yai_n s2 s3 (show i + 4 < N by omega), yai_n t1 t2 (show i + 4 < N by omega), t3, yck, hX, zA10, t4, zA11, c1, ybd_s, c2, e8]
theorem law_c15 (L : LI X H E a0 N) (h : i + 8 ≤ N) (hN : N ≤ 4096) (hw : zand (zct H a0 i) 63 = 15) : LC X a0 N i H E := by
  obtain ⟨⟨A, B, K, ow, I⟩, rg, ek, bk, ew, ⟨s1, s2, s3⟩, z⟩ := id L
  have hk : wX (fH_differs X (zct H a0 (i + 1)) (zct H a0 (i + 2)) H) fun x H' => wX (gM_differs (zct H a0 (i + 1)) (zct H a0 (i + 2)) (zrd (X + 37) H)) fun w s' => w = x ∧ KD X H H' s' := k_differs I
  obtain ⟨x, H', H'', c1, c2, L2, bd, ⟨t1, t2, t3⟩, t4⟩ := law_step (g := gM_differs (zct H a0 (i + 1)) (zct H a0 (i + 2))) L hk
  obtain ⟨lt, e1, e2, e3, e4, e5, e6, e7, e8⟩ := law_num h hN
  have hX := ft0 I.1
  refine ⟨H'', fun n => ?_, L2, bd⟩
  rw [fW_law_l1]
  generalize fW_law_l1 E n = Lk
  simp only [↓yjn_p, ↓yvl_p, ↓reduceIte, yln_n s2 s3, lt, yai_n s2 s3 (show i < N by omega), hw, show ¬ (15 : Int) = 0 by decide, show ¬ (15 : Int) = 1 by decide, show ¬ (15 : Int) = 2 by decide, show ¬ (15 : Int) = 3 by decide, show ¬ (15 : Int) = 4 by decide, show ¬ (15 : Int) = 5 by decide, show ¬ (15 : Int) = 6 by decide, show ¬ (15 : Int) = 7 by decide, show ¬ (15 : Int) = 8 by decide, show ¬ (15 : Int) = 9 by decide, show ¬ (15 : Int) = 10 by decide, show ¬ (15 : Int) = 11 by decide, show ¬ (15 : Int) = 12 by decide, show ¬ (15 : Int) = 13 by decide, show ¬ (15 : Int) = 14 by decide, e1, e2, yai_n s2 s3 (show i + 1 < N by omega), yai_n t1 t2 (show i + 1 < N by omega), yai_n s2 s3 (show i + 2 < N by omega), yai_n t1 t2 (show i + 2 < N by omega), t3, yck, hX, zA10, t4, zA11, c1, ybd_s, c2, e8]
theorem law_c16 (L : LI X H E a0 N) (h : i + 8 ≤ N) (hN : N ≤ 4096) (hw : zand (zct H a0 i) 63 = 16) : LC X a0 N i H E := by
  obtain ⟨⟨A, B, K, ow, I⟩, rg, ek, bk, ew, ⟨s1, s2, s3⟩, z⟩ := id L
  have hk : wX (fH_press X (zct H a0 (i + 1)) H) fun x H' => wX (gM_press (zct H a0 (i + 1)) (zrd (X + 37) H)) fun w s' => w = x ∧ KD X H H' s' := k_press I
  obtain ⟨x, H', H'', c1, c2, L2, bd, ⟨t1, t2, t3⟩, t4⟩ := law_step (g := gM_press (zct H a0 (i + 1))) L hk
  obtain ⟨lt, e1, e2, e3, e4, e5, e6, e7, e8⟩ := law_num h hN
  have hX := ft0 I.1
  refine ⟨H'', fun n => ?_, L2, bd⟩
  rw [fW_law_l1]
  generalize fW_law_l1 E n = Lk
  simp only [↓yjn_p, ↓yvl_p, ↓reduceIte, yln_n s2 s3, lt, yai_n s2 s3 (show i < N by omega), hw, show ¬ (16 : Int) = 0 by decide, show ¬ (16 : Int) = 1 by decide, show ¬ (16 : Int) = 2 by decide, show ¬ (16 : Int) = 3 by decide, show ¬ (16 : Int) = 4 by decide, show ¬ (16 : Int) = 5 by decide, show ¬ (16 : Int) = 6 by decide, show ¬ (16 : Int) = 7 by decide, show ¬ (16 : Int) = 8 by decide, show ¬ (16 : Int) = 9 by decide, show ¬ (16 : Int) = 10 by decide, show ¬ (16 : Int) = 11 by decide, show ¬ (16 : Int) = 12 by decide, show ¬ (16 : Int) = 13 by decide, show ¬ (16 : Int) = 14 by decide, show ¬ (16 : Int) = 15 by decide, e1, yai_n s2 s3 (show i + 1 < N by omega), yai_n t1 t2 (show i + 1 < N by omega), t3, yck, hX, zA10, t4, zA11, c1, ybd_s, c2, e8]
theorem law_c17 (L : LI X H E a0 N) (h : i + 8 ≤ N) (hN : N ≤ 4096) (hw : zand (zct H a0 i) 63 = 17) : LC X a0 N i H E := by
  obtain ⟨⟨A, B, K, ow, I⟩, rg, ek, bk, ew, ⟨s1, s2, s3⟩, z⟩ := id L
  have hk : wX (fH_edition X H) fun x H' => wX ((gM_edition) (zrd (X + 37) H)) fun w s' => w = x ∧ KD X H H' s' := k_edition I
  obtain ⟨x, H', H'', c1, c2, L2, bd, ⟨t1, t2, t3⟩, t4⟩ := law_step (g := gM_edition) L hk
  obtain ⟨lt, e1, e2, e3, e4, e5, e6, e7, e8⟩ := law_num h hN
  have hX := ft0 I.1
  refine ⟨H'', fun n => ?_, L2, bd⟩
  rw [fW_law_l1]
  generalize fW_law_l1 E n = Lk
  simp only [↓yjn_p, ↓yvl_p, ↓reduceIte, yln_n s2 s3, lt, yai_n s2 s3 (show i < N by omega), hw, show ¬ (17 : Int) = 0 by decide, show ¬ (17 : Int) = 1 by decide, show ¬ (17 : Int) = 2 by decide, show ¬ (17 : Int) = 3 by decide, show ¬ (17 : Int) = 4 by decide, show ¬ (17 : Int) = 5 by decide, show ¬ (17 : Int) = 6 by decide, show ¬ (17 : Int) = 7 by decide, show ¬ (17 : Int) = 8 by decide, show ¬ (17 : Int) = 9 by decide, show ¬ (17 : Int) = 10 by decide, show ¬ (17 : Int) = 11 by decide, show ¬ (17 : Int) = 12 by decide, show ¬ (17 : Int) = 13 by decide, show ¬ (17 : Int) = 14 by decide, show ¬ (17 : Int) = 15 by decide, show ¬ (17 : Int) = 16 by decide, t3, yck, hX, zA10, t4, zA11, c1, ybd_s, c2, e8]
theorem law_c18 (L : LI X H E a0 N) (h : i + 8 ≤ N) (hN : N ≤ 4096) (hw : zand (zct H a0 i) 63 = 18) : LC X a0 N i H E := by
  obtain ⟨⟨A, B, K, ow, I⟩, rg, ek, bk, ew, ⟨s1, s2, s3⟩, z⟩ := id L
  have hk : wX (fH_printed X (zct H a0 (i + 1)) (zct H a0 (i + 2)) (zct H a0 (i + 3)) (zct H a0 (i + 4)) (zct H a0 (i + 5)) H) fun x H' => wX (gM_printed (zct H a0 (i + 1)) (zct H a0 (i + 2)) (zct H a0 (i + 3)) (zct H a0 (i + 4)) (zct H a0 (i + 5)) (zrd (X + 37) H)) fun w s' => w = x ∧ KD X H H' s' := k_printed I
  obtain ⟨x, H', H'', c1, c2, L2, bd, ⟨t1, t2, t3⟩, t4⟩ := law_step (g := gM_printed (zct H a0 (i + 1)) (zct H a0 (i + 2)) (zct H a0 (i + 3)) (zct H a0 (i + 4)) (zct H a0 (i + 5))) L hk
  obtain ⟨lt, e1, e2, e3, e4, e5, e6, e7, e8⟩ := law_num h hN
  have hX := ft0 I.1
  refine ⟨H'', fun n => ?_, L2, bd⟩
  rw [fW_law_l1]
  generalize fW_law_l1 E n = Lk
  simp only [↓yjn_p, ↓yvl_p, ↓reduceIte, yln_n s2 s3, lt, yai_n s2 s3 (show i < N by omega), hw, show ¬ (18 : Int) = 0 by decide, show ¬ (18 : Int) = 1 by decide, show ¬ (18 : Int) = 2 by decide, show ¬ (18 : Int) = 3 by decide, show ¬ (18 : Int) = 4 by decide, show ¬ (18 : Int) = 5 by decide, show ¬ (18 : Int) = 6 by decide, show ¬ (18 : Int) = 7 by decide, show ¬ (18 : Int) = 8 by decide, show ¬ (18 : Int) = 9 by decide, show ¬ (18 : Int) = 10 by decide, show ¬ (18 : Int) = 11 by decide, show ¬ (18 : Int) = 12 by decide, show ¬ (18 : Int) = 13 by decide, show ¬ (18 : Int) = 14 by decide, show ¬ (18 : Int) = 15 by decide, show ¬ (18 : Int) = 16 by decide, show ¬ (18 : Int) = 17 by decide, e1, e2, e3, e4, e5, yai_n s2 s3 (show i + 1 < N by omega), yai_n t1 t2 (show i + 1 < N by omega), yai_n s2 s3 (show i + 2 < N by omega), yai_n t1 t2 (show i + 2 < N by omega), yai_n s2 s3 (show i + 3 < N by omega), yai_n t1 t2 (show i + 3 < N by omega), yai_n s2 s3 (show i + 4 < N by omega), yai_n t1 t2 (show i + 4 < N by omega), yai_n s2 s3 (show i + 5 < N by omega), yai_n t1 t2 (show i + 5 < N by omega), t3, yck, hX, zA10, t4, zA11, c1, ybd_s, c2, e8]
theorem law_c19 (L : LI X H E a0 N) (h : i + 8 ≤ N) (hN : N ≤ 4096) (hw : zand (zct H a0 i) 63 = 19) : LC X a0 N i H E := by
  obtain ⟨⟨A, B, K, ow, I⟩, rg, ek, bk, ew, ⟨s1, s2, s3⟩, z⟩ := id L
  have hk : wX (fH_erratum X (zct H a0 (i + 1)) (zct H a0 (i + 2)) (zct H a0 (i + 3)) (zct H a0 (i + 4)) (zct H a0 (i + 5)) (zct H a0 (i + 6)) H) fun x H' => wX (gM_erratum (zct H a0 (i + 1)) (zct H a0 (i + 2)) (zct H a0 (i + 3)) (zct H a0 (i + 4)) (zct H a0 (i + 5)) (zct H a0 (i + 6)) (zrd (X + 37) H)) fun w s' => w = x ∧ KD X H H' s' := k_erratum I
  obtain ⟨x, H', H'', c1, c2, L2, bd, ⟨t1, t2, t3⟩, t4⟩ := law_step (g := gM_erratum (zct H a0 (i + 1)) (zct H a0 (i + 2)) (zct H a0 (i + 3)) (zct H a0 (i + 4)) (zct H a0 (i + 5)) (zct H a0 (i + 6))) L hk
  obtain ⟨lt, e1, e2, e3, e4, e5, e6, e7, e8⟩ := law_num h hN
  have hX := ft0 I.1
  refine ⟨H'', fun n => ?_, L2, bd⟩
  rw [fW_law_l1]
  generalize fW_law_l1 E n = Lk
  simp only [↓yjn_p, ↓yvl_p, ↓reduceIte, yln_n s2 s3, lt, yai_n s2 s3 (show i < N by omega), hw, show ¬ (19 : Int) = 0 by decide, show ¬ (19 : Int) = 1 by decide, show ¬ (19 : Int) = 2 by decide, show ¬ (19 : Int) = 3 by decide, show ¬ (19 : Int) = 4 by decide, show ¬ (19 : Int) = 5 by decide, show ¬ (19 : Int) = 6 by decide, show ¬ (19 : Int) = 7 by decide, show ¬ (19 : Int) = 8 by decide, show ¬ (19 : Int) = 9 by decide, show ¬ (19 : Int) = 10 by decide, show ¬ (19 : Int) = 11 by decide, show ¬ (19 : Int) = 12 by decide, show ¬ (19 : Int) = 13 by decide, show ¬ (19 : Int) = 14 by decide, show ¬ (19 : Int) = 15 by decide, show ¬ (19 : Int) = 16 by decide, show ¬ (19 : Int) = 17 by decide, show ¬ (19 : Int) = 18 by decide, e1, e2, e3, e4, e5, e6, yai_n s2 s3 (show i + 1 < N by omega), yai_n t1 t2 (show i + 1 < N by omega), yai_n s2 s3 (show i + 2 < N by omega), yai_n t1 t2 (show i + 2 < N by omega), yai_n s2 s3 (show i + 3 < N by omega), yai_n t1 t2 (show i + 3 < N by omega), yai_n s2 s3 (show i + 4 < N by omega), yai_n t1 t2 (show i + 4 < N by omega), yai_n s2 s3 (show i + 5 < N by omega), yai_n t1 t2 (show i + 5 < N by omega), yai_n s2 s3 (show i + 6 < N by omega), yai_n t1 t2 (show i + 6 < N by omega), t3, yck, hX, zA10, t4, zA11, c1, ybd_s, c2, e8]
theorem law_c20 (L : LI X H E a0 N) (h : i + 8 ≤ N) (hN : N ≤ 4096) (hw : zand (zct H a0 i) 63 = 20) : LC X a0 N i H E := by
  obtain ⟨⟨A, B, K, ow, I⟩, rg, ek, bk, ew, ⟨s1, s2, s3⟩, z⟩ := id L
  have hk : wX (fH_idle X (zct H a0 (i + 1)) H) fun x H' => wX (gM_idle (zct H a0 (i + 1)) (zrd (X + 37) H)) fun w s' => w = x ∧ KD X H H' s' := k_idle I
  obtain ⟨x, H', H'', c1, c2, L2, bd, ⟨t1, t2, t3⟩, t4⟩ := law_step (g := gM_idle (zct H a0 (i + 1))) L hk
  obtain ⟨lt, e1, e2, e3, e4, e5, e6, e7, e8⟩ := law_num h hN
  have hX := ft0 I.1
  refine ⟨H'', fun n => ?_, L2, bd⟩
  rw [fW_law_l1]
  generalize fW_law_l1 E n = Lk
  simp only [↓yjn_p, ↓yvl_p, ↓reduceIte, yln_n s2 s3, lt, yai_n s2 s3 (show i < N by omega), hw, show ¬ (20 : Int) = 0 by decide, show ¬ (20 : Int) = 1 by decide, show ¬ (20 : Int) = 2 by decide, show ¬ (20 : Int) = 3 by decide, show ¬ (20 : Int) = 4 by decide, show ¬ (20 : Int) = 5 by decide, show ¬ (20 : Int) = 6 by decide, show ¬ (20 : Int) = 7 by decide, show ¬ (20 : Int) = 8 by decide, show ¬ (20 : Int) = 9 by decide, show ¬ (20 : Int) = 10 by decide, show ¬ (20 : Int) = 11 by decide, show ¬ (20 : Int) = 12 by decide, show ¬ (20 : Int) = 13 by decide, show ¬ (20 : Int) = 14 by decide, show ¬ (20 : Int) = 15 by decide, show ¬ (20 : Int) = 16 by decide, show ¬ (20 : Int) = 17 by decide, show ¬ (20 : Int) = 18 by decide, show ¬ (20 : Int) = 19 by decide, e1, yai_n s2 s3 (show i + 1 < N by omega), yai_n t1 t2 (show i + 1 < N by omega), t3, yck, hX, zA10, t4, zA11, c1, ybd_s, c2, e8]
theorem law_c21 (L : LI X H E a0 N) (h : i + 8 ≤ N) (hN : N ≤ 4096) (hw : zand (zct H a0 i) 63 = 21) : LC X a0 N i H E := by
  obtain ⟨⟨A, B, K, ow, I⟩, rg, ek, bk, ew, ⟨s1, s2, s3⟩, z⟩ := id L
  have hk : wX (fH_changes X (zct H a0 (i + 1)) (zct H a0 (i + 2)) (zct H a0 (i + 3)) H) fun x H' => wX (gM_changes (zct H a0 (i + 1)) (zct H a0 (i + 2)) (zct H a0 (i + 3)) (zrd (X + 37) H)) fun w s' => w = x ∧ KD X H H' s' := k_changes I
  obtain ⟨x, H', H'', c1, c2, L2, bd, ⟨t1, t2, t3⟩, t4⟩ := law_step (g := gM_changes (zct H a0 (i + 1)) (zct H a0 (i + 2)) (zct H a0 (i + 3))) L hk
  obtain ⟨lt, e1, e2, e3, e4, e5, e6, e7, e8⟩ := law_num h hN
  have hX := ft0 I.1
  refine ⟨H'', fun n => ?_, L2, bd⟩
  rw [fW_law_l1]
  generalize fW_law_l1 E n = Lk
  simp only [↓yjn_p, ↓yvl_p, ↓reduceIte, yln_n s2 s3, lt, yai_n s2 s3 (show i < N by omega), hw, show ¬ (21 : Int) = 0 by decide, show ¬ (21 : Int) = 1 by decide, show ¬ (21 : Int) = 2 by decide, show ¬ (21 : Int) = 3 by decide, show ¬ (21 : Int) = 4 by decide, show ¬ (21 : Int) = 5 by decide, show ¬ (21 : Int) = 6 by decide, show ¬ (21 : Int) = 7 by decide, show ¬ (21 : Int) = 8 by decide, show ¬ (21 : Int) = 9 by decide, show ¬ (21 : Int) = 10 by decide, show ¬ (21 : Int) = 11 by decide, show ¬ (21 : Int) = 12 by decide, show ¬ (21 : Int) = 13 by decide, show ¬ (21 : Int) = 14 by decide, show ¬ (21 : Int) = 15 by decide, show ¬ (21 : Int) = 16 by decide, show ¬ (21 : Int) = 17 by decide, show ¬ (21 : Int) = 18 by decide, show ¬ (21 : Int) = 19 by decide, show ¬ (21 : Int) = 20 by decide, e1, e2, e3, yai_n s2 s3 (show i + 1 < N by omega), yai_n t1 t2 (show i + 1 < N by omega), yai_n s2 s3 (show i + 2 < N by omega), yai_n t1 t2 (show i + 2 < N by omega), yai_n s2 s3 (show i + 3 < N by omega), yai_n t1 t2 (show i + 3 < N by omega), t3, yck, hX, zA10, t4, zA11, c1, ybd_s, c2, e8]
theorem law_c22 (L : LI X H E a0 N) (h : i + 8 ≤ N) (hN : N ≤ 4096) (hw : zand (zct H a0 i) 63 = 22) : LC X a0 N i H E := by
  obtain ⟨⟨A, B, K, ow, I⟩, rg, ek, bk, ew, ⟨s1, s2, s3⟩, z⟩ := id L
  have hk : wX (fH_hangs X (zct H a0 (i + 1)) H) fun x H' => wX (gM_hangs (zct H a0 (i + 1)) (zrd (X + 37) H)) fun w s' => w = x ∧ KD X H H' s' := k_hangs I
  obtain ⟨x, H', H'', c1, c2, L2, bd, ⟨t1, t2, t3⟩, t4⟩ := law_step (g := gM_hangs (zct H a0 (i + 1))) L hk
  obtain ⟨lt, e1, e2, e3, e4, e5, e6, e7, e8⟩ := law_num h hN
  have hX := ft0 I.1
  refine ⟨H'', fun n => ?_, L2, bd⟩
  rw [fW_law_l1]
  generalize fW_law_l1 E n = Lk
  simp only [↓yjn_p, ↓yvl_p, ↓reduceIte, yln_n s2 s3, lt, yai_n s2 s3 (show i < N by omega), hw, show ¬ (22 : Int) = 0 by decide, show ¬ (22 : Int) = 1 by decide, show ¬ (22 : Int) = 2 by decide, show ¬ (22 : Int) = 3 by decide, show ¬ (22 : Int) = 4 by decide, show ¬ (22 : Int) = 5 by decide, show ¬ (22 : Int) = 6 by decide, show ¬ (22 : Int) = 7 by decide, show ¬ (22 : Int) = 8 by decide, show ¬ (22 : Int) = 9 by decide, show ¬ (22 : Int) = 10 by decide, show ¬ (22 : Int) = 11 by decide, show ¬ (22 : Int) = 12 by decide, show ¬ (22 : Int) = 13 by decide, show ¬ (22 : Int) = 14 by decide, show ¬ (22 : Int) = 15 by decide, show ¬ (22 : Int) = 16 by decide, show ¬ (22 : Int) = 17 by decide, show ¬ (22 : Int) = 18 by decide, show ¬ (22 : Int) = 19 by decide, show ¬ (22 : Int) = 20 by decide, show ¬ (22 : Int) = 21 by decide, e1, yai_n s2 s3 (show i + 1 < N by omega), yai_n t1 t2 (show i + 1 < N by omega), t3, yck, hX, zA10, t4, zA11, c1, ybd_s, c2, e8]
theorem law_c23 (L : LI X H E a0 N) (h : i + 8 ≤ N) (hN : N ≤ 4096) (hw : zand (zct H a0 i) 63 = 23) : LC X a0 N i H E := by
  obtain ⟨⟨A, B, K, ow, I⟩, rg, ek, bk, ew, ⟨s1, s2, s3⟩, z⟩ := id L
  have hk : wX (fH_pages X (zct H a0 (i + 1)) (zct H a0 (i + 2)) (zct H a0 (i + 3)) (zct H a0 (i + 4)) H) fun x H' => wX (gM_pages (zct H a0 (i + 1)) (zct H a0 (i + 2)) (zct H a0 (i + 3)) (zct H a0 (i + 4)) (zrd (X + 37) H)) fun w s' => w = x ∧ KD X H H' s' := k_pages I (z _ (by omega))
  obtain ⟨x, H', H'', c1, c2, L2, bd, ⟨t1, t2, t3⟩, t4⟩ := law_step (g := gM_pages (zct H a0 (i + 1)) (zct H a0 (i + 2)) (zct H a0 (i + 3)) (zct H a0 (i + 4))) L hk
  obtain ⟨lt, e1, e2, e3, e4, e5, e6, e7, e8⟩ := law_num h hN
  have hX := ft0 I.1
  refine ⟨H'', fun n => ?_, L2, bd⟩
  rw [fW_law_l1]
  generalize fW_law_l1 E n = Lk
  simp only [↓yjn_p, ↓yvl_p, ↓reduceIte, yln_n s2 s3, lt, yai_n s2 s3 (show i < N by omega), hw, show ¬ (23 : Int) = 0 by decide, show ¬ (23 : Int) = 1 by decide, show ¬ (23 : Int) = 2 by decide, show ¬ (23 : Int) = 3 by decide, show ¬ (23 : Int) = 4 by decide, show ¬ (23 : Int) = 5 by decide, show ¬ (23 : Int) = 6 by decide, show ¬ (23 : Int) = 7 by decide, show ¬ (23 : Int) = 8 by decide, show ¬ (23 : Int) = 9 by decide, show ¬ (23 : Int) = 10 by decide, show ¬ (23 : Int) = 11 by decide, show ¬ (23 : Int) = 12 by decide, show ¬ (23 : Int) = 13 by decide, show ¬ (23 : Int) = 14 by decide, show ¬ (23 : Int) = 15 by decide, show ¬ (23 : Int) = 16 by decide, show ¬ (23 : Int) = 17 by decide, show ¬ (23 : Int) = 18 by decide, show ¬ (23 : Int) = 19 by decide, show ¬ (23 : Int) = 20 by decide, show ¬ (23 : Int) = 21 by decide, show ¬ (23 : Int) = 22 by decide, e1, e2, e3, e4, yai_n s2 s3 (show i + 1 < N by omega), yai_n t1 t2 (show i + 1 < N by omega), yai_n s2 s3 (show i + 2 < N by omega), yai_n t1 t2 (show i + 2 < N by omega), yai_n s2 s3 (show i + 3 < N by omega), yai_n t1 t2 (show i + 3 < N by omega), yai_n s2 s3 (show i + 4 < N by omega), yai_n t1 t2 (show i + 4 < N by omega), t3, yck, hX, zA10, t4, zA11, c1, ybd_s, c2, e8]
theorem law_c24 (L : LI X H E a0 N) (h : i + 8 ≤ N) (hN : N ≤ 4096) (hw : zand (zct H a0 i) 63 = 24) : LC X a0 N i H E := by
  obtain ⟨⟨A, B, K, ow, I⟩, rg, ek, bk, ew, ⟨s1, s2, s3⟩, z⟩ := id L
  have hk : wX (fH_feed X (zct H a0 (i + 1)) (zct H a0 (i + 2)) H) fun x H' => wX (gM_feed (zct H a0 (i + 1)) (zct H a0 (i + 2)) (zrd (X + 37) H)) fun w s' => w = x ∧ KD X H H' s' := k_feed I
  obtain ⟨x, H', H'', c1, c2, L2, bd, ⟨t1, t2, t3⟩, t4⟩ := law_step (g := gM_feed (zct H a0 (i + 1)) (zct H a0 (i + 2))) L hk
  obtain ⟨lt, e1, e2, e3, e4, e5, e6, e7, e8⟩ := law_num h hN
  have hX := ft0 I.1
  refine ⟨H'', fun n => ?_, L2, bd⟩
  rw [fW_law_l1]
  generalize fW_law_l1 E n = Lk
  simp only [↓yjn_p, ↓yvl_p, ↓reduceIte, yln_n s2 s3, lt, yai_n s2 s3 (show i < N by omega), hw, show ¬ (24 : Int) = 0 by decide, show ¬ (24 : Int) = 1 by decide, show ¬ (24 : Int) = 2 by decide, show ¬ (24 : Int) = 3 by decide, show ¬ (24 : Int) = 4 by decide, show ¬ (24 : Int) = 5 by decide, show ¬ (24 : Int) = 6 by decide, show ¬ (24 : Int) = 7 by decide, show ¬ (24 : Int) = 8 by decide, show ¬ (24 : Int) = 9 by decide, show ¬ (24 : Int) = 10 by decide, show ¬ (24 : Int) = 11 by decide, show ¬ (24 : Int) = 12 by decide, show ¬ (24 : Int) = 13 by decide, show ¬ (24 : Int) = 14 by decide, show ¬ (24 : Int) = 15 by decide, show ¬ (24 : Int) = 16 by decide, show ¬ (24 : Int) = 17 by decide, show ¬ (24 : Int) = 18 by decide, show ¬ (24 : Int) = 19 by decide, show ¬ (24 : Int) = 20 by decide, show ¬ (24 : Int) = 21 by decide, show ¬ (24 : Int) = 22 by decide, show ¬ (24 : Int) = 23 by decide, e1, e2, yai_n s2 s3 (show i + 1 < N by omega), yai_n t1 t2 (show i + 1 < N by omega), yai_n s2 s3 (show i + 2 < N by omega), yai_n t1 t2 (show i + 2 < N by omega), t3, yck, hX, zA10, t4, zA11, c1, ybd_s, c2, e8]
end LAW1
