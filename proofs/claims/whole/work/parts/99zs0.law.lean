/-! THE LAW: the calls, one by one (0 to 12) -/
section LAW0
variable {X a0 N i : Nat} {H : zHp} {E : Nat → Nat}
theorem yln_n {A : Type} {a N : Nat} {H : zHp} (ht : ztg H a = 40) (hl : zln H a = N) {f : Int → Option A} : yln a H f = f (N : Int) := by
  unfold yln
  rw [if_pos (by omega), hl]
theorem law_num {i N : Nat} (h : i + 8 ≤ N) (hN : N ≤ 4096) : ¬ zsub (N : Int) 8 < (i : Int) ∧ zadd (i : Int) 1 = ((i + 1 : Nat) : Int) ∧ zadd (i : Int) 2 = ((i + 2 : Nat) : Int) ∧ zadd (i : Int) 3 = ((i + 3 : Nat) : Int) ∧ zadd (i : Int) 4 = ((i + 4 : Nat) : Int) ∧ zadd (i : Int) 5 = ((i + 5 : Nat) : Int) ∧ zadd (i : Int) 6 = ((i + 6 : Nat) : Int) ∧ zadd (i : Int) 7 = ((i + 7 : Nat) : Int) ∧ zadd (i : Int) 8 = ((i + 8 : Nat) : Int) := by
  refine ⟨?_, ?_, ?_, ?_, ?_, ?_, ?_, ?_, ?_⟩
  · rw [zsub_e (by omega) (by omega)]; omega
  all_goals
    rw [zadd_e (by omega) (by omega)]
    omega
def LC (X a0 N i : Nat) (H : zHp) (E : Nat → Nat) : Prop := ∃ H'', (∀ n, fW_law_l1 E (n + 1) a0 X (X + 37) (i : Int) H = fW_law_l1 E n a0 X (X + 37) ((i + 8 : Nat) : Int) H'') ∧ LI X H'' E a0 N ∧ znx H ≤ znx H'' ∧ znx H'' ≤ znx H + 300 ∧ zus H'' ≤ zus H + 4000
theorem law_c0 (L : LI X H E a0 N) (h : i + 8 ≤ N) (hN : N ≤ 4096) (hw : zand (zct H a0 i) 63 = 0) : LC X a0 N i H E := by
  obtain ⟨⟨A, B, K, ow, I⟩, rg, ek, bk, ew, ⟨s1, s2, s3⟩, z⟩ := id L
  have hk : wX (fH_pass X (zct H a0 (i + 1)) H) fun x H' => wX (gM_pass (zct H a0 (i + 1)) (zrd (X + 37) H)) fun w s' => w = x ∧ KD X H H' s' := k_pass I (z _ (by omega))
  obtain ⟨x, H', H'', c1, c2, L2, bd, ⟨t1, t2, t3⟩, t4⟩ := law_step (g := gM_pass (zct H a0 (i + 1))) L hk
  obtain ⟨lt, e1, e2, e3, e4, e5, e6, e7, e8⟩ := law_num h hN
  have hX := ft0 I.1
  refine ⟨H'', fun n => ?_, L2, bd⟩
  rw [fW_law_l1]
  generalize fW_law_l1 E n = Lk
  simp only [↓yjn_p, ↓yvl_p, ↓reduceIte, yln_n s2 s3, lt, yai_n s2 s3 (show i < N by omega), hw, e1, yai_n s2 s3 (show i + 1 < N by omega), yai_n t1 t2 (show i + 1 < N by omega), t3, yck, hX, zA10, t4, zA11, c1, ybd_s, c2, e8]
theorem law_c1 (L : LI X H E a0 N) (h : i + 8 ≤ N) (hN : N ≤ 4096) (hw : zand (zct H a0 i) 63 = 1) : LC X a0 N i H E := by
  obtain ⟨⟨A, B, K, ow, I⟩, rg, ek, bk, ew, ⟨s1, s2, s3⟩, z⟩ := id L
  have hk : wX (fH_author X H) fun x H' => wX ((gM_author) (zrd (X + 37) H)) fun w s' => w = x ∧ KD X H H' s' := k_author I
  obtain ⟨x, H', H'', c1, c2, L2, bd, ⟨t1, t2, t3⟩, t4⟩ := law_step (g := gM_author) L hk
  obtain ⟨lt, e1, e2, e3, e4, e5, e6, e7, e8⟩ := law_num h hN
  have hX := ft0 I.1
  refine ⟨H'', fun n => ?_, L2, bd⟩
  rw [fW_law_l1]
  generalize fW_law_l1 E n = Lk
  simp only [↓yjn_p, ↓yvl_p, ↓reduceIte, yln_n s2 s3, lt, yai_n s2 s3 (show i < N by omega), hw, show ¬ (1 : Int) = 0 by decide, t3, yck, hX, zA10, t4, zA11, c1, ybd_s, c2, e8]
theorem law_c2 (L : LI X H E a0 N) (h : i + 8 ≤ N) (hN : N ≤ 4096) (hw : zand (zct H a0 i) 63 = 2) : LC X a0 N i H E := by
  obtain ⟨⟨A, B, K, ow, I⟩, rg, ek, bk, ew, ⟨s1, s2, s3⟩, z⟩ := id L
  have hk : wX (fH_died X (zct H a0 (i + 1)) (zct H a0 (i + 2)) H) fun x H' => wX (gM_died (zct H a0 (i + 1)) (zct H a0 (i + 2)) (zrd (X + 37) H)) fun w s' => w = x ∧ KD X H H' s' := k_died I
  obtain ⟨x, H', H'', c1, c2, L2, bd, ⟨t1, t2, t3⟩, t4⟩ := law_step (g := gM_died (zct H a0 (i + 1)) (zct H a0 (i + 2))) L hk
  obtain ⟨lt, e1, e2, e3, e4, e5, e6, e7, e8⟩ := law_num h hN
  have hX := ft0 I.1
  refine ⟨H'', fun n => ?_, L2, bd⟩
  rw [fW_law_l1]
  generalize fW_law_l1 E n = Lk
  simp only [↓yjn_p, ↓yvl_p, ↓reduceIte, yln_n s2 s3, lt, yai_n s2 s3 (show i < N by omega), hw, show ¬ (2 : Int) = 0 by decide, show ¬ (2 : Int) = 1 by decide, e1, e2, yai_n s2 s3 (show i + 1 < N by omega), yai_n t1 t2 (show i + 1 < N by omega), yai_n s2 s3 (show i + 2 < N by omega), yai_n t1 t2 (show i + 2 < N by omega), t3, yck, hX, zA10, t4, zA11, c1, ybd_s, c2, e8]
theorem law_c3 (L : LI X H E a0 N) (h : i + 8 ≤ N) (hN : N ≤ 4096) (hw : zand (zct H a0 i) 63 = 3) : LC X a0 N i H E := by
  obtain ⟨⟨A, B, K, ow, I⟩, rg, ek, bk, ew, ⟨s1, s2, s3⟩, z⟩ := id L
  have hk : wX (fH_score X (zct H a0 (i + 1)) (zct H a0 (i + 2)) (zct H a0 (i + 3)) H) fun x H' => wX (gM_score (zct H a0 (i + 1)) (zct H a0 (i + 2)) (zct H a0 (i + 3)) (zrd (X + 37) H)) fun w s' => w = x ∧ KD X H H' s' := k_score I
  obtain ⟨x, H', H'', c1, c2, L2, bd, ⟨t1, t2, t3⟩, t4⟩ := law_step (g := gM_score (zct H a0 (i + 1)) (zct H a0 (i + 2)) (zct H a0 (i + 3))) L hk
  obtain ⟨lt, e1, e2, e3, e4, e5, e6, e7, e8⟩ := law_num h hN
  have hX := ft0 I.1
  refine ⟨H'', fun n => ?_, L2, bd⟩
  rw [fW_law_l1]
  generalize fW_law_l1 E n = Lk
  simp only [↓yjn_p, ↓yvl_p, ↓reduceIte, yln_n s2 s3, lt, yai_n s2 s3 (show i < N by omega), hw, show ¬ (3 : Int) = 0 by decide, show ¬ (3 : Int) = 1 by decide, show ¬ (3 : Int) = 2 by decide, e1, e2, e3, yai_n s2 s3 (show i + 1 < N by omega), yai_n t1 t2 (show i + 1 < N by omega), yai_n s2 s3 (show i + 2 < N by omega), yai_n t1 t2 (show i + 2 < N by omega), yai_n s2 s3 (show i + 3 < N by omega), yai_n t1 t2 (show i + 3 < N by omega), t3, yck, hX, zA10, t4, zA11, c1, ybd_s, c2, e8]
theorem law_c4 (L : LI X H E a0 N) (h : i + 8 ≤ N) (hN : N ≤ 4096) (hw : zand (zct H a0 i) 63 = 4) : LC X a0 N i H E := by
  obtain ⟨⟨A, B, K, ow, I⟩, rg, ek, bk, ew, ⟨s1, s2, s3⟩, z⟩ := id L
  have hk : wX (fH_derive X (zct H a0 (i + 1)) (zct H a0 (i + 2)) (zct H a0 (i + 3)) (zct H a0 (i + 4)) H) fun x H' => wX (gM_derive (zct H a0 (i + 1)) (zct H a0 (i + 2)) (zct H a0 (i + 3)) (zct H a0 (i + 4)) (zrd (X + 37) H)) fun w s' => w = x ∧ KD X H H' s' := k_derive I
  obtain ⟨x, H', H'', c1, c2, L2, bd, ⟨t1, t2, t3⟩, t4⟩ := law_step (g := gM_derive (zct H a0 (i + 1)) (zct H a0 (i + 2)) (zct H a0 (i + 3)) (zct H a0 (i + 4))) L hk
  obtain ⟨lt, e1, e2, e3, e4, e5, e6, e7, e8⟩ := law_num h hN
  have hX := ft0 I.1
  refine ⟨H'', fun n => ?_, L2, bd⟩
  rw [fW_law_l1]
  generalize fW_law_l1 E n = Lk
  simp only [↓yjn_p, ↓yvl_p, ↓reduceIte, yln_n s2 s3, lt, yai_n s2 s3 (show i < N by omega), hw, show ¬ (4 : Int) = 0 by decide, show ¬ (4 : Int) = 1 by decide, show ¬ (4 : Int) = 2 by decide, show ¬ (4 : Int) = 3 by decide, e1, e2, e3, e4, yai_n s2 s3 (show i + 1 < N by omega), yai_n t1 t2 (show i + 1 < N by omega), yai_n s2 s3 (show i + 2 < N by omega), yai_n t1 t2 (show i + 2 < N by omega), yai_n s2 s3 (show i + 3 < N by omega), yai_n t1 t2 (show i + 3 < N by omega), yai_n s2 s3 (show i + 4 < N by omega), yai_n t1 t2 (show i + 4 < N by omega), t3, yck, hX, zA10, t4, zA11, c1, ybd_s, c2, e8]
theorem law_c5 (L : LI X H E a0 N) (h : i + 8 ≤ N) (hN : N ≤ 4096) (hw : zand (zct H a0 i) 63 = 5) : LC X a0 N i H E := by
  obtain ⟨⟨A, B, K, ow, I⟩, rg, ek, bk, ew, ⟨s1, s2, s3⟩, z⟩ := id L
  have hk : wX (fH_note X (zct H a0 (i + 1)) (zct H a0 (i + 2)) (zct H a0 (i + 3)) (zct H a0 (i + 4)) (zct H a0 (i + 5)) H) fun x H' => wX (gM_note (zct H a0 (i + 1)) (zct H a0 (i + 2)) (zct H a0 (i + 3)) (zct H a0 (i + 4)) (zct H a0 (i + 5)) (zrd (X + 37) H)) fun w s' => w = x ∧ KD X H H' s' := k_note I
  obtain ⟨x, H', H'', c1, c2, L2, bd, ⟨t1, t2, t3⟩, t4⟩ := law_step (g := gM_note (zct H a0 (i + 1)) (zct H a0 (i + 2)) (zct H a0 (i + 3)) (zct H a0 (i + 4)) (zct H a0 (i + 5))) L hk
  obtain ⟨lt, e1, e2, e3, e4, e5, e6, e7, e8⟩ := law_num h hN
  have hX := ft0 I.1
  refine ⟨H'', fun n => ?_, L2, bd⟩
  rw [fW_law_l1]
  generalize fW_law_l1 E n = Lk
  simp only [↓yjn_p, ↓yvl_p, ↓reduceIte, yln_n s2 s3, lt, yai_n s2 s3 (show i < N by omega), hw, show ¬ (5 : Int) = 0 by decide, show ¬ (5 : Int) = 1 by decide, show ¬ (5 : Int) = 2 by decide, show ¬ (5 : Int) = 3 by decide, show ¬ (5 : Int) = 4 by decide, e1, e2, e3, e4, e5, yai_n s2 s3 (show i + 1 < N by omega), yai_n t1 t2 (show i + 1 < N by omega), yai_n s2 s3 (show i + 2 < N by omega), yai_n t1 t2 (show i + 2 < N by omega), yai_n s2 s3 (show i + 3 < N by omega), yai_n t1 t2 (show i + 3 < N by omega), yai_n s2 s3 (show i + 4 < N by omega), yai_n t1 t2 (show i + 4 < N by omega), yai_n s2 s3 (show i + 5 < N by omega), yai_n t1 t2 (show i + 5 < N by omega), t3, yck, hX, zA10, t4, zA11, c1, ybd_s, c2, e8]
theorem law_c6 (L : LI X H E a0 N) (h : i + 8 ≤ N) (hN : N ≤ 4096) (hw : zand (zct H a0 i) 63 = 6) : LC X a0 N i H E := by
  obtain ⟨⟨A, B, K, ow, I⟩, rg, ek, bk, ew, ⟨s1, s2, s3⟩, z⟩ := id L
  have hk : wX (fH_alter X (zct H a0 (i + 1)) (zct H a0 (i + 2)) (zct H a0 (i + 3)) (zct H a0 (i + 4)) (zct H a0 (i + 5)) H) fun x H' => wX (gM_alter (zct H a0 (i + 1)) (zct H a0 (i + 2)) (zct H a0 (i + 3)) (zct H a0 (i + 4)) (zct H a0 (i + 5)) (zrd (X + 37) H)) fun w s' => w = x ∧ KD X H H' s' := k_alter I
  obtain ⟨x, H', H'', c1, c2, L2, bd, ⟨t1, t2, t3⟩, t4⟩ := law_step (g := gM_alter (zct H a0 (i + 1)) (zct H a0 (i + 2)) (zct H a0 (i + 3)) (zct H a0 (i + 4)) (zct H a0 (i + 5))) L hk
  obtain ⟨lt, e1, e2, e3, e4, e5, e6, e7, e8⟩ := law_num h hN
  have hX := ft0 I.1
  refine ⟨H'', fun n => ?_, L2, bd⟩
  rw [fW_law_l1]
  generalize fW_law_l1 E n = Lk
  simp only [↓yjn_p, ↓yvl_p, ↓reduceIte, yln_n s2 s3, lt, yai_n s2 s3 (show i < N by omega), hw, show ¬ (6 : Int) = 0 by decide, show ¬ (6 : Int) = 1 by decide, show ¬ (6 : Int) = 2 by decide, show ¬ (6 : Int) = 3 by decide, show ¬ (6 : Int) = 4 by decide, show ¬ (6 : Int) = 5 by decide, e1, e2, e3, e4, e5, yai_n s2 s3 (show i + 1 < N by omega), yai_n t1 t2 (show i + 1 < N by omega), yai_n s2 s3 (show i + 2 < N by omega), yai_n t1 t2 (show i + 2 < N by omega), yai_n s2 s3 (show i + 3 < N by omega), yai_n t1 t2 (show i + 3 < N by omega), yai_n s2 s3 (show i + 4 < N by omega), yai_n t1 t2 (show i + 4 < N by omega), yai_n s2 s3 (show i + 5 < N by omega), yai_n t1 t2 (show i + 5 < N by omega), t3, yck, hX, zA10, t4, zA11, c1, ybd_s, c2, e8]
theorem law_c7 (L : LI X H E a0 N) (h : i + 8 ≤ N) (hN : N ≤ 4096) (hw : zand (zct H a0 i) 63 = 7) : LC X a0 N i H E := by
  obtain ⟨⟨A, B, K, ow, I⟩, rg, ek, bk, ew, ⟨s1, s2, s3⟩, z⟩ := id L
  have hk : wX (fH_music X (zct H a0 (i + 1)) (zct H a0 (i + 2)) (zct H a0 (i + 3)) (zct H a0 (i + 4)) (zct H a0 (i + 5)) H) fun x H' => wX (gM_music (zct H a0 (i + 1)) (zct H a0 (i + 2)) (zct H a0 (i + 3)) (zct H a0 (i + 4)) (zct H a0 (i + 5)) (zrd (X + 37) H)) fun w s' => w = x ∧ KD X H H' s' := k_music I (z _ (by omega))
  obtain ⟨x, H', H'', c1, c2, L2, bd, ⟨t1, t2, t3⟩, t4⟩ := law_step (g := gM_music (zct H a0 (i + 1)) (zct H a0 (i + 2)) (zct H a0 (i + 3)) (zct H a0 (i + 4)) (zct H a0 (i + 5))) L hk
  obtain ⟨lt, e1, e2, e3, e4, e5, e6, e7, e8⟩ := law_num h hN
  have hX := ft0 I.1
  refine ⟨H'', fun n => ?_, L2, bd⟩
  rw [fW_law_l1]
  generalize fW_law_l1 E n = Lk
  simp only [↓yjn_p, ↓yvl_p, ↓reduceIte, yln_n s2 s3, lt, yai_n s2 s3 (show i < N by omega), hw, show ¬ (7 : Int) = 0 by decide, show ¬ (7 : Int) = 1 by decide, show ¬ (7 : Int) = 2 by decide, show ¬ (7 : Int) = 3 by decide, show ¬ (7 : Int) = 4 by decide, show ¬ (7 : Int) = 5 by decide, show ¬ (7 : Int) = 6 by decide, e1, e2, e3, e4, e5, yai_n s2 s3 (show i + 1 < N by omega), yai_n t1 t2 (show i + 1 < N by omega), yai_n s2 s3 (show i + 2 < N by omega), yai_n t1 t2 (show i + 2 < N by omega), yai_n s2 s3 (show i + 3 < N by omega), yai_n t1 t2 (show i + 3 < N by omega), yai_n s2 s3 (show i + 4 < N by omega), yai_n t1 t2 (show i + 4 < N by omega), yai_n s2 s3 (show i + 5 < N by omega), yai_n t1 t2 (show i + 5 < N by omega), t3, yck, hX, zA10, t4, zA11, c1, ybd_s, c2, e8]
theorem law_c8 (L : LI X H E a0 N) (h : i + 8 ≤ N) (hN : N ≤ 4096) (hw : zand (zct H a0 i) 63 = 8) : LC X a0 N i H E := by
  obtain ⟨⟨A, B, K, ow, I⟩, rg, ek, bk, ew, ⟨s1, s2, s3⟩, z⟩ := id L
  have hk : wX (fH_ended X H) fun x H' => wX ((gM_ended) (zrd (X + 37) H)) fun w s' => w = x ∧ KD X H H' s' := k_ended I
  obtain ⟨x, H', H'', c1, c2, L2, bd, ⟨t1, t2, t3⟩, t4⟩ := law_step (g := gM_ended) L hk
  obtain ⟨lt, e1, e2, e3, e4, e5, e6, e7, e8⟩ := law_num h hN
  have hX := ft0 I.1
  refine ⟨H'', fun n => ?_, L2, bd⟩
  rw [fW_law_l1]
  generalize fW_law_l1 E n = Lk
  simp only [↓yjn_p, ↓yvl_p, ↓reduceIte, yln_n s2 s3, lt, yai_n s2 s3 (show i < N by omega), hw, show ¬ (8 : Int) = 0 by decide, show ¬ (8 : Int) = 1 by decide, show ¬ (8 : Int) = 2 by decide, show ¬ (8 : Int) = 3 by decide, show ¬ (8 : Int) = 4 by decide, show ¬ (8 : Int) = 5 by decide, show ¬ (8 : Int) = 6 by decide, show ¬ (8 : Int) = 7 by decide, t3, yck, hX, zA10, t4, zA11, c1, ybd_s, c2, e8]
theorem law_c9 (L : LI X H E a0 N) (h : i + 8 ≤ N) (hN : N ≤ 4096) (hw : zand (zct H a0 i) 63 = 9) : LC X a0 N i H E := by
  obtain ⟨⟨A, B, K, ow, I⟩, rg, ek, bk, ew, ⟨s1, s2, s3⟩, z⟩ := id L
  have hk : wX (fH_of X (zct H a0 (i + 1)) (zct H a0 (i + 2)) H) fun x H' => wX (gM_of (zct H a0 (i + 1)) (zct H a0 (i + 2)) (zrd (X + 37) H)) fun w s' => w = x ∧ KD X H H' s' := k_of I
  obtain ⟨x, H', H'', c1, c2, L2, bd, ⟨t1, t2, t3⟩, t4⟩ := law_step (g := gM_of (zct H a0 (i + 1)) (zct H a0 (i + 2))) L hk
  obtain ⟨lt, e1, e2, e3, e4, e5, e6, e7, e8⟩ := law_num h hN
  have hX := ft0 I.1
  refine ⟨H'', fun n => ?_, L2, bd⟩
  rw [fW_law_l1]
  generalize fW_law_l1 E n = Lk
  simp only [↓yjn_p, ↓yvl_p, ↓reduceIte, yln_n s2 s3, lt, yai_n s2 s3 (show i < N by omega), hw, show ¬ (9 : Int) = 0 by decide, show ¬ (9 : Int) = 1 by decide, show ¬ (9 : Int) = 2 by decide, show ¬ (9 : Int) = 3 by decide, show ¬ (9 : Int) = 4 by decide, show ¬ (9 : Int) = 5 by decide, show ¬ (9 : Int) = 6 by decide, show ¬ (9 : Int) = 7 by decide, show ¬ (9 : Int) = 8 by decide, e1, e2, yai_n s2 s3 (show i + 1 < N by omega), yai_n t1 t2 (show i + 1 < N by omega), yai_n s2 s3 (show i + 2 < N by omega), yai_n t1 t2 (show i + 2 < N by omega), t3, yck, hX, zA10, t4, zA11, c1, ybd_s, c2, e8]
theorem law_c10 (L : LI X H E a0 N) (h : i + 8 ≤ N) (hN : N ≤ 4096) (hw : zand (zct H a0 i) 63 = 10) : LC X a0 N i H E := by
  obtain ⟨⟨A, B, K, ow, I⟩, rg, ek, bk, ew, ⟨s1, s2, s3⟩, z⟩ := id L
  have hk : wX (fH_bars X (zct H a0 (i + 1)) (zct H a0 (i + 2)) H) fun x H' => wX (gM_bars (zct H a0 (i + 1)) (zct H a0 (i + 2)) (zrd (X + 37) H)) fun w s' => w = x ∧ KD X H H' s' := k_bars I
  obtain ⟨x, H', H'', c1, c2, L2, bd, ⟨t1, t2, t3⟩, t4⟩ := law_step (g := gM_bars (zct H a0 (i + 1)) (zct H a0 (i + 2))) L hk
  obtain ⟨lt, e1, e2, e3, e4, e5, e6, e7, e8⟩ := law_num h hN
  have hX := ft0 I.1
  refine ⟨H'', fun n => ?_, L2, bd⟩
  rw [fW_law_l1]
  generalize fW_law_l1 E n = Lk
  simp only [↓yjn_p, ↓yvl_p, ↓reduceIte, yln_n s2 s3, lt, yai_n s2 s3 (show i < N by omega), hw, show ¬ (10 : Int) = 0 by decide, show ¬ (10 : Int) = 1 by decide, show ¬ (10 : Int) = 2 by decide, show ¬ (10 : Int) = 3 by decide, show ¬ (10 : Int) = 4 by decide, show ¬ (10 : Int) = 5 by decide, show ¬ (10 : Int) = 6 by decide, show ¬ (10 : Int) = 7 by decide, show ¬ (10 : Int) = 8 by decide, show ¬ (10 : Int) = 9 by decide, e1, e2, yai_n s2 s3 (show i + 1 < N by omega), yai_n t1 t2 (show i + 1 < N by omega), yai_n s2 s3 (show i + 2 < N by omega), yai_n t1 t2 (show i + 2 < N by omega), t3, yck, hX, zA10, t4, zA11, c1, ybd_s, c2, e8]
theorem law_c11 (L : LI X H E a0 N) (h : i + 8 ≤ N) (hN : N ≤ 4096) (hw : zand (zct H a0 i) 63 = 11) : LC X a0 N i H E := by
  obtain ⟨⟨A, B, K, ow, I⟩, rg, ek, bk, ew, ⟨s1, s2, s3⟩, z⟩ := id L
  have hk : wX (fH_part X (zct H a0 (i + 1)) (zct H a0 (i + 2)) (zct H a0 (i + 3)) H) fun x H' => wX (gM_part (zct H a0 (i + 1)) (zct H a0 (i + 2)) (zct H a0 (i + 3)) (zrd (X + 37) H)) fun w s' => w = x ∧ KD X H H' s' := k_part I
  obtain ⟨x, H', H'', c1, c2, L2, bd, ⟨t1, t2, t3⟩, t4⟩ := law_step (g := gM_part (zct H a0 (i + 1)) (zct H a0 (i + 2)) (zct H a0 (i + 3))) L hk
  obtain ⟨lt, e1, e2, e3, e4, e5, e6, e7, e8⟩ := law_num h hN
  have hX := ft0 I.1
  refine ⟨H'', fun n => ?_, L2, bd⟩
  rw [fW_law_l1]
  generalize fW_law_l1 E n = Lk
  simp only [↓yjn_p, ↓yvl_p, ↓reduceIte, yln_n s2 s3, lt, yai_n s2 s3 (show i < N by omega), hw, show ¬ (11 : Int) = 0 by decide, show ¬ (11 : Int) = 1 by decide, show ¬ (11 : Int) = 2 by decide, show ¬ (11 : Int) = 3 by decide, show ¬ (11 : Int) = 4 by decide, show ¬ (11 : Int) = 5 by decide, show ¬ (11 : Int) = 6 by decide, show ¬ (11 : Int) = 7 by decide, show ¬ (11 : Int) = 8 by decide, show ¬ (11 : Int) = 9 by decide, show ¬ (11 : Int) = 10 by decide, e1, e2, e3, yai_n s2 s3 (show i + 1 < N by omega), yai_n t1 t2 (show i + 1 < N by omega), yai_n s2 s3 (show i + 2 < N by omega), yai_n t1 t2 (show i + 2 < N by omega), yai_n s2 s3 (show i + 3 < N by omega), yai_n t1 t2 (show i + 3 < N by omega), t3, yck, hX, zA10, t4, zA11, c1, ybd_s, c2, e8]
theorem law_c12 (L : LI X H E a0 N) (h : i + 8 ≤ N) (hN : N ≤ 4096) (hw : zand (zct H a0 i) 63 = 12) : LC X a0 N i H E := by
  obtain ⟨⟨A, B, K, ow, I⟩, rg, ek, bk, ew, ⟨s1, s2, s3⟩, z⟩ := id L
  have hk : wX (fH_heard X (zct H a0 (i + 1)) (zct H a0 (i + 2)) (zct H a0 (i + 3)) H) fun x H' => wX (gM_heard (zct H a0 (i + 1)) (zct H a0 (i + 2)) (zct H a0 (i + 3)) (zrd (X + 37) H)) fun w s' => w = x ∧ KD X H H' s' := k_heard I
  obtain ⟨x, H', H'', c1, c2, L2, bd, ⟨t1, t2, t3⟩, t4⟩ := law_step (g := gM_heard (zct H a0 (i + 1)) (zct H a0 (i + 2)) (zct H a0 (i + 3))) L hk
  obtain ⟨lt, e1, e2, e3, e4, e5, e6, e7, e8⟩ := law_num h hN
  have hX := ft0 I.1
  refine ⟨H'', fun n => ?_, L2, bd⟩
  rw [fW_law_l1]
  generalize fW_law_l1 E n = Lk
  simp only [↓yjn_p, ↓yvl_p, ↓reduceIte, yln_n s2 s3, lt, yai_n s2 s3 (show i < N by omega), hw, show ¬ (12 : Int) = 0 by decide, show ¬ (12 : Int) = 1 by decide, show ¬ (12 : Int) = 2 by decide, show ¬ (12 : Int) = 3 by decide, show ¬ (12 : Int) = 4 by decide, show ¬ (12 : Int) = 5 by decide, show ¬ (12 : Int) = 6 by decide, show ¬ (12 : Int) = 7 by decide, show ¬ (12 : Int) = 8 by decide, show ¬ (12 : Int) = 9 by decide, show ¬ (12 : Int) = 10 by decide, show ¬ (12 : Int) = 11 by decide, e1, e2, e3, yai_n s2 s3 (show i + 1 < N by omega), yai_n t1 t2 (show i + 1 < N by omega), yai_n s2 s3 (show i + 2 < N by omega), yai_n t1 t2 (show i + 2 < N by omega), yai_n s2 s3 (show i + 3 < N by omega), yai_n t1 t2 (show i + 3 < N by omega), t3, yck, hX, zA10, t4, zA11, c1, ybd_s, c2, e8]
end LAW0
