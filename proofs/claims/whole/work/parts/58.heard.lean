section HEARD
variable {X : Nat} {H : zHp} {s : zSg} {A : Nat → Nat} {B : Nat → Nat → Nat} {K : Nat → Nat} {ow : Nat → Nat × Nat} {t : Nat}
theorem e_read0 (I : IV X H s A B K ow) (ht : (t : Int) < s 0 2) (hk : s 3 t = 2 ∨ s 3 t = 5) {b : Int} (hb : ¬ (0 ≤ b ∧ b < wholeN s (s 4 t).toNat (s 5 t).toNat)) : fPart_barAsRead (A t) b H = some (0, H) := by
  obtain ⟨m0, ⟨a0, a1, a2, a3, a4, a5, a6, a7⟩, bo⟩ := (I.to ht).2.1 hk
  obtain ⟨⟨p1, p2⟩, p3, ⟨p4, p5⟩, p6, -⟩ := (I.st ht).2.2.1 hk
  have hu : (((s 4 t).toNat : Nat) : Int) < s 0 2 := by omega
  have g8 := I.tg hu (c := 8) (tgk_8.mpr p3)
  unfold fPart_barAsRead
  simp only [ygr, ygi, a0, zA5, if_true, a3, Int.toNat_natCast, a4, yck, g8, e_wholeBar I hu p3, ybd_s]
  rw [if_neg (show ¬ ((0 ≤ s 5 t ∧ s 5 t ≤ s 6 (s 4 t).toNat - 1) ∧ 0 ≤ b ∧ b < wholeN s (s 4 t).toNat (s 5 t).toNat) from fun w => hb w.2), if_pos rfl]
set_option maxRecDepth 100000 in
theorem e_read (I : IV X H s A B K ow) (ht : (t : Int) < s 0 2) (hk : s 3 t = 2 ∨ s 3 t = 5) {b : Nat} (hb : (b : Int) < wholeN s (s 4 t).toNat (s 5 t).toNat) : ∃ H' s' m, fPart_barAsRead (A t) (b : Int) H = some (B t 0, H') ∧ gM_readBar (t : Int) (b : Int) s = some ((), s') ∧ m ≤ 8 ∧ zbx (B t 0) H H' ∧ zrs s s' ∧ RB H' (B t 0) s' m ∧ zsum (s' 18) m = s 5 (s 4 t).toNat := by
  have hn := I.n
  obtain ⟨m0, ⟨a0, a1, a2, a3, a4, a5, a6, a7⟩, bo⟩ := (I.to ht).2.1 hk
  obtain ⟨b0, b1, b2, b3, b4, b5⟩ := bo
  obtain ⟨⟨p1, p2⟩, p3, ⟨p4, p5⟩, p6, -⟩ := (I.st ht).2.2.1 hk
  have hu : (((s 4 t).toNat : Nat) : Int) < s 0 2 := by omega
  have g8 := I.tg hu (c := 8) (tgk_8.mpr p3)
  have hs := (I.st hu).2.1 p3
  have hs6 := hs.2.1
  have hw := wholeN_b (v := (s 5 t).toNat) (by omega) hs
  obtain ⟨i1, i2⟩ := (whole_iff (b := b) (v := (s 5 t).toNat) (by omega) hs).mp hb
  obtain ⟨co, cv, bi⟩ := I.bar (v := (s 5 t).toNat) (b := b) hu p3 (by omega) i1
  obtain ⟨c0, c1, c2, c3, c4, c5⟩ := co
  have e5 := m_barAt (t := (s 4 t).toNat) (v := (s 5 t).toNat) (b := b) (s := s) (by omega) (by omega) (by omega)
  rw [Int.toNat_of_nonneg p1, Int.toNat_of_nonneg p4] at e5
  generalize hq : 80 * (s 4 t).toNat + 20 * (s 5 t).toNat + b = q at *
  generalize hc : B (s 4 t).toNat (20 * (s 5 t).toNat + b) = c at *
  have hpos := b0.1
  have hcp := c0.1
  -- clear
  have hcl : fBar_clearNotes (B t 0) H = some ((), zwr (zwr H (B t 0) 1 0) (B t 0) 2 0) := by
    unfold fBar_clearNotes
    simp only [ypi, b2, zA0, if_true, ztg_wr]
  have zb : zbx (B t 0) H (zwr (zwr H (B t 0) 1 0) (B t 0) 2 0) := by
    refine ⟨(by repeat first | exact zst.rf | apply zst.wr), rfl, rfl, ?_, fun a k g1 g2 => ?_⟩
    · rw [zct_wr, if_neg (by omega), zct_wr, if_neg (by omega)]
    · rw [zct_wr, if_neg (by omega), zct_wr, if_neg (by omega)]
  have zs : zrs s (zup s 0 16 0) := fun i j h1 h2 h3 h4 => by simp [zup, h4]
  have rb : RB (zwr (zwr H (B t 0) 1 0) (B t 0) 2 0) (B t 0) (zup s 0 16 0) 0 := by
    refine ⟨⟨?_, ?_, by omega, fun i hi => absurd hi (by omega)⟩, rfl, fun i hi => absurd hi (by omega)⟩
    · rw [zct_wr, if_neg (by omega), zct_wr, if_pos ⟨rfl, rfl⟩]; rfl
    · rw [zct_wr, if_pos ⟨rfl, rfl⟩]; rfl
  have hN8 := bi.1
  have e6 : zct H (A t) 6 = ((B t 0 : Nat) : Int) := a7
  obtain ⟨H2, s2, m2, q1, q2, q3, q4, q5, q6, q7⟩ := e_read_l (H := H) (a := A t) (b := B t 0) (c := c) (q := q) (N := (s 13 q).toNat) (me := s 5 (s 4 t).toNat) (s := s) (t := t) b2 b3 b4 b5 a0 (by rw [e6]; exact Int.toNat_natCast _) a5 c2 c3 c4 c5 ⟨by omega, b1.2.1⟩ m0.2.1 c1.2.1 ⟨m0.ne b0 (Or.inl (by omega)), m0.ne b1 (Or.inl (by omega))⟩ ⟨c0.ne b0 (Or.inr (by omega)), c0.ne b1 (Or.inl (by omega))⟩ ⟨c1.ne b0 (Or.inl (by omega)), c1.ne b1 (Or.inr (by omega))⟩ bi (by have := hs.1; omega) (by omega) cv (by omega) (by omega) p6 (s 13 q).toNat zFU zFU 0 0 _ _ rfl (by rw [zFU_e]; omega) (by rw [zFU_e]; omega) (by omega) (by omega) zb zs rb rfl
  have hA0 : zct (zwr (zwr H (B t 0) 1 0) (B t 0) 2 0) (A t) 6 = ((B t 0 : Nat) : Int) := by rw [zb.2.2.2.2 _ _ (m0.ne b0 (Or.inl (by omega))) (m0.ne b1 (Or.inl (by omega)))]; exact e6
  refine ⟨H2, s2, m2, ?_, ?_, by omega, q4, q5, q6, ?_⟩
  · have hcnd : (0 ≤ s 5 t ∧ s 5 t ≤ s 6 (s 4 t).toNat - 1) ∧ 0 ≤ (b : Int) ∧ (b : Int) < wholeN s (s 4 t).toNat (s 5 t).toNat := by omega
    have q1' := q1 (fun (x21 : Nat) (s22 : zHp) => ygr 5 6 x21 s22 fun p23 => some (p23, s22))
    unfold fPart_barAsRead
    simp only [ygr, ygi, a0, zA5, if_true, a3, Int.toNat_natCast, a4, yck, g8, e_wholeBar I hu p3, ybd_s, hcnd, and_self, hc, show ¬ c = 0 by omega, if_false, e6, b2, zA0, hcl]
    refine q1'.trans ?_
    have tA : ztg H2 (A t) = 6 := by rw [(q4.1.2.2 _ m0.2.1).1]; exact a0
    have cA : zct H2 (A t) 6 = ((B t 0 : Nat) : Int) := by rw [q4.2.2.2.2 _ _ (m0.ne b0 (Or.inl (by omega))) (m0.ne b1 (Or.inl (by omega)))]; exact e6
    simp only [ygr, tA, zA5, if_true, cA, Int.toNat_natCast]
  · unfold gM_readBar
    simp only [yrd_n (show t < 60 by omega), e5, ybd_s, yvl]
    exact q2
  · rw [q7]
    exact i2
theorem m_barsOf (I : IV X H s A B K ow) (ht : (t : Int) < s 0 2) (hk : s 3 t = 2 ∨ s 3 t = 5) : gM_barsOf (t : Int) s = some (wholeN s (s 4 t).toNat (s 5 t).toNat, s) := by
  have hn := I.n
  obtain ⟨⟨p1, p2⟩, p3, ⟨p4, p5⟩, p6, -⟩ := (I.st ht).2.2.1 hk
  have hu : (((s 4 t).toNat : Nat) : Int) < s 0 2 := by omega
  have hs := (I.st hu).2.1 p3
  have hs6 := hs.2.1
  have e3 := m_whole (t := (s 4 t).toNat) (v := (s 5 t).toNat) (s := s) (by omega) (by omega) hs
  rw [Int.toNat_of_nonneg p1, Int.toNat_of_nonneg p4] at e3
  unfold gM_barsOf
  simp only [yrd_n (show t < 60 by omega), e3, ybd_s]
theorem m_told {p l t : Int} {lo hi : Int} (hn : NR lo hi p l t) (h1 : -99 ≤ lo) (h2 : hi ≤ 100) {s : zSg} : gM_told p l t s = some (ncode p l t, s) := by
  obtain ⟨n1, n2, n3, n4⟩ := hn
  unfold gM_told ncode
  simp only [yjn]
  by_cases h : p = -1000
  · rw [if_pos h, if_pos h, zmul_e (by omega) (by omega), zadd_e (x := 0) (by omega) (by omega), zadd_e (by omega) (by omega)]
  · rw [if_neg h, if_neg h, zadd_e (x := p) (by omega) (by omega), zmul_e (x := 1000) (by omega) (by omega), zmul_e (by omega) (by omega), zadd_e (x := 1000 * (p + 100)) (y := 2 * l) (by omega) (by omega), zadd_e (by omega) (by omega)]
/-- a note told of a bar -/
theorem e_tellNote {b m : Nat} {P L T : Nat → Int} {i : Int} (hb : 0 < b) (h1 : ztg H b = 1) (h2 : zct H b 0 = ((b + 1 : Nat) : Int)) (h3 : ztg H (b + 1) = 30) (h4 : zln H (b + 1) = 8) (hv : BarV H b (m : Int) P L T) : fH_tellNote b i H = some (if -1 ≤ i ∧ i ≤ (m : Int) - 1 then (if i < 0 then (m : Int) else ncode (P i.toNat) (L i.toNat) (T i.toNat)) else -5, H) := by
  have hm8 := hv.2.2.1
  unfold fH_tellNote
  rw [if_neg (by omega)]
  by_cases h : i = -1
  · simp only [ygi, h1, zA0, if_true, hv.1, h]
    rw [if_pos (by omega), if_pos (by omega)]
  · rw [if_neg h]
    simp only [yck, h1, zA0, if_true, e_hasNote h1 hv.1 hm8, ybd_s, i01]
    by_cases g : 0 ≤ i ∧ i < (m : Int)
    · have hi : 0 ≤ i ∧ i < ((8 : Nat) : Int) := by omega
      have c := hv.2.2.2 i.toNat (by omega)
      simp only [g, and_self, not_true, if_false, ygr, yai, h1, zA0, if_true, h2, Int.toNat_natCast, h3, h4, hi, true_or, c]
      rw [if_pos (by omega), if_neg (by omega)]
    · rw [if_pos g, if_neg (by omega)]
theorem k_heard (I : IV X H s A B K ow) {t b i : Int} : wX (fH_heard X t b i H) fun x H' => wX (gM_heard t b i s) fun w s' => w = x ∧ KD X H H' s' := by
  have F := I.1
  have hn := I.n
  unfold fH_heard gM_heard
  simp only [wX_s, wX_bd, wX_vl, wX_jn, wX_ite, wX_dv, wX_n0, wX_rb, wX_rc, wX_ry, wX_gi, wX_gr, wX_pi, wX_pz, wX_pr, wX_ai, wX_ab, wX_ar, wX_si, wX_sz, wX_sb, wX_sr, wX_ln, wX_nw, wX_na, wX_nm, wX_io, wX_ck, wX_cp, wX_cl, wX_ca, wX_sv, wX_sc, wX_rd, wX_wi, wX_wz, wX_wb, e_partAt I, mi_isThing I, e_in, i01, ft0 F, zA10, true_and]
  by_cases h : 0 ≤ t ∧ t ≤ s 0 2 - 1
  · have ht : ((t.toNat : Nat) : Int) < s 0 2 := by omega
    have et : ((t.toNat : Nat) : Int) = t := by omega
    have hp := I.pos ht
    simp only [h, and_self, true_and, if_true, not_true, if_false, mi_isPart I h, wX_s, i01]
    by_cases hk : s 3 t.toNat = 2 ∨ s 3 t.toNat = 5
    · have g5 := I.tg ht (c := 5) (tgk_5.mpr hk)
      have mb := m_barsOf I ht hk
      rw [et] at mb
      obtain ⟨⟨p1, p2⟩, p3, ⟨p4, p5⟩, p6, -⟩ := (I.st ht).2.2.1 hk
      have hu : (((s 4 t.toNat).toNat : Nat) : Int) < s 0 2 := by omega
      have hs := (I.st hu).2.1 p3
      have hs6 := hs.2.1
      have hw := wholeN_b (v := (s 5 t.toNat).toNat) (by omega) hs
      have e4 : zsub (wholeN s (s 4 t.toNat).toNat (s 5 t.toNat).toNat) 1 = wholeN s (s 4 t.toNat).toNat (s 5 t.toNat).toNat - 1 := zsub_e (by omega) (by omega)
      simp only [hk, if_true, not_true, if_false, show ¬ A t.toNat = 0 by omega, g5, true_and, mb, wX_s, e4]
      by_cases h3 : 0 ≤ b ∧ b ≤ wholeN s (s 4 t.toNat).toNat (s 5 t.toNat).toNat - 1
      · obtain ⟨H2, s2, m, q1, q2, q3, q4, q5, q6, q7⟩ := e_read I ht hk (b := b.toNat) (by omega)
        rw [show ((b.toNat : Nat) : Int) = b by omega] at q1 q2
        rw [et] at q2
        obtain ⟨b0, b1, b2, b3, b4, b5⟩ := ((I.to ht).2.1 hk).2.2
        have hpos := b0.1
        have hn1 := b1.2.1
        have u1 : ztg H2 (B t.toNat 0) = 1 := by rw [(q4.1.2.2 _ b0.2.1).1]; exact b2
        have u2 : zct H2 (B t.toNat 0) 0 = ((B t.toNat 0 + 1 : Nat) : Int) := by rw [q4.2.2.2.1]; exact b3
        have u3 : ztg H2 (B t.toNat 0 + 1) = 30 := by rw [(q4.1.2.2 _ b1.2.1).1]; exact b4
        have u4 : zln H2 (B t.toNat 0 + 1) = 8 := by rw [(q4.1.2.2 _ b1.2.1).2]; exact b5
        have et2 := e_tellNote (i := i) (by omega) u1 u2 u3 u4 q6.1
        have e6 : zsub (s2 0 16) 1 = (m : Int) - 1 := by rw [q6.2.1]; exact zsub_e (by omega) (by omega)
        simp only [h3, and_self, not_true, if_false, q1, q2, wX_s, et2, e6]
        by_cases h4 : -1 ≤ i ∧ i ≤ (m : Int) - 1
        · simp only [h4, and_self, not_true, if_false, if_true]
          by_cases h5 : i < 0
          · simp only [h5, if_true]
            exact ⟨q6.2.1, KD.rd I ht hk q4 q5⟩
          · have hi : 0 ≤ i ∧ i < ((8 : Nat) : Int) := by omega
            have nr := q6.2.2 i.toNat (by omega)
            simp only [h5, if_false, hi, true_and, m_told nr (by omega) (by omega), wX_s]
            (repeat first | exact (KD.rd I ht hk q4 q5) | refine ⟨by omega, ?_⟩)
        · simp only [h4, not_false_iff, if_true, if_false]
          exact ⟨trivial, KD.rd I ht hk q4 q5⟩
      · have q1 := e_read0 I ht hk (b := b) (by omega)
        have q2 : fH_tellNote 0 i H = some (-5, H) := by unfold fH_tellNote; rw [if_pos rfl]
        simp only [h3, not_false_iff, if_true, q1, q2, wX_s]
        exact ⟨trivial, KD.rf I⟩
    · simp only [hk, if_false, if_true, not_false_iff]
      (first | exact KD.rf I | exact ⟨trivial, KD.rf I⟩ | exact ⟨rfl, KD.rf I⟩)
  · simp only [h, false_and, if_false, if_true, not_false_iff]
    (first | exact KD.rf I | exact ⟨trivial, KD.rf I⟩ | exact ⟨rfl, KD.rf I⟩)
end HEARD
