section DIFFERS
variable {X : Nat} {H : zHp} {s : zSg} {A : Nat → Nat} {B : Nat → Nat → Nat} {K : Nat → Nat} {ow : Nat → Nat × Nat}
set_option maxRecDepth 100000 in
theorem k_differs (I : IV X H s A B K ow) {t w : Int} : wX (fH_differs X t w H) fun x H' => wX (gM_differs t w s) fun w' s' => w' = x ∧ KD X H H' s' := by
  have F := I.1
  have hn := I.n
  unfold fH_differs gM_differs
  simp only [wX_s, wX_bd, wX_vl, wX_jn, wX_ite, wX_dv, wX_n0, wX_rb, wX_rc, wX_ry, wX_gi, wX_gr, wX_pi, wX_pz, wX_pr, wX_ai, wX_ab, wX_ar, wX_si, wX_sz, wX_sb, wX_sr, wX_ln, wX_nw, wX_na, wX_nm, wX_io, wX_ck, wX_cp, wX_cl, wX_ca, wX_sv, wX_sc, wX_rd, wX_wi, wX_wz, wX_wb, e_thingAt I, mi_isThing I, e_plateAt I, e_in, e_within, i01, ft0 F, zA10, true_and]
  by_cases h : 0 ≤ t ∧ t ≤ s 0 2 - 1
  · have ht : ((t.toNat : Nat) : Int) < s 0 2 := by omega
    have et : ((t.toNat : Nat) : Int) = t := by omega
    have hp := I.pos ht
    have hb0 : 0 ≤ t ∧ t < ((60 : Nat) : Int) := by omega
    simp only [h, and_self, true_and, if_true, not_true, if_false, show ¬ A t.toNat = 0 by omega, hb0]
    by_cases h2 : 0 ≤ w ∧ w ≤ 1
    · simp only [h2, and_self, not_true, if_false]
      by_cases hk : s 3 t.toNat = 3
      · have g6 := I.tg ht (c := 6) (tgk_6.mpr hk)
        obtain ⟨p0, p1, p2, p3, p4, p5, p6, p7⟩ := I.plate ht hk
        obtain ⟨H', s', z, q1, q2, q3, q4, q5, q6, q7⟩ := e_offs I ht hk
        rw [et] at q2
        have hX := ((I.to p1).2.1 p2).2.2.1.1
        simp only [hk, if_true, if_false, show ¬ A t.toNat = 0 by omega, g6, true_and, q1, q2, wX_s]
        by_cases h3 : w = 0
        · simp only [h3, if_true, e_bitCount q4, m_bitsOf (show z < 1024 by omega), wX_s]
          (first | exact (KD.of hX q5 q7) | exact ⟨trivial, (KD.of hX q5 q7)⟩ | exact ⟨rfl, (KD.of hX q5 q7)⟩ | (refine ⟨by omega, ?_⟩; exact (KD.of hX q5 q7)))
        · simp only [h3, if_false]
          by_cases h4 : z = 0
          · subst h4
            simp only [show ((0 : Nat) : Int) = 0 from rfl, if_true]
            (first | exact (KD.of hX q5 q7) | exact ⟨trivial, (KD.of hX q5 q7)⟩ | exact ⟨rfl, (KD.of hX q5 q7)⟩ | (refine ⟨by omega, ?_⟩; exact (KD.of hX q5 q7)))
          · have e3 : s' 3 t.toNat = 3 := by rw [q6.e (by omega) (by omega) (by omega) (by omega)]; exact hk
            obtain ⟨-, ⟨a0, a1, a2, a3, a4, a5, a6⟩, -⟩ := (q7.to (t := t.toNat) (by rw [q6.n]; exact ht)).2.2.1 e3
            have tz : ∀ Q, gM_differs_l6 zFU t (z : Int) 0 s' Q = Q t (ntv (z : Int)) s' := fun Q => by
              have := m_tz_l (t := t.toNat) q4 h4 (s := s') (Q := Q) (ntv (z : Int)).toNat zFU 0 (by omega) (by have := (nt_256 ⟨z, q4⟩ h4).2.1; dsimp only at this; rw [zFU_e]; omega) (by omega)
              rw [et] at this
              exact this
            simp only [show ¬ (z : Int) = 0 by omega, if_false, tz, e_ntz, wX_s, wX_s, wX_bd, wX_vl, wX_jn, wX_ite, wX_dv, wX_n0, wX_rb, wX_rc, wX_ry, wX_gi, wX_gr, wX_pi, wX_pz, wX_pr, wX_ai, wX_ab, wX_ar, wX_si, wX_sz, wX_sb, wX_sr, wX_ln, wX_nw, wX_na, wX_nm, wX_io, wX_ck, wX_cp, wX_cl, wX_ca, wX_sv, wX_sc, wX_rd, wX_wi, wX_wz, wX_wb, a0, zA6, a4, true_and, hb0]
            (first | exact (KD.of hX q5 q7) | exact ⟨trivial, (KD.of hX q5 q7)⟩ | exact ⟨rfl, (KD.of hX q5 q7)⟩ | (refine ⟨by omega, ?_⟩; exact (KD.of hX q5 q7)))
      · simp only [hk, if_false, if_true]
        (first | exact KD.rf I | exact ⟨trivial, KD.rf I⟩ | exact ⟨rfl, KD.rf I⟩)
    · simp only [h2, not_false_iff, if_true]
      (first | exact KD.rf I | exact ⟨trivial, KD.rf I⟩ | exact ⟨rfl, KD.rf I⟩)
  · simp only [h, false_and, if_false, if_true, not_false_iff]
    (first | exact KD.rf I | exact ⟨trivial, KD.rf I⟩ | exact ⟨rfl, KD.rf I⟩)
set_option maxRecDepth 100000 in
theorem k_missed (I : IV X H s A B K ow) {a t : Int} : wX (fH_missed X a t H) fun x H' => wX (gM_missed a t s) fun w' s' => w' = x ∧ KD X H H' s' := by
  have F := I.1
  have hn := I.n
  unfold fH_missed gM_missed
  simp only [wX_s, wX_bd, wX_vl, wX_jn, wX_ite, wX_dv, wX_n0, wX_rb, wX_rc, wX_ry, wX_gi, wX_gr, wX_pi, wX_pz, wX_pr, wX_ai, wX_ab, wX_ar, wX_si, wX_sz, wX_sb, wX_sr, wX_ln, wX_nw, wX_na, wX_nm, wX_io, wX_ck, wX_cp, wX_cl, wX_ca, wX_sv, wX_sc, wX_rd, wX_wi, wX_wz, wX_wb, e_thingAt I, mi_isThing I, e_plateAt I, e_isHand, e_in, i01, ft0 F, zA10, true_and]
  by_cases h2 : 0 ≤ a ∧ a ≤ 3
  · simp only [h2, and_self, not_true, if_false]
    by_cases h : 0 ≤ t ∧ t ≤ s 0 2 - 1
    · have ht : ((t.toNat : Nat) : Int) < s 0 2 := by omega
      have et : ((t.toNat : Nat) : Int) = t := by omega
      have hp := I.pos ht
      have hb0 : 0 ≤ t ∧ t < ((60 : Nat) : Int) := by omega
      simp only [h, and_self, true_and, if_true, not_true, if_false, show ¬ A t.toNat = 0 by omega, hb0]
      by_cases hk : s 3 t.toNat = 3
      · have g6 := I.tg ht (c := 6) (tgk_6.mpr hk)
        obtain ⟨p0, p1, p2, p3, p4, p5, p6, p7⟩ := I.plate ht hk
        obtain ⟨H', s', z, q1, q2, q3, q4, q5, q6, q7⟩ := e_offs I ht hk
        rw [et] at q2
        have hX := ((I.to p1).2.1 p2).2.2.1.1
        obtain ⟨-, ⟨a0, a1, a2, a3, a4, a5, a6⟩, ⟨l1, l2, l3, l4⟩, mk, -⟩ := (I.to ht).2.2.1 hk
        have e3 : s' 3 t.toNat = 3 := by rw [q6.e (by omega) (by omega) (by omega) (by omega)]; exact hk
        obtain ⟨-, ⟨a0', a1', a2', a3', a4', a5', a6'⟩, ⟨l1', l2', l3', l4'⟩, mk', -⟩ := (q7.to (t := t.toNat) (by rw [q6.n]; exact ht)).2.2.1 e3
        have mk := mk a.toNat (by omega)
        have mk' := mk' a.toNat (by omega)
        rw [q6.e (k := 75) (by omega) (by omega) (by omega) (by omega)] at mk'
        obtain ⟨-, -, -, -, -, -, -, s75⟩ := (I.st ht).2.2.2.1 hk
        have s75 := s75 a.toNat (by omega)
        have ha : 0 ≤ a ∧ a < ((4 : Nat) : Int) := by omega
        have e4 : zadd (zmul 4 t) a = ((4 * t.toNat + a.toNat : Nat) : Int) := by rw [zmul_e (by omega) (by omega), zadd_e (by omega) (by omega)]; omega
        have hb2 : 0 ≤ ((4 * t.toNat + a.toNat : Nat) : Int) ∧ ((4 * t.toNat + a.toNat : Nat) : Int) < ((240 : Nat) : Int) := by omega
        simp only [hk, if_true, if_false, show ¬ A t.toNat = 0 by omega, a0, zA6, a6, Int.toNat_natCast, l1, l2, true_or, ha, and_self, true_and, mk, e4, hb2]
        by_cases h3 : s 75 (4 * t.toNat + a.toNat) = -1
        · simp only [h3, if_true, show (-1 : Int) < 0 by omega]
          (first | exact KD.rf I | exact ⟨trivial, KD.rf I⟩ | exact ⟨rfl, KD.rf I⟩)
        · obtain ⟨u, u1, u2⟩ := zand_u (x := z) (by omega) (zxor (s 75 (4 * t.toNat + a.toNat)) (-1))
          simp only [h3, if_false, show ¬ s 75 (4 * t.toNat + a.toNat) < 0 by omega, q1, q2, wX_s, a0', zA6, if_true, a6', Int.toNat_natCast, l1', l2', true_or, ha, and_self, true_and, mk', u1, e_bitCount (show u < 256 by omega), m_bitsOf (show u < 1024 by omega)]
          (first | exact (KD.of hX q5 q7) | exact ⟨trivial, (KD.of hX q5 q7)⟩ | exact ⟨rfl, (KD.of hX q5 q7)⟩ | (refine ⟨by omega, ?_⟩; exact (KD.of hX q5 q7)))
      · simp only [hk, if_false, if_true]
        (first | exact KD.rf I | exact ⟨trivial, KD.rf I⟩ | exact ⟨rfl, KD.rf I⟩)
    · simp only [h, false_and, if_false, if_true, not_false_iff]
      (first | exact KD.rf I | exact ⟨trivial, KD.rf I⟩ | exact ⟨rfl, KD.rf I⟩)
  · simp only [h2, not_false_iff, if_true]
    (first | exact KD.rf I | exact ⟨trivial, KD.rf I⟩ | exact ⟨rfl, KD.rf I⟩)
set_option maxRecDepth 100000 in
theorem k_proof (I : IV X H s A B K ow) {a t b : Int} : wX (fH_proof X a t b H) fun x H' => wX (gM_proof a t b s) fun w' s' => w' = x ∧ KD X H H' s' := by
  have F := I.1
  have hn := I.n
  unfold fH_proof gM_proof
  simp only [wX_s, wX_bd, wX_vl, wX_jn, wX_ite, wX_dv, wX_n0, wX_rb, wX_rc, wX_ry, wX_gi, wX_gr, wX_pi, wX_pz, wX_pr, wX_ai, wX_ab, wX_ar, wX_si, wX_sz, wX_sb, wX_sr, wX_ln, wX_nw, wX_na, wX_nm, wX_io, wX_ck, wX_cp, wX_cl, wX_ca, wX_sv, wX_sc, wX_rd, wX_wi, wX_wz, wX_wb, e_thingAt I, mi_isThing I, e_plateAt I, e_isHand, e_in, e_within, i01, ft0 F, zA10, true_and]
  by_cases h2 : 0 ≤ a ∧ a ≤ 3
  · simp only [h2, and_self, not_true, if_false]
    by_cases h : 0 ≤ t ∧ t ≤ s 0 2 - 1
    · have ht : ((t.toNat : Nat) : Int) < s 0 2 := by omega
      have et : ((t.toNat : Nat) : Int) = t := by omega
      have hp := I.pos ht
      have hb0 : 0 ≤ t ∧ t < ((60 : Nat) : Int) := by omega
      simp only [h, and_self, true_and, if_true, not_true, if_false, show ¬ A t.toNat = 0 by omega, hb0]
      by_cases hk : s 3 t.toNat = 3
      · have g6 := I.tg ht (c := 6) (tgk_6.mpr hk)
        obtain ⟨p0, p1, p2, p3, p4, p5, p6, p7⟩ := I.plate ht hk
        obtain ⟨m, ⟨a0, a1, a2, a3, a4, a5, a6⟩, ⟨l1, l2, l3, l4⟩, mk, -⟩ := (I.to ht).2.2.1 hk
        have ha : 0 ≤ a ∧ a < ((4 : Nat) : Int) := by omega
        have e4 : zadd (zmul 4 t) a = ((4 * t.toNat + a.toNat : Nat) : Int) := by rw [zmul_e (by omega) (by omega), zadd_e (by omega) (by omega)]; omega
        have hb2 : 0 ≤ ((4 * t.toNat + a.toNat : Nat) : Int) ∧ ((4 * t.toNat + a.toNat : Nat) : Int) < ((240 : Nat) : Int) := by omega
        obtain ⟨N, eN⟩ : ∃ N : Nat, s 6 t.toNat = (N : Int) := ⟨(s 6 t.toNat).toNat, by omega⟩
        have sh := zshl_8 ⟨N, by omega⟩
        dsimp only at sh
        have pw : 2 ^ N ≤ 2 ^ 8 := Nat.pow_le_pow_right (by omega) (by omega)
        have pw0 : 0 < 2 ^ N := Nat.pow_pos (by omega)
        have pw8 : (2 : Nat) ^ 8 = 256 := rfl
        have e5 : zsub ((2 ^ N : Nat) : Int) 1 = ((2 ^ N : Nat) : Int) - 1 := zsub_e (by omega) (by omega)
        rw [eN, Int.toNat_natCast] at l4
        simp only [hk, if_true, if_false, show ¬ A t.toNat = 0 by omega, a0, zA6, a5, a6, Int.toNat_natCast, l1, l2, l3, l4, true_or, ha, and_self, true_and, e4, hb2, eN, sh, e5, Nat.reduceLeDiff]
        by_cases h3 : 0 ≤ b ∧ b ≤ ((2 ^ N : Nat) : Int) - 1
        · have I2 := I.s75 ht hk (h := a.toNat) (by omega) (v := b) (by
            rw [eN, Int.toNat_natCast]
            have : ((2 ^ N : Nat) : Int) = 2 ^ N := by simp
            omega)
          have g6' : ztg (zwr H (A t.toNat + 1) a.toNat b) (A t.toNat) = 7 := a0
          have eo : ∀ k, k ≠ 75 → zup s 75 (4 * t.toNat + a.toNat) b k = s k := fun k h1 => funext fun j => by simp [zup, h1]
          have e6 : zup s 75 (4 * t.toNat + a.toNat) b 0 2 = s 0 2 := by rw [eo 0 (by omega)]
          obtain ⟨H', s', z, q1, q2, q3, q4, q5, q6, q7⟩ := e_offs I2 (t := t.toNat) (by rw [e6]; exact ht) (by rw [eo 3 (by omega)]; exact hk)
          rw [eo 4 (by omega)] at q5
          rw [et] at q2
          obtain ⟨b0, rfl⟩ : ∃ b0 : Nat, b = (b0 : Int) := ⟨b.toNat, by omega⟩
          have hX := ((I.to p1).2.1 p2).2.2.1.1
          have hlow : b0 &&& z ≤ b0 := Nat.and_le_left
          simp only [h3, and_self, not_true, if_false, show ¬ (b0 : Int) < 0 by omega, show (b0 : Int) < ((2 ^ N : Nat) : Int) by omega, if_true, g6', zA6, true_and, q1, q2, wX_s, zand_n (show b0 < 2147483648 by omega), e_bitCount (show b0 &&& z < 256 by omega), m_bitsOf (show b0 &&& z < 1024 by omega)]
          have kd := KD.of hX q5 q7
          have h1 : zst H (zwr H (A t.toNat + 1) a.toNat (b0 : Int)) := zst.rf.wr _ _ _
          (first | exact (⟨h1.tr kd.1, kd.2.1, kd.2.2.1, fun a1 g1 g2 k => by rw [kd.2.2.2.1 a1 g1 g2 k, zct_wr, if_neg (by omega)], kd.2.2.2.2⟩) | exact ⟨trivial, (⟨h1.tr kd.1, kd.2.1, kd.2.2.1, fun a1 g1 g2 k => by rw [kd.2.2.2.1 a1 g1 g2 k, zct_wr, if_neg (by omega)], kd.2.2.2.2⟩)⟩ | exact ⟨rfl, (⟨h1.tr kd.1, kd.2.1, kd.2.2.1, fun a1 g1 g2 k => by rw [kd.2.2.2.1 a1 g1 g2 k, zct_wr, if_neg (by omega)], kd.2.2.2.2⟩)⟩ | (refine ⟨by omega, ?_⟩; exact (⟨h1.tr kd.1, kd.2.1, kd.2.2.1, fun a1 g1 g2 k => by rw [kd.2.2.2.1 a1 g1 g2 k, zct_wr, if_neg (by omega)], kd.2.2.2.2⟩)))
        · simp only [h3, not_false_iff, if_true]
          by_cases h4 : b < 0
          · simp only [h4, if_true]
            (first | exact KD.rf I | exact ⟨trivial, KD.rf I⟩ | exact ⟨rfl, KD.rf I⟩)
          · simp only [h4, if_false, show ¬ b < ((2 ^ N : Nat) : Int) by omega]
            (first | exact KD.rf I | exact ⟨trivial, KD.rf I⟩ | exact ⟨rfl, KD.rf I⟩)
      · simp only [hk, if_false, if_true]
        (first | exact KD.rf I | exact ⟨trivial, KD.rf I⟩ | exact ⟨rfl, KD.rf I⟩)
    · simp only [h, false_and, if_false, if_true, not_false_iff]
      (first | exact KD.rf I | exact ⟨trivial, KD.rf I⟩ | exact ⟨rfl, KD.rf I⟩)
  · simp only [h2, not_false_iff, if_true]
    (first | exact KD.rf I | exact ⟨trivial, KD.rf I⟩ | exact ⟨rfl, KD.rf I⟩)
set_option maxRecDepth 100000 in
theorem k_left (I : IV X H s A B K ow) {t a b w : Int} : wX (fH_left X t a b w H) fun x H' => wX (gM_left t a b w s) fun w' s' => w' = x ∧ KD X H H' s' := by
  have F := I.1
  have hn := I.n
  unfold fH_left gM_left
  simp only [wX_s, wX_bd, wX_vl, wX_jn, wX_ite, wX_dv, wX_n0, wX_rb, wX_rc, wX_ry, wX_gi, wX_gr, wX_pi, wX_pz, wX_pr, wX_ai, wX_ab, wX_ar, wX_si, wX_sz, wX_sb, wX_sr, wX_ln, wX_nw, wX_na, wX_nm, wX_io, wX_ck, wX_cp, wX_cl, wX_ca, wX_sv, wX_sc, wX_rd, wX_wi, wX_wz, wX_wb, mi_isThing I, e_plateAt I, e_isHand, e_in, e_within, i01, ft0 F, zA10, true_and]
  by_cases h : 0 ≤ t ∧ t ≤ s 0 2 - 1
  · have ht : ((t.toNat : Nat) : Int) < s 0 2 := by omega
    have et : ((t.toNat : Nat) : Int) = t := by omega
    have hp := I.pos ht
    have hb0 : 0 ≤ t ∧ t < ((60 : Nat) : Int) := by omega
    simp only [h, and_self, true_and, if_true, not_true, if_false, hb0]
    by_cases hk : s 3 t.toNat = 3
    · simp only [hk, if_true, if_false, show ¬ A t.toNat = 0 by omega]
      by_cases h2 : 0 ≤ a ∧ a ≤ 3
      · simp only [h2, and_self, not_true, if_false]
        by_cases h3 : 0 ≤ b ∧ b ≤ 3
        · simp only [h3, and_self, not_true, if_false]
          by_cases h4 : a = b
          · simp only [h4, if_true]
            (first | exact KD.rf I | exact ⟨trivial, KD.rf I⟩ | exact ⟨rfl, KD.rf I⟩)
          · simp only [h4, if_false]
            by_cases h5 : 0 ≤ w ∧ w ≤ 1
            · obtain ⟨p0, p1, p2, p3, p4, p5, p6, p7⟩ := I.plate ht hk
              obtain ⟨m, ⟨a0, a1, a2, a3, a4, a5, a6⟩, ⟨l1, l2, l3, l4⟩, mk, -⟩ := (I.to ht).2.2.1 hk
              obtain ⟨-, -, -, -, -, -, -, s75⟩ := (I.st ht).2.2.2.1 hk
              have ha : 0 ≤ a ∧ a < ((4 : Nat) : Int) := by omega
              have hb : 0 ≤ b ∧ b < ((4 : Nat) : Int) := by omega
              have e4 : zadd (zmul 4 t) a = ((4 * t.toNat + a.toNat : Nat) : Int) := by rw [zmul_e (by omega) (by omega), zadd_e (by omega) (by omega)]; omega
              have e4b : zadd (zmul 4 t) b = ((4 * t.toNat + b.toNat : Nat) : Int) := by rw [zmul_e (by omega) (by omega), zadd_e (by omega) (by omega)]; omega
              have hb2 : 0 ≤ ((4 * t.toNat + a.toNat : Nat) : Int) ∧ ((4 * t.toNat + a.toNat : Nat) : Int) < ((240 : Nat) : Int) := by omega
              have hb3 : 0 ≤ ((4 * t.toNat + b.toNat : Nat) : Int) ∧ ((4 * t.toNat + b.toNat : Nat) : Int) < ((240 : Nat) : Int) := by omega
              obtain ⟨N, eN⟩ : ∃ N : Nat, s 6 t.toNat = (N : Int) := ⟨(s 6 t.toNat).toNat, by omega⟩
              have pw : 2 ^ N ≤ 2 ^ 8 := Nat.pow_le_pow_right (by omega) (by omega)
              have pw8 : (2 : Nat) ^ 8 = 256 := rfl
              have pwc : ((2 ^ N : Nat) : Int) = 2 ^ N := by simp
              have sa := s75 a.toNat (by omega)
              have sb := s75 b.toNat (by omega)
              rw [eN, Int.toNat_natCast, ← pwc] at sa sb
              simp only [h5, and_self, not_true, if_false, a0, zA6, if_true, a6, Int.toNat_natCast, l1, l2, true_or, ha, hb, true_and, mk a.toNat (by omega), mk b.toNat (by omega), e4, e4b, hb2, hb3]
              generalize s 75 (4 * t.toNat + a.toNat) = x at *
              generalize s 75 (4 * t.toNat + b.toNat) = y at *
              by_cases hx : x = -1
              · simp only [hx, if_true, show (-1 : Int) < 0 by omega]
                (first | exact KD.rf I | exact ⟨trivial, KD.rf I⟩ | exact ⟨rfl, KD.rf I⟩)
              · simp only [hx, if_false, show ¬ x < 0 by omega]
                by_cases hy : y = -1
                · simp only [hy, if_true, show (-1 : Int) < 0 by omega]
                  (first | exact KD.rf I | exact ⟨trivial, KD.rf I⟩ | exact ⟨rfl, KD.rf I⟩)
                · obtain ⟨x, rfl⟩ : ∃ x0 : Nat, x = (x0 : Int) := ⟨x.toNat, by omega⟩
                  obtain ⟨y, rfl⟩ : ∃ y0 : Nat, y = (y0 : Int) := ⟨y.toNat, by omega⟩
                  have hx256 : x < 256 := by omega
                  have hy256 : y < 256 := by omega
                  have hxy : x &&& y ≤ x := Nat.and_le_left
                  have hor : x ||| y < 2 ^ 8 := Nat.or_lt_two_pow (by omega) (by omega)
                  simp only [hy, if_false, show ¬ (y : Int) < 0 by omega, zand_n (show x < 2147483648 by omega)]
                  by_cases hz : x &&& y = 0
                  · simp only [hz, show ((0 : Nat) : Int) = 0 from rfl, if_true]
                    (first | exact KD.rf I | exact ⟨trivial, KD.rf I⟩ | exact ⟨rfl, KD.rf I⟩)
                  · have po := pop_or (x := x) (y := y) 10
                    have pa := pop_and (x := x) (y := y) 10
                    have pl := pop_le (z := x) 10
                    have pl2 := pop_le (z := y) 10
                    have ps := (pop_step ⟨x &&& y, by omega⟩ hz).2
                    dsimp only at ps
                    have pb : 0 < pop 10 (x &&& y) := by omega
                    simp only [show ¬ ((x &&& y : Nat) : Int) = 0 by omega, if_false, zor_n (k := 8) (by omega) (show x < 2 ^ 8 by omega) (show y < 2 ^ 8 by omega), e_bitCount (show x &&& y < 256 by omega), e_bitCount hx256, e_bitCount hy256, m_bitsOf (show x &&& y < 1024 by omega), m_bitsOf (show x < 1024 by omega), m_bitsOf (show y < 1024 by omega), m_bitsOf (show x ||| y < 1024 by omega), wX_s]
                    generalize pop 10 (x &&& y) = c at *
                    generalize pop 10 (x ||| y) = o at *
                    obtain ⟨i, ei⟩ : ∃ i, pop 10 x = c + i := ⟨pop 10 x - c, by omega⟩
                    obtain ⟨j, ej⟩ : ∃ j, pop 10 y = c + j := ⟨pop 10 y - c, by omega⟩
                    obtain rfl : o = c + i + j := by omega
                    rw [ei, ej]
                    have mij : i * j ≤ 10 * 10 := Nat.mul_le_mul (by omega) (by omega)
                    have m1 : (c + i) * (c + j) ≤ 10 * 10 := Nat.mul_le_mul (by omega) (by omega)
                    have m2 : (c + i + j) * c ≤ 20 * 10 := Nat.mul_le_mul (by omega) (by omega)
                    have f1 : zmul (zsub ((c + i : Nat) : Int) (c : Int)) (zsub ((c + j : Nat) : Int) (c : Int)) = ((i * j : Nat) : Int) := by
                      rw [zsub_e (by omega) (by omega), zsub_e (by omega) (by omega), show ((c + i : Nat) : Int) - (c : Int) = (i : Int) by omega, show ((c + j : Nat) : Int) - (c : Int) = (j : Int) by omega]
                      have : (i : Int) * (j : Int) = ((i * j : Nat) : Int) := by simp
                      rw [zmul_e (by omega) (by omega), this]
                    have f2 : zsub (zmul ((c + i : Nat) : Int) ((c + j : Nat) : Int)) (zmul ((c + i + j : Nat) : Int) (c : Int)) = ((i * j : Nat) : Int) := by
                      have g1 : ((c + i : Nat) : Int) * ((c + j : Nat) : Int) = (((c + i) * (c + j) : Nat) : Int) := by simp
                      have g2 : ((c + i + j : Nat) : Int) * (c : Int) = (((c + i + j) * c : Nat) : Int) := by simp
                      have g3 : (c + i) * (c + j) = (c + i + j) * c + i * j := by grind
                      rw [zmul_e (by omega) (by omega), zmul_e (by omega) (by omega), zsub_e (by omega) (by omega)]
                      omega
                    have cd := e_cd_l (H := H) (a := i * j) (b := c) pb (by omega) (by omega) c zFU c (Nat.le_refl _) (by rw [zFU_e]; omega) (Nat.le_refl _) (Or.inl (Nat.le_of_dvd pb (Nat.gcd_dvd_right _ _)))
                    have gp : 0 < Nat.gcd (i * j) c := Nat.gcd_pos_of_pos_right _ pb
                    have cd' : fH_commonDivisor ((i * j : Nat) : Int) (c : Int) H = some (((Nat.gcd (i * j) c : Nat) : Int), H) := cd
                    have gc : ∀ Q, gM_left_l7 zFU w (c : Int) ((i * j : Nat) : Int) ((i * j : Nat) : Int) (c : Int) s Q = Q w (c : Int) ((i * j : Nat) : Int) ((Nat.gcd (i * j) c : Nat) : Int) s := fun Q => m_gcd_l c zFU (i * j) c (Nat.le_refl _) (by rw [zFU_e]; omega) (by omega) (by omega)
                    simp only [f1, f2, cd', wX_s, show ¬ ((i * j : Nat) : Int) < 0 by omega, if_false, gc]
                    by_cases hw : w = 0
                    · simp only [hw, if_true, wX_s, wX_bd, wX_vl, wX_jn, wX_ite, wX_dv, wX_n0, wX_rb, wX_rc, wX_ry, wX_gi, wX_gr, wX_pi, wX_pz, wX_pr, wX_ai, wX_ab, wX_ar, wX_si, wX_sz, wX_sb, wX_sr, wX_ln, wX_nw, wX_na, wX_nm, wX_io, wX_ck, wX_cp, wX_cl, wX_ca, wX_sv, wX_sc, wX_rd, wX_wi, wX_wz, wX_wb]
                      exact ⟨by omega, by omega, trivial, KD.rf I⟩
                    · simp only [hw, if_false, wX_s, wX_bd, wX_vl, wX_jn, wX_ite, wX_dv, wX_n0, wX_rb, wX_rc, wX_ry, wX_gi, wX_gr, wX_pi, wX_pz, wX_pr, wX_ai, wX_ab, wX_ar, wX_si, wX_sz, wX_sb, wX_sr, wX_ln, wX_nw, wX_na, wX_nm, wX_io, wX_ck, wX_cp, wX_cl, wX_ca, wX_sv, wX_sc, wX_rd, wX_wi, wX_wz, wX_wb]
                      exact ⟨by omega, by omega, trivial, KD.rf I⟩
            · simp only [h5, not_false_iff, if_true]
              (first | exact KD.rf I | exact ⟨trivial, KD.rf I⟩ | exact ⟨rfl, KD.rf I⟩)
        · simp only [h3, not_false_iff, if_true]
          (first | exact KD.rf I | exact ⟨trivial, KD.rf I⟩ | exact ⟨rfl, KD.rf I⟩)
      · simp only [h2, not_false_iff, if_true]
        (first | exact KD.rf I | exact ⟨trivial, KD.rf I⟩ | exact ⟨rfl, KD.rf I⟩)
    · simp only [hk, if_false, if_true]
      (first | exact KD.rf I | exact ⟨trivial, KD.rf I⟩ | exact ⟨rfl, KD.rf I⟩)
  · simp only [h, false_and, if_false, if_true, not_false_iff]
    (first | exact KD.rf I | exact ⟨trivial, KD.rf I⟩ | exact ⟨rfl, KD.rf I⟩)
end DIFFERS
