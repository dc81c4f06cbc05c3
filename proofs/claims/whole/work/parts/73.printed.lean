section PRINTED2
variable {X : Nat} {H : zHp} {s : zSg} {A : Nat → Nat} {B : Nat → Nat → Nat} {K : Nat → Nat} {ow : Nat → Nat × Nat}
theorem e_amended0 (I : IV X H s A B K ow) {x : Nat} (hx : (x : Int) < s 0 2) (hk : s 3 x = 4) {v b i lim : Int} (hi : 0 ≤ i) (h : ¬ ((0 ≤ v ∧ v ≤ 3) ∧ (0 ≤ b ∧ b ≤ 19) ∧ 0 ≤ s 29 (80 * x + (20 * v.toNat + b.toNat)) ∧ i < s 29 (80 * x + (20 * v.toNat + b.toNat)))) : fH_amendedNote X (A x) v b i lim H = some (-5, H) := by
  obtain ⟨-, ⟨e0, -⟩, -, -, e9⟩ := (I.to hx).2.2.2.1 hk
  have bc := e_barOf I hx hk (v := v) (b := b)
  unfold fH_amendedNote
  by_cases g : (0 ≤ v ∧ v ≤ 3) ∧ (0 ≤ b ∧ b ≤ 19) ∧ 0 ≤ s 29 (80 * x + (20 * v.toNat + b.toNat))
  · rw [if_pos g] at bc
    obtain ⟨bo, bv⟩ := (e9 (20 * v.toNat + b.toNat) (by omega)).2 g.2.2
    obtain ⟨b0, b1, b2, b3, b4, b5⟩ := bo
    rw [show s 29 (80 * x + (20 * v.toNat + b.toNat)) = (((s 29 (80 * x + (20 * v.toNat + b.toNat))).toNat : Nat) : Int) by omega] at bv
    have tn := e_tellNote (i := i) (by have := b0.1; omega) b2 b3 b4 b5 bv
    rw [if_neg (by omega)] at tn
    simp only [yck, e0, zA2, if_true, bc, ybd_s, tn]
  · rw [if_neg g] at bc
    have q2 : fH_tellNote 0 i H = some (-5, H) := by unfold fH_tellNote; rw [if_pos rfl]
    simp only [yck, e0, zA2, if_true, bc, ybd_s, q2]
set_option maxRecDepth 100000 in
theorem k_idle (I : IV X H s A B K ow) {t : Int} : wX (fH_idle X t H) fun x H' => wX (gM_idle t s) fun w s' => w = x ∧ KD X H H' s' := by
  have F := I.1
  have hn := I.n
  unfold fH_idle gM_idle
  simp only [wX_s, wX_bd, wX_vl, wX_jn, wX_ite, wX_dv, wX_n0, wX_rb, wX_rc, wX_ry, wX_gi, wX_gr, wX_pi, wX_pz, wX_pr, wX_ai, wX_ab, wX_ar, wX_si, wX_sz, wX_sb, wX_sr, wX_ln, wX_nw, wX_na, wX_nm, wX_io, wX_ck, wX_cp, wX_cl, wX_ca, wX_sv, wX_sc, wX_rd, wX_wi, wX_wz, wX_wb, e_erratumAt I, e_lacking I, mi_isThing I, i01, ft0 F, zA10, true_and]
  by_cases h : 0 ≤ t ∧ t ≤ s 0 2 - 1
  · have ht : ((t.toNat : Nat) : Int) < s 0 2 := by omega
    have et : ((t.toNat : Nat) : Int) = t := by omega
    have hp := I.pos ht
    have hb0 : 0 ≤ t ∧ t < ((60 : Nat) : Int) := by omega
    simp only [h, and_self, true_and, if_true, not_true, if_false, hb0]
    by_cases hk : s 3 t.toNat = 7
    · obtain ⟨-, ⟨b0, -, b1, b2, b3, b4, b5⟩⟩ := (I.to ht).2.2.2.2 hk
      obtain ⟨⟨p1, p2⟩, p3, w1, w2, w3, w4, w5⟩ := (I.st ht).2.2.2.2.2 hk
      obtain ⟨-, f2, f3⟩ := e_vr I ht hk
      have f2' : fErratum_voice (A t.toNat) H = some (s 5 t.toNat, H) := by
        simp only [fErratum_voice, ygi, b0, zA3, if_true, b3]
        rw [zdiv_e ⟨by omega, by omega⟩ (by omega) (by omega) (by omega), show ((s 5 t.toNat * 20 + s 6 t.toNat) * 8 + s 32 t.toNat) / 160 = s 5 t.toNat by omega]
      have f3' : fErratum_bar (A t.toNat) H = some (s 6 t.toNat, H) := by
        simp only [fErratum_bar, ygi, b0, zA3, if_true, b3]
        rw [zdiv_e ⟨by omega, by omega⟩ (by omega) (by omega) (by omega), show ((s 5 t.toNat * 20 + s 6 t.toNat) * 8 + s 32 t.toNat) / 8 = s 5 t.toNat * 20 + s 6 t.toNat by omega, zrem_e ⟨by omega, by omega⟩ (by omega) (by omega) (by omega), show (s 5 t.toNat * 20 + s 6 t.toNat) % 20 = s 6 t.toNat by omega]
      have f4' : fErratum_noteIndex (A t.toNat) H = some (s 32 t.toNat, H) := by
        simp only [fErratum_noteIndex, ygi, b0, zA3, if_true, b3]
        rw [zrem_e ⟨by omega, by omega⟩ (by omega) (by omega) (by omega), show ((s 5 t.toNat * 20 + s 6 t.toNat) * 8 + s 32 t.toNat) % 8 = s 32 t.toNat by omega]
      have hu : (((s 4 t.toNat).toNat : Nat) : Int) < s 0 2 := by omega
      have eu : (((s 4 t.toNat).toNat : Nat) : Int) = s 4 t.toNat := by omega
      have hb := m_hasBar (x := (s 4 t.toNat).toNat) (s := s) (by omega) (v := s 5 t.toNat) (b := s 6 t.toNat)
      rw [eu] at hb
      have cb := e_barOf I hu p3 (v := s 5 t.toNat) (b := s 6 t.toNat)
      have g2 : ztg H (A (s 4 t.toNat).toNat) = 3 := ((I.to hu).2.2.2.1 p3).2.1.1
      simp only [hk, if_true, if_false, show ¬ A t.toNat = 0 by omega, b0, zA3, b2, Int.toNat_natCast, f2', f3', f4', b1, wX_s, true_and, hb, i01]
      by_cases hh : 0 ≤ s 29 (80 * (s 4 t.toNat).toNat + (20 * (s 5 t.toNat).toNat + (s 6 t.toNat).toNat))
      · rw [if_pos ⟨w1, w2, hh⟩] at cb
        have e5 := m_barAt (t := (s 4 t.toNat).toNat) (v := (s 5 t.toNat).toNat) (b := (s 6 t.toNat).toNat) (s := s) (by omega) (by omega) (by omega)
        rw [eu, show (((s 5 t.toNat).toNat : Nat) : Int) = s 5 t.toNat by omega, show (((s 6 t.toNat).toNat : Nat) : Int) = s 6 t.toNat by omega, Nat.add_assoc] at e5
        by_cases hi : s 32 t.toNat < s 29 (80 * (s 4 t.toNat).toNat + (20 * (s 5 t.toNat).toNat + (s 6 t.toNat).toNat))
        · have am := e_amended I hu p3 (lim := t.toNat) (by omega) (v := s 5 t.toNat) (b := s 6 t.toNat) (i := s 32 t.toNat) w1 w2 hh ⟨w3.1, hi⟩
          have ma := m_amended (x := (s 4 t.toNat).toNat) (lim := t.toNat) (s := s) (by omega) (by omega) (v := s 5 t.toNat) (b := s 6 t.toNat) (i := s 32 t.toNat) w1 w2 w3
          rw [et] at ma
          rw [eu] at ma
          obtain ⟨z1, z2⟩ := ((I.st hu).2.2.2.2.1 p3).2.2.2 (20 * (s 5 t.toNat).toNat + (s 6 t.toNat).toNat) (by omega)
          have nr := z2 (s 32 t.toNat).toNat (by omega)
          have ar := amN_rest I (x := (s 4 t.toNat).toNat) (v := s 5 t.toNat) (b := s 6 t.toNat) (i := s 32 t.toNat) t.toNat (by omega)
          have ab := fun hp => amN_b I (x := (s 4 t.toNat).toNat) (v := s 5 t.toNat) (b := s 6 t.toNat) (i := s 32 t.toNat) (p := s 26 (8 * (80 * (s 4 t.toNat).toNat + (20 * (s 5 t.toNat).toNat + (s 6 t.toNat).toNat)) + (s 32 t.toNat).toNat)) hp t.toNat (by omega)
          have hq : 80 * (s 4 t.toNat).toNat + (20 * (s 5 t.toNat).toNat + (s 6 t.toNat).toNat) < 4800 := by omega
          have nr2 := nr.2
          have hP : amN s (s 4 t.toNat).toNat (s 5 t.toNat) (s 6 t.toNat) (s 32 t.toNat) (s 26 (8 * (80 * (s 4 t.toNat).toNat + (20 * (s 5 t.toNat).toNat + (s 6 t.toNat).toNat)) + (s 32 t.toNat).toNat)) t.toNat = -1000 ∨ (-99 ≤ amN s (s 4 t.toNat).toNat (s 5 t.toNat) (s 6 t.toNat) (s 32 t.toNat) (s 26 (8 * (80 * (s 4 t.toNat).toNat + (20 * (s 5 t.toNat).toNat + (s 6 t.toNat).toNat)) + (s 32 t.toNat).toNat)) t.toNat ∧ amN s (s 4 t.toNat).toNat (s 5 t.toNat) (s 6 t.toNat) (s 32 t.toNat) (s 26 (8 * (80 * (s 4 t.toNat).toNat + (20 * (s 5 t.toNat).toNat + (s 6 t.toNat).toNat)) + (s 32 t.toNat).toNat)) t.toNat ≤ 1000) := by
            rcases nr.1 with w | w
            · left; rw [w.1]; exact ar
            · right; exact ab (by omega)
          generalize amN s (s 4 t.toNat).toNat (s 5 t.toNat) (s 6 t.toNat) (s 32 t.toNat) (s 26 (8 * (80 * (s 4 t.toNat).toNat + (20 * (s 5 t.toNat).toNat + (s 6 t.toNat).toNat)) + (s 32 t.toNat).toNat)) t.toNat = P at *
          generalize s 27 (8 * (80 * (s 4 t.toNat).toNat + (20 * (s 5 t.toNat).toNat + (s 6 t.toNat).toNat)) + (s 32 t.toNat).toNat) = L at *
          generalize s 28 (8 * (80 * (s 4 t.toNat).toNat + (20 * (s 5 t.toNat).toNat + (s 6 t.toNat).toNat)) + (s 32 t.toNat).toNat) = T at *
          have hc0 : ncode P L T ≠ -5 := by
            unfold ncode
            split <;> omega
          have hq2 : 0 ≤ ((80 * (s 4 t.toNat).toNat + (20 * (s 5 t.toNat).toNat + (s 6 t.toNat).toNat) : Nat) : Int) ∧ ((80 * (s 4 t.toNat).toNat + (20 * (s 5 t.toNat).toNat + (s 6 t.toNat).toNat) : Nat) : Int) < ((4800 : Nat) : Int) := by omega
          simp only [w1, w2, hh, and_self, not_true, if_false, if_true, am, e5, ma, wX_s, hc0, e_isRest ⟨nr2.1, nr2.2.1⟩ nr2.2.2 hP, e_pitchOf ⟨nr2.1, nr2.2.1⟩ nr2.2.2 hP, hq2, Int.toNat_natCast, hi, true_and, i01, b0, zA3, b4, ft0 F, zA10, h, hb0]
          by_cases r : P = -1000
          · simp only [r, not_true, if_false, if_true, show ¬ (-1000 : Int) = s 30 t.toNat by omega]
            (repeat first | exact (KD.rf I) | refine ⟨by omega, ?_⟩)
          · simp only [r, not_false_iff, if_true, if_false]
            by_cases r2 : P = s 30 t.toNat
            · simp only [r2, if_true]
              (repeat first | exact (KD.rf I) | refine ⟨by omega, ?_⟩)
            · simp only [r2, if_false]
              (repeat first | exact (KD.rf I) | refine ⟨by omega, ?_⟩)
        · have am := e_amended0 I hu p3 (v := s 5 t.toNat) (b := s 6 t.toNat) (i := s 32 t.toNat) (lim := ((t.toNat : Nat) : Int)) w3.1 (fun w => hi w.2.2.2)
          have hq2 : 0 ≤ ((80 * (s 4 t.toNat).toNat + (20 * (s 5 t.toNat).toNat + (s 6 t.toNat).toNat) : Nat) : Int) ∧ ((80 * (s 4 t.toNat).toNat + (20 * (s 5 t.toNat).toNat + (s 6 t.toNat).toNat) : Nat) : Int) < ((4800 : Nat) : Int) := by omega
          simp only [w1, w2, hh, and_self, not_true, if_false, if_true, am, e5, wX_s, hq2, Int.toNat_natCast, hi, true_and, ft0 F, zA10, b0, zA3, h, hb0]
          (repeat first | exact (KD.rf I) | refine ⟨by omega, ?_⟩)
      · have am := e_amended0 I hu p3 (v := s 5 t.toNat) (b := s 6 t.toNat) (i := s 32 t.toNat) (lim := ((t.toNat : Nat) : Int)) w3.1 (fun w => hh w.2.2.1)
        simp only [hh, and_false, not_false_iff, if_true, am, wX_s, ft0 F, zA10, b0, zA3, true_and]
        (repeat first | exact (KD.rf I) | refine ⟨by omega, ?_⟩)
    · simp only [hk, if_false, if_true]
      (first | exact KD.rf I | exact ⟨trivial, KD.rf I⟩ | exact ⟨rfl, KD.rf I⟩)
  · simp only [h, false_and, if_false, if_true, not_false_iff]
    (first | exact KD.rf I | exact ⟨trivial, KD.rf I⟩ | exact ⟨rfl, KD.rf I⟩)
end PRINTED2
