section PLATE3
variable {X : Nat} {H : zHp} {s : zSg} {A : Nat → Nat} {B : Nat → Nat → Nat} {K : Nat → Nat} {ow : Nat → Nat × Nat}
theorem e_barCount (I : IV X H s A B K ow) {t : Nat} (ht : (t : Int) < s 0 2) (hk : s 3 t = 2 ∨ s 3 t = 5) : fPart_barCount (A t) H = some (wholeN s (s 4 t).toNat (s 5 t).toNat, H) := by
  obtain ⟨m0, ⟨a0, a1, a2, a3, a4, a5, a6, a7⟩, bo⟩ := (I.to ht).2.1 hk
  obtain ⟨⟨p1, p2⟩, p3, ⟨p4, p5⟩, p6, -⟩ := (I.st ht).2.2.1 hk
  have hu : (((s 4 t).toNat : Nat) : Int) < s 0 2 := by omega
  have g8 := I.tg hu (c := 8) (tgk_8.mpr p3)
  have e := e_wholeBars I hu p3 (v := (s 5 t).toNat) (by omega)
  rw [Int.toNat_of_nonneg p4] at e
  unfold fPart_barCount
  simp only [ygr, ygi, yck, a0, zA5, if_true, a3, Int.toNat_natCast, a4, g8, e, ybd_s]
theorem PHp.keep {X : Nat} {H0 H2 : zHp} {n a Nn : Nat} {Ap : Nat} {ow1 : Nat → Nat × Nat} (I0 : IV X H0 s A B K ow) (hn : s 0 2 = (n : Int)) (h59 : n ≤ 59) (ph : PHp X H0 H2 n (znx H0) Ap a Nn Nn) : fH_keep X (znx H0 + 1) (zfil H2 (znx H0 + 2) 0 4 (-1)) = some ((n : Int), kpH X (zfil H2 (znx H0 + 2) 0 4 (-1)) (znx H0 + 1) n) := by
  have F := I0.1
  have hX := F.2.1.1
  have q1 : zct H0 X 4 = s 0 2 := I0.2.1.2.2.2.2.2.2.2.2.2.1
  obtain ⟨h1, h2, h3, h4, ⟨g1, g2, g3, g4, g5⟩, c0, c1, -⟩ := ph
  have oF : ∀ q k, q ≠ znx H0 + 2 → zct (zfil H2 (znx H0 + 2) 0 4 (-1)) q k = zct H2 q k := fun q k w => by rw [zct_fil, if_neg (fun e => w e.1)]
  refine e_keep ?_ ?_ ?_ ?_ ?_ h59 (by omega) ?_ ?_
  · show ztg H2 X = 11
    rw [(h1.2.2 _ (by omega)).1]; exact ft0 F
  · rw [oF _ _ (by omega), h4 _ (by omega), q1, hn]
  · rw [oF _ _ (by omega), h4 _ (by omega)]; exact fp0_3 F
  · show ztg H2 (X + 2) = 33
    rw [(h1.2.2 _ (by omega)).1]; exact ft2 F
  · show zln H2 (X + 2) = 60
    rw [(h1.2.2 _ (by omega)).2]; exact fl2 F
  · show zisA 20 (ztg H2 (znx H0 + 1)) = true
    rw [g1]; rfl
  · rw [oF _ _ (by omega)]; exact c1
set_option maxRecDepth 100000 in
theorem k_plate (I : IV X H s A B K ow) {t a b : Int} : wX (fH_plate X t a b H) fun x H' => wX (gM_plate t a b s) fun w s' => w = x ∧ KD X H H' s' := by
  have F := I.1
  have hX := F.2.1.1
  have hn := I.n
  have q1 : zct H X 4 = s 0 2 := I.2.1.2.2.2.2.2.2.2.2.2.1
  unfold fH_plate gM_plate
  simp only [wX_s, wX_bd, wX_vl, wX_jn, wX_ite, wX_dv, wX_n0, wX_rb, wX_rc, wX_ry, wX_gi, wX_gr, wX_pi, wX_pz, wX_pr, wX_ai, wX_ab, wX_ar, wX_si, wX_sz, wX_sb, wX_sr, wX_ln, wX_nw, wX_na, wX_nm, wX_io, wX_ck, wX_cp, wX_cl, wX_ca, wX_sv, wX_sc, wX_rd, wX_wi, wX_wz, wX_wb, e_partAt I, e_lacking I, mi_isThing I, e_in, i01, ft0 F, zA10, true_and, ztg_n (show X ≤ znx H by omega), zct_n (show X ≤ znx H by omega), q1]
  by_cases h : 0 ≤ t ∧ t ≤ s 0 2 - 1
  · have ht : ((t.toNat : Nat) : Int) < s 0 2 := by omega
    have et : ((t.toNat : Nat) : Int) = t := by omega
    have hp := I.pos ht
    simp only [h, and_self, true_and, if_true, not_true, if_false, mi_isPart I h, wX_s, i01]
    by_cases hk : s 3 t.toNat = 2 ∨ s 3 t.toNat = 5
    · have g5 := I.tg ht (c := 5) (tgk_5.mpr hk)
      have mb := m_barsOf I ht hk
      rw [et] at mb
      obtain ⟨⟨p1, p2⟩, p3, ⟨p4, p5⟩, p6, -⟩ := (I.st ht).2.2.1 hk
      have hu : (((s 4 t.toNat).toNat : Nat) : Int) < s 0 2 := by omega
      have hs := (I.st hu).2.1 p3
      have hs6 := hs.2.1
      have hw := wholeN_b (v := (s 5 t.toNat).toNat) (by omega) hs
      have e4 : zsub (wholeN s (s 4 t.toNat).toNat (s 5 t.toNat).toNat) 1 = wholeN s (s 4 t.toNat).toNat (s 5 t.toNat).toNat - 1 := zsub_e (by omega) (by omega)
      simp only [hk, if_true, not_true, if_false, show ¬ A t.toNat = 0 by omega, g5, true_and, mb, wX_s, e4, e_barCount I ht hk]
      generalize hW : wholeN s (s 4 t.toNat).toNat (s 5 t.toNat).toNat = W at *
      by_cases h1 : a < 0
      · simp only [h1, if_true, show ¬ (0 ≤ a ∧ a ≤ W - 1) by omega, not_false_iff]
        (first | exact KD.rf I | exact ⟨trivial, KD.rf I⟩ | exact ⟨rfl, KD.rf I⟩)
      · simp only [h1, if_false]
        by_cases h2 : b < a
        · simp only [h2, if_true, show ¬ (a ≤ b ∧ b ≤ W - 1) by omega, not_false_iff]
          by_cases h3 : 0 ≤ a ∧ a ≤ W - 1
          · simp only [h3, and_self, not_true, if_false]
            (first | exact KD.rf I | exact ⟨trivial, KD.rf I⟩ | exact ⟨rfl, KD.rf I⟩)
          · simp only [h3, not_false_iff, if_true]
            (first | exact KD.rf I | exact ⟨trivial, KD.rf I⟩ | exact ⟨rfl, KD.rf I⟩)
        · simp only [h2, if_false]
          by_cases h3 : b < W
          · have e5 : zsub b a = b - a := zsub_e (by omega) (by omega)
            simp only [h3, if_true, show (0 ≤ a ∧ a ≤ W - 1) by omega, show (a ≤ b ∧ b ≤ W - 1) by omega, and_self, not_true, if_false, e5]
            by_cases h4 : b - a < 8
            · simp only [h4, if_true, ft0 F, zA10, q1, true_and]
              by_cases h5 : s 0 2 < 60
              · obtain ⟨n, en⟩ : ∃ n : Nat, s 0 2 = (n : Int) := ⟨(s 0 2).toNat, by omega⟩
                obtain ⟨aN, rfl⟩ : ∃ aN : Nat, a = (aN : Int) := ⟨a.toNat, by omega⟩
                obtain ⟨Nn, eNn⟩ : ∃ Nn : Nat, b - (aN : Int) + 1 = (Nn : Int) := ⟨(b - (aN : Int) + 1).toNat, by omega⟩
                have eb : b = ((aN + Nn - 1 : Nat) : Int) := by omega
                have run := plC_run (H := H) (n := n) (Ap := A t.toNat) (a := aN) (b := b) (Nn := Nn) eNn (by omega) (by omega)
                obtain ⟨ph, old⟩ := plC_h (X := X) (H := H) (n := n) (Ap := A t.toNat) (a := aN) (Nn := Nn) hX
                have IC : IV X (plC H n (A t.toNat) aN Nn) s A B K (plO ow (znx H) n) := I.sep (n := n) (by omega) (by omega) ph.1 (fun q i w1 _ => old q i w1) (fun q w => if_pos w)
                obtain ⟨r3, r4, r5, r6, r0⟩ := adS_r (s := s) (n := n) (a := 3) (b := (t.toNat : Int)) (c := (aN : Int)) (d := (Nn : Int))
                have pr : PRf s (adS s n 3 (t.toNat : Int) (aN : Int) (Nn : Int)) n t.toNat aN Nn := ⟨fun r w0 w3 w4 w5 w6 _ _ _ _ _ _ _ => adS_o w3 w4 w5 w6 w0, fun j w2 _ => adS_0 w2, fun u hu => ⟨adS_u hu (by omega), adS_u hu (by omega), adS_u hu (by omega), adS_u hu (by omega)⟩, fun j _ => by rw [adS_o (by omega) (by omega) (by omega) (by omega) (by omega)], fun j _ => by rw [adS_o (k := 20) (by omega) (by omega) (by omega) (by omega) (by omega), adS_o (k := 21) (by omega) (by omega) (by omega) (by omega) (by omega), adS_o (k := 22) (by omega) (by omega) (by omega) (by omega) (by omega)]; exact ⟨rfl, rfl, rfl⟩, r3, r4, r5, r6, r0⟩
                obtain ⟨H2, sB, j1, j2, j3, j4, j5, j6⟩ := plate_l (X := X) (s := s) (A := A) (B := B) (K := K) (ow := ow) (n := n) (p := t.toNat) (N0 := znx H) (Nn := Nn) (a := aN) (H0 := H) en (by omega) hX (by omega) hk (by omega) (by omega) (by omega) (by omega) Nn zFU zFU 0 _ _ rfl (by rw [zFU_e]; omega) (by rw [zFU_e]; omega) (by omega) IC ph pr (fun j hj => absurd hj (by omega))
                have kd := IV.newplate I j3 en (by omega) (by omega) hk (by omega) (by omega) (by omega) j4 j5 j6
                have kp := PHp.keep (ow1 := ow) I en (by omega) j4
                rw [et] at j2
                rw [← eb] at j2
                have fl : fJArrays_fill (znx H + 2) (-1) H2 = some ((), zfil H2 (znx H + 2) 0 4 (-1)) := e_fill (by omega) j4.2.2.2.2.1.2.1 j4.2.2.2.2.1.2.2.1
                have cl : fPlate_init (znx H + 1) (n : Int) (A t.toNat) (aN : Int) b (zal H 7 6 fun _ => 0) = some ((), zfil H2 (znx H + 2) 0 4 (-1)) := by
                  rw [run]
                  refine (j1 _).trans ?_
                  obtain ⟨-, -, -, -, ⟨g1, -⟩, -, -, -, -, -, c5⟩ := j4
                  simp only [ygr, g1, zA6, if_true, c5, Int.toNat_natCast, fl, ybd_s]
                have tX : ztg (zfil H2 (znx H + 2) 0 4 (-1)) X = 11 := by
                  show ztg H2 X = 11
                  rw [(j4.1.2.2 _ (by omega)).1]; exact ft0 F
                have ea : zadd (b - (aN : Int)) 1 = (Nn : Int) := by rw [zadd_e (by omega) (by omega)]; omega
                have ma := m_add (s := s) (a := 3) (b := (t.toNat : Int)) (c := (aN : Int)) (d := (Nn : Int)) en (by omega)
                rw [et] at ma
                have h5' : ((n : Nat) : Int) < 60 := by omega
                simp only [en, h5', if_true, show ¬ ((n : Nat) : Int) = 60 by omega, if_false, Nat.reduceAdd, ztg_n (show X ≤ znx H by omega), zct_n (show X ≤ znx H by omega), ft0 F, zA10, q1, true_and, show 0 < znx H + 1 by omega, cl, wX_s, tX, kp, ea, ma]
                refine (wX_e j2 ?_)
                (first | exact (kd) | exact ⟨trivial, (kd)⟩ | exact ⟨rfl, (kd)⟩ | (refine ⟨by omega, ?_⟩; exact (kd)))
              · simp only [h5, if_false, show s 0 2 = 60 by omega, if_true, ft0 F, zA10, q1, true_and]
                (first | exact KD.rf I | exact ⟨trivial, KD.rf I⟩ | exact ⟨rfl, KD.rf I⟩)
            · simp only [h4, if_false]
              (first | exact KD.rf I | exact ⟨trivial, KD.rf I⟩ | exact ⟨rfl, KD.rf I⟩)
          · simp only [h3, if_false, show ¬ (a ≤ b ∧ b ≤ W - 1) by omega, not_false_iff, if_true]
            by_cases h4 : 0 ≤ a ∧ a ≤ W - 1
            · simp only [h4, and_self, not_true, if_false]
              (first | exact KD.rf I | exact ⟨trivial, KD.rf I⟩ | exact ⟨rfl, KD.rf I⟩)
            · simp only [h4, not_false_iff, if_true]
              (first | exact KD.rf I | exact ⟨trivial, KD.rf I⟩ | exact ⟨rfl, KD.rf I⟩)
    · simp only [hk, if_false, if_true, not_false_iff]
      (first | exact KD.rf I | exact ⟨trivial, KD.rf I⟩ | exact ⟨rfl, KD.rf I⟩)
  · simp only [h, false_and, if_false, if_true, not_false_iff]
    (first | exact KD.rf I | exact ⟨trivial, KD.rf I⟩ | exact ⟨rfl, KD.rf I⟩)
end PLATE3
