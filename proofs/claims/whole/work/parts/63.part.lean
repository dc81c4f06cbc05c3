section PART2
variable {X : Nat} {H : zHp} {s : zSg} {A : Nat → Nat} {B : Nat → Nat → Nat} {K : Nat → Nat} {ow : Nat → Nat × Nat}
theorem ztg_n {H : zHp} {t n q : Nat} {f : Nat → Int} (h : q ≤ znx H) : ztg (zal H t n f) q = ztg H q := by rw [ztg_al, if_neg (by omega)]
theorem zct_n {H : zHp} {t n q k : Nat} {f : Nat → Int} (h : q ≤ znx H) : zct (zal H t n f) q k = zct H q k := by rw [zct_al, if_neg (by omega)]
theorem np_tX {n : Nat} (I : IV X H s A B K ow) {kd : Int} {r : Nat} {v tr : Int} : ztg (npH H kd n r v tr) X = 11 := by
  have hX := I.1.2.1.1
  rw [(np_st.2.2 _ (by omega)).1]; exact ft0 I.1
theorem k_part (I : IV X H s A B K ow) {t v p : Int} : wX (fH_part X t v p H) fun x H' => wX (gM_part t v p s) fun w s' => w = x ∧ KD X H H' s' := by
  have F := I.1
  have hX := F.2.1.1
  have hn := I.n
  have q1 : zct H X 4 = s 0 2 := I.2.1.2.2.2.2.2.2.2.2.2.1
  unfold fH_part gM_part
  simp only [wX_s, wX_bd, wX_vl, wX_jn, wX_ite, wX_dv, wX_n0, wX_rb, wX_rc, wX_ry, wX_gi, wX_gr, wX_pi, wX_pz, wX_pr, wX_ai, wX_ab, wX_ar, wX_si, wX_sz, wX_sb, wX_sr, wX_ln, wX_nw, wX_na, wX_nm, wX_io, wX_ck, wX_cp, wX_cl, wX_ca, wX_sv, wX_sc, wX_rd, wX_wi, wX_wz, wX_wb, e_scoreAt I, e_lacking I, mi_isThing I, e_in, e_within, i01, ft0 F, zA10, true_and, ztg_n (show X ≤ znx H by omega), zct_n (show X ≤ znx H by omega), q1]
  by_cases h : 0 ≤ t ∧ t ≤ s 0 2 - 1
  · have ht : ((t.toNat : Nat) : Int) < s 0 2 := by omega
    have et : ((t.toNat : Nat) : Int) = t := by omega
    have hp := I.pos ht
    simp only [h, and_self, true_and, if_true, not_true, if_false, mi_isMusic I h, wX_s, i01]
    by_cases hk : s 3 t.toNat = 1 ∨ s 3 t.toNat = 6
    · have hs := (I.st ht).2.1 hk
      have e1 : zsub (s 6 t.toNat) 1 = s 6 t.toNat - 1 := zsub_e (by have := hs.2.1; omega) (by have := hs.2.1; omega)
      obtain ⟨-, hg, -, -⟩ := I.hd ht
      have hb0 : 0 ≤ t ∧ t < ((60 : Nat) : Int) := by omega
      simp only [hk, if_true, not_true, if_false, show ¬ A t.toNat = 0 by omega, e_hasVoice I ht hk, wX_s, i01, e1, hg, tgk_8.mpr hk, true_and, hb0]
      by_cases h2 : 0 ≤ v ∧ v ≤ s 6 t.toNat - 1
      · simp only [h2, and_self, not_true, if_false]
        by_cases h3 : -12 ≤ p ∧ p ≤ 12
        · simp only [h3, and_self, not_true, if_false]
          by_cases h4 : s 0 2 < 60
          · obtain ⟨n, en⟩ : ∃ n : Nat, s 0 2 = (n : Int) := ⟨(s 0 2).toNat, by omega⟩
            have iv := I.newpart (kd := 2) (v := v) (tr := p) (u := t.toNat) en (by omega) (Or.inl rfl) (by omega) hk (by omega) h3
            rw [et] at iv
            have r := np_run (H := H) (n := n) (kd := 2) (r := A t.toNat) (v := v) (tr := p)
            have kp := np_keep I (kd := 2) (r := A t.toNat) (v := v) (tr := p) en (by omega)
            have h4' : ((n : Nat) : Int) < 60 := by omega
            simp only [ft0 F, zA10, q1, Nat.reduceAdd, ztg_n (show X ≤ znx H by omega), zct_n (show X ≤ znx H by omega), show 0 < znx H + 1 by omega, true_and, en, h4', if_true, show ¬ ((n : Nat) : Int) = 60 by omega, if_false, m_add en (show n ≤ 59 by omega), r, kp, wX_s, np_tX I, zA10, true_and]
            (repeat first | exact (iv) | refine ⟨by omega, ?_⟩)
          · simp only [ft0 F, zA10, q1, true_and, show s 0 2 = 60 by omega, show ¬ (60 : Int) < 60 by omega, if_false, if_true]
            (first | exact KD.rf I | exact ⟨trivial, KD.rf I⟩ | exact ⟨rfl, KD.rf I⟩)
        · simp only [h3, not_false_iff, if_true]
          (first | exact KD.rf I | exact ⟨trivial, KD.rf I⟩ | exact ⟨rfl, KD.rf I⟩)
      · simp only [h2, not_false_iff, if_true]
        (repeat first | exact (KD.rf I) | refine ⟨by omega, ?_⟩)
    · simp only [hk, if_false, if_true, not_false_iff]
      (first | exact KD.rf I | exact ⟨trivial, KD.rf I⟩ | exact ⟨rfl, KD.rf I⟩)
  · simp only [h, false_and, if_false, if_true, not_false_iff]
    (first | exact KD.rf I | exact ⟨trivial, KD.rf I⟩ | exact ⟨rfl, KD.rf I⟩)
theorem k_set (I : IV X H s A B K ow) {t : Int} : wX (fH_set X t H) fun x H' => wX (gM_set t s) fun w s' => w = x ∧ KD X H H' s' := by
  have F := I.1
  have hX := F.2.1.1
  have hn := I.n
  have q1 : zct H X 4 = s 0 2 := I.2.1.2.2.2.2.2.2.2.2.2.1
  unfold fH_set gM_set
  simp only [wX_s, wX_bd, wX_vl, wX_jn, wX_ite, wX_dv, wX_n0, wX_rb, wX_rc, wX_ry, wX_gi, wX_gr, wX_pi, wX_pz, wX_pr, wX_ai, wX_ab, wX_ar, wX_si, wX_sz, wX_sb, wX_sr, wX_ln, wX_nw, wX_na, wX_nm, wX_io, wX_ck, wX_cp, wX_cl, wX_ca, wX_sv, wX_sc, wX_rd, wX_wi, wX_wz, wX_wb, e_partAt I, e_lacking I, mi_isThing I, i01, ft0 F, zA10, true_and, ztg_n (show X ≤ znx H by omega), zct_n (show X ≤ znx H by omega), q1]
  by_cases h : 0 ≤ t ∧ t ≤ s 0 2 - 1
  · have ht : ((t.toNat : Nat) : Int) < s 0 2 := by omega
    have hp := I.pos ht
    simp only [h, and_self, true_and, if_true, not_true, if_false, mi_isPart I h, wX_s, i01]
    by_cases hk : s 3 t.toNat = 2 ∨ s 3 t.toNat = 5
    · obtain ⟨m0, ⟨a0, a1, a2, a3, a4, a5, a6, a7⟩, bo⟩ := (I.to ht).2.1 hk
      obtain ⟨⟨p1, p2⟩, p3, ⟨p4, p5⟩, p6, -⟩ := (I.st ht).2.2.1 hk
      have hb0 : 0 ≤ t ∧ t < ((60 : Nat) : Int) := by omega
      simp only [hk, if_true, not_true, if_false, show ¬ A t.toNat = 0 by omega, hb0, true_and]
      by_cases h4 : s 0 2 < 60
      · obtain ⟨n, en⟩ : ∃ n : Nat, s 0 2 = (n : Int) := ⟨(s 0 2).toNat, by omega⟩
        have iv := I.newpart (kd := 5) (v := s 5 t.toNat) (tr := s 6 t.toNat) (u := (s 4 t.toNat).toNat) en (by omega) (Or.inr rfl) (by omega) p3 (by omega) p6
        rw [Int.toNat_of_nonneg p1] at iv
        have r := np_run (H := H) (n := n) (kd := 5) (r := A (s 4 t.toNat).toNat) (v := s 5 t.toNat) (tr := s 6 t.toNat)
        have kp := np_keep I (kd := 5) (r := A (s 4 t.toNat).toNat) (v := s 5 t.toNat) (tr := s 6 t.toNat) en (by omega)
        have h4' : ((n : Nat) : Int) < 60 := by omega
        simp only [ft0 F, zA10, q1, Nat.reduceAdd, ztg_n (show X ≤ znx H by omega), zct_n (show X ≤ znx H by omega), show 0 < znx H + 1 by omega, true_and, en, h4', if_true, show ¬ ((n : Nat) : Int) = 60 by omega, if_false, m_add en (show n ≤ 59 by omega), ztg_n (show A t.toNat ≤ znx H by omega), zct_n (show A t.toNat ≤ znx H by omega), a0, zA5, a3, a4, a5, Int.toNat_natCast, r, kp, wX_s, np_tX I, zA10, true_and]
        (repeat first | exact (iv) | refine ⟨by omega, ?_⟩)
      · simp only [ft0 F, zA10, q1, true_and, show s 0 2 = 60 by omega, show ¬ (60 : Int) < 60 by omega, if_false, if_true]
        (first | exact KD.rf I | exact ⟨trivial, KD.rf I⟩ | exact ⟨rfl, KD.rf I⟩)
    · simp only [hk, if_false, if_true, not_false_iff]
      (first | exact KD.rf I | exact ⟨trivial, KD.rf I⟩ | exact ⟨rfl, KD.rf I⟩)
  · simp only [h, false_and, if_false, if_true, not_false_iff]
    (first | exact KD.rf I | exact ⟨trivial, KD.rf I⟩ | exact ⟨rfl, KD.rf I⟩)
end PART2
