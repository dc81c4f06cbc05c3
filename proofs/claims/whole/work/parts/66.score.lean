section SCORE
variable {X : Nat} {H : zHp} {s : zSg} {A : Nat → Nat} {B : Nat → Nat → Nat} {K : Nat → Nat} {ow : Nat → Nat × Nat}
theorem m_areScore {a b : Int} {s : zSg} : gM_areScore a b s = some (if (2 ≤ a ∧ a ≤ 12) ∧ 1 ≤ b ∧ b ≤ 4 then 1 else 0, s) := by
  unfold gM_areScore
  simp only [e_in, ybd_s, i01]
  repeat' split
  all_goals first
    | rfl
    | (exfalso; omega)
theorem k_score (I : IV X H s A B K ow) {a m v : Int} : wX (fH_score X a m v H) fun x H' => wX (gM_score a m v s) fun w s' => w = x ∧ KD X H H' s' := by
  have F := I.1
  have hX := F.2.1.1
  have hn := I.n
  have q1 : zct H X 4 = s 0 2 := I.2.1.2.2.2.2.2.2.2.2.2.1
  unfold fH_score gM_score
  simp only [wX_s, wX_bd, wX_vl, wX_jn, wX_ite, wX_dv, wX_n0, wX_rb, wX_rc, wX_ry, wX_gi, wX_gr, wX_pi, wX_pz, wX_pr, wX_ai, wX_ab, wX_ar, wX_si, wX_sz, wX_sb, wX_sr, wX_ln, wX_nw, wX_na, wX_nm, wX_io, wX_ck, wX_cp, wX_cl, wX_ca, wX_sv, wX_sc, wX_rd, wX_wi, wX_wz, wX_wb, e_isAuthor I, mi_isAuthor I, e_isMeter, m_areScore, e_within, i01, ft0 F, zA10, true_and, ztg_n (show X ≤ znx H by omega), zct_n (show X ≤ znx H by omega), q1]
  by_cases h : 0 ≤ a ∧ a ≤ s 0 8 - 1
  · simp only [h, and_self, true_and, if_true, not_true, if_false]
    by_cases h2 : 2 ≤ m ∧ m ≤ 12
    · simp only [h2, and_self, true_and, not_true, if_false]
      by_cases h3 : 1 ≤ v ∧ v ≤ 4
      · simp only [h3, and_self, not_true, if_false]
        by_cases h4 : s 0 2 < 60
        · obtain ⟨n, en⟩ : ∃ n : Nat, s 0 2 = (n : Int) := ⟨(s 0 2).toNat, by omega⟩
          have iv := I.newscore (kd := 1) (au := a) (me := m) (vo := v) (u := n) en (by omega) (Or.inl ⟨rfl, rfl⟩) (by omega) h2 h3
          rw [if_pos rfl] at iv
          have r := ns_run (H := H) (n := n) (kd := 1) (r := 0) (au := a) (me := m) (vo := v) rfl
          obtain ⟨tx, kp⟩ := ns_keep I (kd := 1) (r := 0) (au := a) (me := m) (vo := v) en (by omega)
          have h4' : ((n : Nat) : Int) < 60 := by omega
          simp only [ft0 F, zA10, q1, Nat.reduceAdd, ztg_n (show X ≤ znx H by omega), zct_n (show X ≤ znx H by omega), show 0 < znx H + 1 by omega, true_and, en, h4', if_true, show ¬ ((n : Nat) : Int) = 60 by omega, if_false, m_add en (show n ≤ 59 by omega), r, kp, wX_s, tx, Int.toNat_natCast]
          (repeat first | exact (iv) | refine ⟨by omega, ?_⟩)
        · simp only [ft0 F, zA10, q1, true_and, show s 0 2 = 60 by omega, show ¬ (60 : Int) < 60 by omega, if_false, if_true]
          (first | exact KD.rf I | exact ⟨trivial, KD.rf I⟩ | exact ⟨rfl, KD.rf I⟩)
      · simp only [h3, not_false_iff, if_true]
        (first | exact KD.rf I | exact ⟨trivial, KD.rf I⟩ | exact ⟨rfl, KD.rf I⟩)
    · simp only [h2, false_and, not_false_iff, if_true]
      (first | exact KD.rf I | exact ⟨trivial, KD.rf I⟩ | exact ⟨rfl, KD.rf I⟩)
  · simp only [h, if_false, if_true, not_false_iff]
    (first | exact KD.rf I | exact ⟨trivial, KD.rf I⟩ | exact ⟨rfl, KD.rf I⟩)
theorem k_derive (I : IV X H s A B K ow) {t a m v : Int} : wX (fH_derive X t a m v H) fun x H' => wX (gM_derive t a m v s) fun w s' => w = x ∧ KD X H H' s' := by
  have F := I.1
  have hX := F.2.1.1
  have hn := I.n
  have q1 : zct H X 4 = s 0 2 := I.2.1.2.2.2.2.2.2.2.2.2.1
  unfold fH_derive gM_derive
  simp only [wX_s, wX_bd, wX_vl, wX_jn, wX_ite, wX_dv, wX_n0, wX_rb, wX_rc, wX_ry, wX_gi, wX_gr, wX_pi, wX_pz, wX_pr, wX_ai, wX_ab, wX_ar, wX_si, wX_sz, wX_sb, wX_sr, wX_ln, wX_nw, wX_na, wX_nm, wX_io, wX_ck, wX_cp, wX_cl, wX_ca, wX_sv, wX_sc, wX_rd, wX_wi, wX_wz, wX_wb, e_thingAt I, mi_isThing I, e_scoreAt I, e_isAuthor I, mi_isAuthor I, e_isMeter, m_areScore, e_within, i01, ft0 F, zA10, true_and, ztg_n (show X ≤ znx H by omega), zct_n (show X ≤ znx H by omega), q1]
  by_cases h0 : 0 ≤ t ∧ t ≤ s 0 2 - 1
  · have ht : ((t.toNat : Nat) : Int) < s 0 2 := by omega
    have hp := I.pos ht
    simp only [h0, and_self, true_and, if_true, not_true, if_false, show ¬ A t.toNat = 0 by omega, mi_isMusic I h0, wX_s, i01]
    by_cases h : 0 ≤ a ∧ a ≤ s 0 8 - 1
    · simp only [h, and_self, true_and, if_true, not_true, if_false]
      by_cases hk : s 3 t.toNat = 1 ∨ s 3 t.toNat = 6
      · have g8 := I.tg ht (c := 8) (tgk_8.mpr hk)
        have hb0 : 0 ≤ t ∧ t < ((60 : Nat) : Int) := by omega
        simp only [hk, if_true, not_true, if_false, show ¬ A t.toNat = 0 by omega]
        by_cases h2 : 2 ≤ m ∧ m ≤ 12
        · simp only [h2, and_self, true_and, not_true, if_false]
          by_cases h3 : 1 ≤ v ∧ v ≤ 4
          · simp only [h3, and_self, not_true, if_false]
            by_cases h4 : s 0 2 < 60
            · obtain ⟨n, en⟩ : ∃ n : Nat, s 0 2 = (n : Int) := ⟨(s 0 2).toNat, by omega⟩
              have hs := (I.st ht).2.1 hk
              obtain ⟨-, ⟨b0, -⟩, b2, -⟩ := (I.to ht).1 hk
              -- the root
              obtain ⟨u, hu1, hu2, hu3, hroot⟩ : ∃ u : Nat, s 4 t.toNat = (u : Int) ∧ u < n ∧ s 3 u = 1 ∧ fScore_rootScore (A t.toNat) (zal H 9 8 fun _ => 0) = some (A u, zal H 9 8 fun _ => 0) := by
                unfold fScore_rootScore
                simp only [ygr, ztg_n (show A t.toNat ≤ znx H by omega), zct_n (show A t.toNat ≤ znx H by omega), b0, zA8, if_true, b2]
                by_cases k1 : s 3 t.toNat = 1
                · rw [if_pos k1]
                  exact ⟨t.toNat, hs.2.2.2.1 k1, by omega, k1, by rw [Int.toNat_zero, if_pos rfl]⟩
                · have hh := hs.2.2.2.2.1 (by omega)
                  have hpu := I.pos (t := (s 4 t.toNat).toNat) (by omega)
                  rw [if_neg k1, Int.toNat_natCast, if_neg (by omega)]
                  exact ⟨(s 4 t.toNat).toNat, by omega, by omega, hh.2.2, rfl⟩
              have hpu := I.pos (t := u) (by omega)
              have iv := I.newscore (kd := 6) (au := a) (me := m) (vo := v) (u := u) en (by omega) (Or.inr ⟨rfl, hu2, hu3⟩) (by omega) h2 h3
              rw [if_neg (by omega)] at iv
              have r := ns_run (H := H) (n := n) (kd := 6) (r := A u) (au := a) (me := m) (vo := v) (by rw [if_neg (by omega)])
              obtain ⟨tx, kp⟩ := ns_keep I (kd := 6) (r := A u) (au := a) (me := m) (vo := v) en (by omega)
              have h4' : ((n : Nat) : Int) < 60 := by omega
              simp only [ft0 F, zA10, q1, Nat.reduceAdd, ztg_n (show X ≤ znx H by omega), zct_n (show X ≤ znx H by omega), ztg_n (show A t.toNat ≤ znx H by omega), g8, hroot, hb0, hu1, show 0 < znx H + 1 by omega, true_and, en, h4', if_true, show ¬ ((n : Nat) : Int) = 60 by omega, if_false, m_add en (show n ≤ 59 by omega), r, kp, wX_s, tx, Int.toNat_natCast]
              (repeat first | exact (iv) | refine ⟨by omega, ?_⟩)
            · simp only [ft0 F, zA10, q1, true_and, show s 0 2 = 60 by omega, show ¬ (60 : Int) < 60 by omega, if_false, if_true]
              (first | exact KD.rf I | exact ⟨trivial, KD.rf I⟩ | exact ⟨rfl, KD.rf I⟩)
          · simp only [h3, not_false_iff, if_true]
            (first | exact KD.rf I | exact ⟨trivial, KD.rf I⟩ | exact ⟨rfl, KD.rf I⟩)
        · simp only [h2, false_and, not_false_iff, if_true]
          (first | exact KD.rf I | exact ⟨trivial, KD.rf I⟩ | exact ⟨rfl, KD.rf I⟩)
      · simp only [hk, if_false, if_true, not_false_iff]
        (first | exact KD.rf I | exact ⟨trivial, KD.rf I⟩ | exact ⟨rfl, KD.rf I⟩)
    · simp only [h, if_false, if_true, not_false_iff]
      (first | exact KD.rf I | exact ⟨trivial, KD.rf I⟩ | exact ⟨rfl, KD.rf I⟩)
  · simp only [h0, if_false, if_true, not_false_iff]
    (first | exact KD.rf I | exact ⟨trivial, KD.rf I⟩ | exact ⟨rfl, KD.rf I⟩)
end SCORE
