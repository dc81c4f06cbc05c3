/-! note -/
section KNOTE
variable {X : Nat} {H : zHp} {s : zSg} {A : Nat → Nat} {B : Nat → Nat → Nat} {K : Nat → Nat} {ow : Nat → Nat × Nat}
theorem KP.kd {X : Nat} {H H' : zHp} {s' : zSg} {A : Nat → Nat} {B : Nat → Nat → Nat} {K : Nat → Nat} {ow : Nat → Nat × Nat} (k : KP X H H') (I : IV X H' s' A B K ow) : KD X H H' s' := ⟨k.1, by have := k.2.1; omega, by have := k.2.2.1; omega, fun a _ ha => k.2.2.2 a ha, A, B, K, ow, I⟩
theorem k_note (I : IV X H s A B K ow) {t v p l tt : Int} : wX (fH_note X t v p l tt H) fun x H' => wX (gM_note t v p l tt s) fun w s' => w = x ∧ KD X H H' s' := by
  have F := I.1
  have hn := I.n
  unfold fH_note gM_note
  simp only [wX_s, wX_bd, wX_vl, wX_jn, wX_ite, wX_dv, wX_n0, wX_rb, wX_rc, wX_ry, wX_gi, wX_gr, wX_pi, wX_pz, wX_pr, wX_ai, wX_ab, wX_ar, wX_si, wX_sz, wX_sb, wX_sr, wX_ln, wX_nw, wX_na, wX_nm, wX_io, wX_ck, wX_cp, wX_cl, wX_ca, wX_sv, wX_sc, wX_rd, wX_wi, wX_wz, wX_wb, e_scoreAt I, e_lacking I, mi_isThing I, e_in, i01, ft0 F, zA10, true_and]
  by_cases h : 0 ≤ t ∧ t ≤ s 0 2 - 1
  · have ht : ((t.toNat : Nat) : Int) < s 0 2 := by omega
    have hp := I.pos ht
    simp only [h, and_self, true_and, if_true, not_true, if_false, mi_isMusic I h, wX_s, i01]
    by_cases hk : s 3 t.toNat = 1 ∨ s 3 t.toNat = 6
    · have hs := (I.st ht).2.1 hk
      have e1 : zsub (s 6 t.toNat) 1 = s 6 t.toNat - 1 := zsub_e (by have := hs.2.1; omega) (by have := hs.2.1; omega)
      obtain ⟨-, hg, -, -⟩ := I.hd ht
      simp only [hk, if_true, not_true, if_false, show ¬ A t.toNat = 0 by omega, e_hasVoice I ht hk, wX_s, i01, e1, hg, tgk_8.mpr hk, true_and, e_isNote, m_isNote]
      have hb0 : 0 ≤ t ∧ t < ((60 : Nat) : Int) := by omega
      by_cases h2 : 0 ≤ v ∧ v ≤ s 6 t.toNat - 1
      · simp only [h2, and_self, not_true, if_false, hb0, true_and]
        by_cases h3 : (0 ≤ p ∧ p ≤ 60) ∧ (1 ≤ l ∧ l ≤ 12) ∧ (0 ≤ tt ∧ tt ≤ 1) ∧ ¬ (p = 0 ∧ tt = 1)
        · obtain ⟨g1, g2, g3, g4⟩ := id h3
          obtain ⟨r, H', s', B', ow', r1, r2, r3, I', kp, so⟩ := e_take (t := t.toNat) (v := v.toNat) I ht hk (by omega) g1 g2 (by omega) g4
          rw [show ((v.toNat : Nat) : Int) = v by omega] at r1 r2
          rw [show ((t.toNat : Nat) : Int) = t by omega] at r2
          have n0 := so 0 (by omega) (by omega) (by omega) (by omega) (by omega)
          have n3 := so 3 (by omega) (by omega) (by omega) (by omega) (by omega)
          have n6 := so 6 (by omega) (by omega) (by omega) (by omega) (by omega)
          have ht' : ((t.toNat : Nat) : Int) < s' 0 2 := by rw [n0]; exact ht
          have hk' : s' 3 t.toNat = 1 ∨ s' 3 t.toNat = 6 := by rw [n3]; exact hk
          have hs' := (I'.st ht').2.1 hk'
          have e2 := e_wholeBars I' (v := v.toNat) ht' hk' (by rw [n6]; omega)
          have e3 := m_whole (t := t.toNat) (v := v.toNat) (s := s') (by omega) (by have := hs.2.1; omega) hs'
          obtain ⟨-, hg', -, -⟩ := I'.hd ht'
          rw [show ((v.toNat : Nat) : Int) = v by omega] at e2 e3
          rw [show ((t.toNat : Nat) : Int) = t by omega] at e3
          simp only [h3, hg, tgk_8.mpr hk, true_and, and_self, not_true, not_false_iff, if_false, e_noteCode g1 g2 (show tt = 0 ∨ tt = 1 by omega), wX_s, r1, r2]
          by_cases h4 : r = 0
          · subst h4
            simp only [if_true, hg', tgk_8.mpr hk', true_and, e2, e3, wX_s, show ¬ (0 : Int) < 0 by omega, if_false]
            exact kp.kd I'
          · simp only [h4, if_false, show r < 0 by omega, if_true]
            first | exact kp.kd I' | exact ⟨trivial, kp.kd I'⟩
        · simp only [h3, not_false_iff, if_true]
          (first | exact KD.rf I | exact ⟨trivial, KD.rf I⟩ | exact ⟨rfl, KD.rf I⟩)
      · simp only [h2, not_false_iff, if_true]
        (repeat first | exact (KD.rf I) | refine ⟨by omega, ?_⟩)
    · simp only [hk, if_false, if_true, not_false_iff]
      (first | exact KD.rf I | exact ⟨trivial, KD.rf I⟩ | exact ⟨rfl, KD.rf I⟩)
  · simp only [h, false_and, if_false, if_true, not_false_iff]
    (first | exact KD.rf I | exact ⟨trivial, KD.rf I⟩ | exact ⟨rfl, KD.rf I⟩)
end KNOTE
