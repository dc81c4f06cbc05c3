section PRINTED3
variable {X : Nat} {H : zHp} {s : zSg} {A : Nat → Nat} {B : Nat → Nat → Nat} {K : Nat → Nat} {ow : Nat → Nat × Nat}
theorem amN_c (I : IV X H s A B K ow) {x : Nat} {v b i p : Int} (hp : -99 ≤ p ∧ p ≤ 100) : ∀ m : Nat, (m : Int) ≤ s 0 2 → -99 ≤ amN s x v b i p m ∧ amN s x v b i p m ≤ 100 := by
  intro m
  induction m with
  | zero => intro _; exact hp
  | succ m ih =>
    intro hm
    have := ih (by omega)
    show -99 ≤ (if _ then _ else _) ∧ (if _ then _ else _) ≤ _
    split
    · rename_i h
      have := ((I.st (t := m) (by omega)).2.2.2.2.2 h.1).2.2.2.2.2.2
      omega
    · exact this
set_option maxRecDepth 100000 in
theorem k_printed (I : IV X H s A B K ow) {t v b i w : Int} : wX (fH_printed X t v b i w H) fun x H' => wX (gM_printed t v b i w s) fun w' s' => w' = x ∧ KD X H H' s' := by
  have F := I.1
  have hn := I.n
  have q1 : zct H X 4 = s 0 2 := I.2.1.2.2.2.2.2.2.2.2.2.1
  unfold fH_printed gM_printed
  simp only [wX_s, wX_bd, wX_vl, wX_jn, wX_ite, wX_dv, wX_n0, wX_rb, wX_rc, wX_ry, wX_gi, wX_gr, wX_pi, wX_pz, wX_pr, wX_ai, wX_ab, wX_ar, wX_si, wX_sz, wX_sb, wX_sr, wX_ln, wX_nw, wX_na, wX_nm, wX_io, wX_ck, wX_cp, wX_cl, wX_ca, wX_sv, wX_sc, wX_rd, wX_wi, wX_wz, wX_wb, e_editionAt I, mi_isThing I, e_in, e_within, i01, ft0 F, zA10, true_and]
  by_cases h : 0 ≤ t ∧ t ≤ s 0 2 - 1
  · have ht : ((t.toNat : Nat) : Int) < s 0 2 := by omega
    have et : ((t.toNat : Nat) : Int) = t := by omega
    have hp := I.pos ht
    have hb0 : 0 ≤ t ∧ t < ((60 : Nat) : Int) := by omega
    simp only [h, and_self, true_and, if_true, not_true, if_false, hb0]
    by_cases hk : s 3 t.toNat = 4
    · have g2 := I.tg ht (c := 2) (tgk_2.mpr hk)
      have hb := m_hasBar (x := t.toNat) (s := s) (by omega) (v := v) (b := b)
      rw [et] at hb
      have cb := e_barOf I ht hk (v := v) (b := b)
      have tn0 : fH_tellNote 0 i H = some (-5, H) := by unfold fH_tellNote; rw [if_pos rfl]
      simp only [hk, if_true, if_false, show ¬ A t.toNat = 0 by omega, hb, wX_s, i01, g2, true_and, cb]
      by_cases hh : (0 ≤ v ∧ v ≤ 3) ∧ (0 ≤ b ∧ b ≤ 19) ∧ 0 ≤ s 29 (80 * t.toNat + (20 * v.toNat + b.toNat))
      · have hh' := hh
        obtain ⟨w1, w2, w3⟩ := hh'
        obtain ⟨bo, bv⟩ := (((I.to ht).2.2.2.1 hk).2.2.2.2 (20 * v.toNat + b.toNat) (by omega)).2 w3
        obtain ⟨b0, b1, b2, b3, b4, b5⟩ := bo
        obtain ⟨z1, z2⟩ := ((I.st ht).2.2.2.2.1 hk).2.2.2 (20 * v.toNat + b.toNat) (by omega)
        have e5 := m_barAt (t := t.toNat) (v := v.toNat) (b := b.toNat) (s := s) (by omega) (by omega) (by omega)
        rw [et, show ((v.toNat : Nat) : Int) = v by omega, show ((b.toNat : Nat) : Int) = b by omega, Nat.add_assoc] at e5
        have bv' := bv
        rw [show s 29 (80 * t.toNat + (20 * v.toNat + b.toNat)) = (((s 29 (80 * t.toNat + (20 * v.toNat + b.toNat))).toNat : Nat) : Int) by omega] at bv'
        have tn := e_tellNote (i := i) (by have := b0.1; omega) b2 b3 b4 b5 bv'
        rw [Int.toNat_of_nonneg w3] at tn
        simp only [sh] at tn
        have hq2 : 0 ≤ ((80 * t.toNat + (20 * v.toNat + b.toNat) : Nat) : Int) ∧ ((80 * t.toNat + (20 * v.toNat + b.toNat) : Nat) : Int) < ((4800 : Nat) : Int) := by omega
        have e6 : zsub (s 29 (80 * t.toNat + (20 * v.toNat + b.toNat))) 1 = s 29 (80 * t.toNat + (20 * v.toNat + b.toNat)) - 1 := zsub_e (by omega) (by omega)
        have am := fun (lim : Nat) (hl : (lim : Int) ≤ s 0 2) hi => e_amended I ht hk (lim := lim) hl (v := v) (b := b) (i := i) w1 w2 w3 hi
        have ma := fun (lim : Nat) (hl : lim ≤ 60) hi => m_amended (x := t.toNat) (lim := lim) (s := s) (by omega) hl (v := v) (b := b) (i := i) w1 w2 hi
        have nr := fun hi => z2 i.toNat hi
        rw [et] at ma
        have am2 := am (s 0 2).toNat (by omega)
        have ma2 := ma (s 0 2).toNat (by omega)
        have ma0 := ma 0 (by omega)
        rw [Int.toNat_of_nonneg hn.1] at am2 ma2
        simp only [hh, and_self, not_true, if_true, if_false, tn, wX_s, e5, hq2, Int.toNat_natCast, e6, true_and]
        by_cases h1 : 0 ≤ w ∧ w ≤ 1
        · simp only [h1, and_self, not_true, if_false]
          by_cases h2 : -1 ≤ i ∧ i ≤ s 29 (80 * t.toNat + (20 * v.toNat + b.toNat)) - 1
          · simp only [h2, and_self, if_true, not_true, if_false]
            by_cases h3 : i = -1
            · subst h3
              simp only [show (-1 : Int) < 0 by omega, if_true, show ¬ s 29 (80 * t.toNat + (20 * v.toNat + b.toNat)) = -5 by omega, if_false]
              first
                | exact ⟨trivial, KD.rf I⟩
                | exact KD.rf I
            · have hi : 0 ≤ i ∧ i < s 29 (80 * t.toNat + (20 * v.toNat + b.toNat)) := by omega
              have nr' := nr (by omega)
              have hc0 : ncode (s 26 (8 * (80 * t.toNat + (20 * v.toNat + b.toNat)) + i.toNat)) (s 27 (8 * (80 * t.toNat + (20 * v.toNat + b.toNat)) + i.toNat)) (s 28 (8 * (80 * t.toNat + (20 * v.toNat + b.toNat)) + i.toNat)) ≠ -5 := by
                have n0 := nr'.1
                have n1 := nr'.2
                unfold ncode
                split <;> omega
              have e7 : zadd (zmul 8 ((80 * t.toNat + (20 * v.toNat + b.toNat) : Nat) : Int)) i = ((8 * (80 * t.toNat + (20 * v.toNat + b.toNat)) + i.toNat : Nat) : Int) := by rw [zmul_e (by omega) (by omega), zadd_e (by omega) (by omega)]; omega
              have hq3 : 0 ≤ ((8 * (80 * t.toNat + (20 * v.toNat + b.toNat)) + i.toNat : Nat) : Int) ∧ ((8 * (80 * t.toNat + (20 * v.toNat + b.toNat)) + i.toNat : Nat) : Int) < ((38400 : Nat) : Int) := by omega
              have a2 := am2 hi
              have m2 := ma2 (by omega)
              have m0 := ma0 (by omega)
              have ar := amN_rest I (x := t.toNat) (v := v) (b := b) (i := i) (s 0 2).toNat (by omega)
              have nrA : NR (-99) 100 (amN s t.toNat v b i (s 26 (8 * (80 * t.toNat + (20 * v.toNat + b.toNat)) + i.toNat)) (s 0 2).toNat) (s 27 (8 * (80 * t.toNat + (20 * v.toNat + b.toNat)) + i.toNat)) (s 28 (8 * (80 * t.toNat + (20 * v.toNat + b.toNat)) + i.toNat)) := by
                refine ⟨?_, nr'.2⟩
                rcases nr'.1 with w | w
                · exact Or.inl ⟨by rw [w.1]; exact ar, w.2⟩
                · exact Or.inr (amN_c I (by omega) _ (by omega))
              have nr0 : NR (-99) 100 (s 26 (8 * (80 * t.toNat + (20 * v.toNat + b.toNat)) + i.toNat)) (s 27 (8 * (80 * t.toNat + (20 * v.toNat + b.toNat)) + i.toNat)) (s 28 (8 * (80 * t.toNat + (20 * v.toNat + b.toNat)) + i.toNat)) := by
                refine ⟨?_, nr'.2⟩
                rcases nr'.1 with w | w
                · exact Or.inl w
                · exact Or.inr (by omega)
              have z0 : amN s t.toNat v b i (s 26 (8 * (80 * t.toNat + (20 * v.toNat + b.toNat)) + i.toNat)) 0 = s 26 (8 * (80 * t.toNat + (20 * v.toNat + b.toNat)) + i.toNat) := rfl
              rw [z0] at m0
              simp only [show ¬ i < 0 by omega, if_false, hc0, h3]
              by_cases h4 : w = 0
              · have m0' : gM_amendedPitch t v b i 0 s = some (s 26 (8 * (80 * t.toNat + (20 * v.toNat + b.toNat)) + i.toNat), s) := m0
                simp only [h4, if_true, m0', wX_s, e7, hq3, Int.toNat_natCast, true_and, m_told nr0 (by omega) (by omega)]
                (repeat first | exact (KD.rf I) | refine ⟨by omega, ?_⟩)
              · simp only [h4, if_false, ft0 F, zA10, q1, a2, m2, wX_s, e7, hq3, Int.toNat_natCast, true_and, m_told nrA (by omega) (by omega)]
                (repeat first | exact (KD.rf I) | refine ⟨by omega, ?_⟩)
          · simp only [h2, if_false, if_true, not_false_iff]
            (first | exact KD.rf I | exact ⟨trivial, KD.rf I⟩ | exact ⟨rfl, KD.rf I⟩)
        · simp only [h1, not_false_iff, if_true]
          (first | exact KD.rf I | exact ⟨trivial, KD.rf I⟩ | exact ⟨rfl, KD.rf I⟩)
      · simp only [hh, if_false, tn0, wX_s, not_false_iff, if_true]
        by_cases h1 : 0 ≤ w ∧ w ≤ 1
        · simp only [h1, and_self, not_true, if_false]
          (first | exact KD.rf I | exact ⟨trivial, KD.rf I⟩ | exact ⟨rfl, KD.rf I⟩)
        · simp only [h1, not_false_iff, if_true]
          (first | exact KD.rf I | exact ⟨trivial, KD.rf I⟩ | exact ⟨rfl, KD.rf I⟩)
    · simp only [hk, if_false, if_true]
      (first | exact KD.rf I | exact ⟨trivial, KD.rf I⟩ | exact ⟨rfl, KD.rf I⟩)
  · simp only [h, false_and, if_false, if_true, not_false_iff]
    (first | exact KD.rf I | exact ⟨trivial, KD.rf I⟩ | exact ⟨rfl, KD.rf I⟩)
end PRINTED3
