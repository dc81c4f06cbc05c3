/-! OF, STANDS -/
section OF
variable {X : Nat} {H H' : zHp} {s : zSg} {A : Nat → Nat} {B : Nat → Nat → Nat} {K : Nat → Nat} {ow : Nat → Nat × Nat} {t : Nat}
theorem yvd_3 {α : Type} {a b c d e : Option α} : yvd 3 a b c d e = a := rfl
theorem yvd_4 {α : Type} {a b c d e : Option α} : yvd 4 a b c d e = b := rfl
theorem yvd_6 {α : Type} {a b c d e : Option α} : yvd 6 a b c d e = c := rfl
theorem yvd_7 {α : Type} {a b c d e : Option α} : yvd 7 a b c d e = d := rfl
theorem yvd_9 {α : Type} {a b c d e : Option α} : yvd 9 a b c d e = e := rfl
theorem IV.tg (I : IV X H s A B K ow) (ht : (t : Int) < s 0 2) {c : Nat} (h : zisA c (tgk (s 3 t)) = true) : zisA c (ztg H (A t)) = true := by
  rw [(I.hd ht).2.1]; exact h
theorem e_vs (I : IV X H s A B K ow) (ht : (t : Int) < s 0 2) (hk : s 3 t = 1 ∨ s 3 t = 6) : fScore_scoreNumber (A t) H = some (s 4 t, H) ∧ fScore_second (A t) H = some (s 5 t, H) ∧ fScore_third (A t) H = some (s 6 t, H) := by
  obtain ⟨-, ⟨h0, -, h1, -, h4, h5, -⟩, h2, -⟩ := (I.to ht).1 hk
  obtain ⟨-, -, -, q1, q2, -⟩ := (I.st ht).2.1 hk
  refine ⟨?_, by simp only [fScore_second, ygi, h0, zA8, if_true, h4], by simp only [fScore_third, ygi, h0, zA8, if_true, h5]⟩
  unfold fScore_scoreNumber fScore_rootScore
  by_cases h : s 3 t = 1
  · rw [if_pos h] at h2
    simp only [yck, ygr, ygi, h0, zA8, if_true, h2, Int.toNat_zero, ybd_s, h1, q1 h]
  · have hu := q2 (by omega)
    have hut : (((s 4 t).toNat : Nat) : Int) < s 0 2 := by omega
    have hp := I.pos hut
    have g8 := I.tg hut (c := 8) (tgk_8.mpr (Or.inl hu.2.2))
    obtain ⟨-, -, -, n1⟩ := I.hd hut
    rw [if_neg h] at h2
    simp only [yck, ygr, ygi, h0, zA8, if_true, h2, Int.toNat_natCast, show ¬ A (s 4 t).toNat = 0 by omega, if_false, ybd_s, g8, n1]
    rw [Int.toNat_of_nonneg hu.1]
theorem e_vp (I : IV X H s A B K ow) (ht : (t : Int) < s 0 2) (hk : s 3 t = 2 ∨ s 3 t = 5) : fPart_scoreNumber (A t) H = some (s 4 t, H) ∧ fPart_second (A t) H = some (s 5 t, H) ∧ fPart_third (A t) H = some (s 6 t, H) := by
  obtain ⟨-, ⟨h0, -, h1, h2, h3, h4, -⟩, -⟩ := (I.to ht).2.1 hk
  obtain ⟨⟨q1, q2⟩, q3, -⟩ := (I.st ht).2.2.1 hk
  have hut : (((s 4 t).toNat : Nat) : Int) < s 0 2 := by omega
  have g8 := I.tg hut (c := 8) (tgk_8.mpr q3)
  obtain ⟨-, -, -, n1⟩ := I.hd hut
  refine ⟨?_, by simp only [fPart_second, ygi, h0, zA5, if_true, h3], by simp only [fPart_third, ygi, h0, zA5, if_true, h4]⟩
  simp only [fPart_scoreNumber, ygr, ygi, h0, zA5, if_true, h2, Int.toNat_natCast, g8, n1]
  rw [Int.toNat_of_nonneg q1]
theorem e_vl (I : IV X H s A B K ow) (ht : (t : Int) < s 0 2) (hk : s 3 t = 3) : fPlate_scoreNumber (A t) H = some (s 4 (s 4 t).toNat, H) ∧ fPlate_second (A t) H = some (s 5 (s 4 t).toNat, H) ∧ fPlate_third (A t) H = some (s 5 t, H) := by
  obtain ⟨-, ⟨h0, -, h1, h2, h3, -⟩, -⟩ := (I.to ht).2.2.1 hk
  obtain ⟨⟨q1, q2⟩, q3, -⟩ := (I.st ht).2.2.2.1 hk
  have hut : (((s 4 t).toNat : Nat) : Int) < s 0 2 := by omega
  obtain ⟨-, ⟨k0, -, k1, k2, k3, k4, -⟩, -⟩ := (I.to hut).2.1 q3
  obtain ⟨⟨p1, p2⟩, p3, -⟩ := (I.st hut).2.2.1 q3
  have hwt : (((s 4 (s 4 t).toNat).toNat : Nat) : Int) < s 0 2 := by omega
  have g8 := I.tg hwt (c := 8) (tgk_8.mpr p3)
  obtain ⟨-, -, -, n1⟩ := I.hd hwt
  refine ⟨?_, by simp only [fPlate_second, ygr, ygi, h0, zA6, if_true, h2, Int.toNat_natCast, k0, zA5, k3], by simp only [fPlate_third, ygi, h0, zA6, if_true, h3]⟩
  simp only [fPlate_scoreNumber, ygr, ygi, h0, zA6, if_true, h2, Int.toNat_natCast, k0, zA5, k2, g8, n1]
  rw [Int.toNat_of_nonneg p1]
theorem e_ve (I : IV X H s A B K ow) (ht : (t : Int) < s 0 2) (hk : s 3 t = 4) : fEdition_scoreNumber (A t) H = some (s 4 t, H) ∧ fEdition_second (A t) H = some (s 5 t, H) ∧ fEdition_third (A t) H = some (errN s t (s 0 2).toNat, H) := by
  obtain ⟨-, ⟨h0, -, h1, h2, h3, -⟩, -⟩ := (I.to ht).2.2.2.1 hk
  obtain ⟨⟨q1, q2⟩, q3, -⟩ := (I.st ht).2.2.2.2.1 hk
  have hut : (((s 4 t).toNat : Nat) : Int) < s 0 2 := by omega
  have g8 := I.tg hut (c := 8) (tgk_8.mpr q3)
  obtain ⟨-, -, -, n1⟩ := I.hd hut
  have eo := ((I.2.2.1 t ht).2 hk).1
  refine ⟨?_, by simp only [fEdition_second, ygi, h0, zA2, if_true, h3], by simp only [fEdition_third, ygi, h0, zA2, if_true, eo]⟩
  simp only [fEdition_scoreNumber, ygr, ygi, h0, zA2, if_true, h2, Int.toNat_natCast, g8, n1]
  rw [Int.toNat_of_nonneg q1]
theorem e_vr (I : IV X H s A B K ow) (ht : (t : Int) < s 0 2) (hk : s 3 t = 7) : fErratum_scoreNumber (A t) H = some (s 4 (s 4 t).toNat, H) ∧ fErratum_second (A t) H = some (s 5 t, H) ∧ fErratum_third (A t) H = some (s 6 t, H) := by
  obtain ⟨-, ⟨h0, -, h1, h2, h3, -⟩⟩ := (I.to ht).2.2.2.2 hk
  obtain ⟨⟨q1, q2⟩, q3, w1, w2, w3, -⟩ := (I.st ht).2.2.2.2.2 hk
  have hut : (((s 4 t).toNat : Nat) : Int) < s 0 2 := by omega
  obtain ⟨-, ⟨k0, -, k1, k2, k3, -⟩, -⟩ := (I.to hut).2.2.2.1 q3
  obtain ⟨⟨p1, p2⟩, p3, -⟩ := (I.st hut).2.2.2.2.1 q3
  have hwt : (((s 4 (s 4 t).toNat).toNat : Nat) : Int) < s 0 2 := by omega
  have g8 := I.tg hwt (c := 8) (tgk_8.mpr p3)
  obtain ⟨-, -, -, n1⟩ := I.hd hwt
  refine ⟨?_, ?_, ?_⟩
  · simp only [fErratum_scoreNumber, ygr, ygi, h0, zA3, if_true, h2, Int.toNat_natCast, k0, zA2, k2, g8, n1]
    rw [Int.toNat_of_nonneg p1]
  · simp only [fErratum_second, fErratum_voice, yck, ygi, h0, zA3, if_true, ybd_s, h3]
    rw [zdiv_e ⟨by omega, by omega⟩ (by omega) (by omega) (by omega), show ((s 5 t * 20 + s 6 t) * 8 + s 32 t) / 160 = s 5 t by omega]
  · simp only [fErratum_third, fErratum_bar, yck, ygi, h0, zA3, if_true, ybd_s, h3]
    rw [zdiv_e ⟨by omega, by omega⟩ (by omega) (by omega) (by omega), show ((s 5 t * 20 + s 6 t) * 8 + s 32 t) / 8 = s 5 t * 20 + s 6 t by omega, zrem_e ⟨by omega, by omega⟩ (by omega) (by omega) (by omega), show (s 5 t * 20 + s 6 t) % 20 = s 6 t by omega]
theorem m_scoreOf {s : zSg} (ht : t < 60) (hb : s 3 t = 3 ∨ s 3 t = 7 → 0 ≤ s 4 t ∧ s 4 t < 60) (h1 : s 3 t ≠ 1) (h6 : s 3 t ≠ 6) (h17 : 1 ≤ s 3 t ∧ s 3 t ≤ 7) : gM_scoreOf (t : Int) s = some (if s 3 t = 3 ∨ s 3 t = 7 then s 4 (s 4 t).toNat else s 4 t, s) := by
  have e : 0 ≤ (t : Int) ∧ (t : Int) < ((60 : Nat) : Int) := by omega
  unfold gM_scoreOf
  simp only [yjn, yrd, e, and_self, if_true, Int.toNat_natCast, h6, if_false]
  by_cases h3 : s 3 t = 3
  · have e2 : 0 ≤ s 4 t ∧ s 4 t < ((60 : Nat) : Int) := by have := hb (Or.inl h3); omega
    simp only [h3, e2, and_self, if_true, true_or, show ¬ (3 : Int) = 2 by omega, if_false]
  · by_cases h7 : s 3 t = 7
    · have e2 : 0 ≤ s 4 t ∧ s 4 t < ((60 : Nat) : Int) := by have := hb (Or.inr h7); omega
      simp only [h7, e2, and_self, if_true, or_true, show ¬ (7 : Int) = 2 by omega, show ¬ (7 : Int) = 3 by omega, show ¬ (7 : Int) = 4 by omega, show ¬ (7 : Int) = 5 by omega, if_false]
    · simp only [h3, h7, or_self, if_false]
      by_cases h2 : s 3 t = 2
      · rw [if_pos h2]
      · by_cases h4 : s 3 t = 4
        · rw [if_neg h2, if_pos h4]
        · rw [if_neg h2, if_neg h4, if_pos (by omega)]
theorem m_errataOf_l {e : Nat} (hn : 0 ≤ s 0 2 ∧ s 0 2 ≤ 60) : ∀ (m f k : Nat), (s 0 2).toNat - k = m → m < f → k ≤ (s 0 2).toNat → gM_errataOf_l1 f (e : Int) (errN s e k) (k : Int) s = some (errN s e (s 0 2).toNat, s) := by
  have hb : ∀ k, 0 ≤ errN s e k ∧ errN s e k ≤ k := fun k => by
    induction k with
    | zero => exact ⟨Int.le_refl _, Int.le_refl _⟩
    | succ k ih =>
      show 0 ≤ errN s e k + _ ∧ errN s e k + _ ≤ _
      split <;> omega
  intro m
  induction m with
  | zero =>
    intro f k h1 h2 h3
    obtain ⟨f, rfl⟩ : ∃ f', f = f' + 1 := ⟨f - 1, by omega⟩
    unfold gM_errataOf_l1
    simp only [yjn]
    rw [if_neg (by omega), show k = (s 0 2).toNat by omega]
  | succ m ih =>
    intro f k h1 h2 h3
    obtain ⟨f, rfl⟩ : ∃ f', f = f' + 1 := ⟨f - 1, by omega⟩
    have b := hb k
    have e2 : 0 ≤ (k : Int) ∧ (k : Int) < ((60 : Nat) : Int) := by omega
    have e3 : zadd (k : Int) 1 = ((k + 1 : Nat) : Int) := by rw [zadd_e (by omega) (by omega)]; omega
    have e4 : zadd (errN s e k) 1 = errN s e k + 1 := by rw [zadd_e (by omega) (by omega)]
    have e5 : zadd (errN s e k) 0 = errN s e k := by rw [zadd_e (by omega) (by omega)]; omega
    have := ih f (k + 1) (by omega) (by omega) (by omega)
    unfold gM_errataOf_l1
    simp only [yjn, yvl, show (k : Int) < s 0 2 by omega, if_true, yrd, e2, and_self, Int.toNat_natCast, e3, e4, e5]
    rw [← this]
    show _ = gM_errataOf_l1 f (e : Int) (errN s e k + if s 3 k = 7 ∧ s 4 k = (e : Int) then 1 else 0) _ s
    by_cases h7 : s 3 k = 7
    · by_cases h8 : s 4 k = (e : Int)
      · rw [if_pos h7, if_pos h8, if_pos ⟨h7, h8⟩]
      · rw [if_pos h7, if_neg h8, if_neg (fun w => h8 w.2), Int.add_zero]
    · rw [if_neg h7, if_neg (fun w => h7 w.1), Int.add_zero]
theorem m_errataOf {e : Nat} (hn : 0 ≤ s 0 2 ∧ s 0 2 ≤ 60) : gM_errataOf (e : Int) s = some (errN s e (s 0 2).toNat, s) := m_errataOf_l hn (s 0 2).toNat zFU 0 (by omega) (by rw [zFU_e]; omega) (by omega)
theorem k_of (I : IV X H s A B K ow) {t k : Int} : wX (fH_of X t k H) fun x H' => wX (gM_of t k s) fun w s' => w = x ∧ KD X H H' s' := by
  have F := I.1
  have hn := I.n
  unfold fH_of gM_of
  simp only [wX_s, wX_bd, wX_vl, wX_jn, wX_ite, wX_dv, wX_n0, wX_rb, wX_rc, wX_ry, wX_gi, wX_gr, wX_pi, wX_pz, wX_pr, wX_ai, wX_ab, wX_ar, wX_si, wX_sz, wX_sb, wX_sr, wX_ln, wX_nw, wX_na, wX_nm, wX_io, wX_ck, wX_cp, wX_cl, wX_ca, wX_sv, wX_sc, wX_rd, wX_wi, wX_wz, wX_wb, e_thingAt I, mi_isThing I, e_in, i01, ft0 F, zA10, true_and]
  by_cases h : 0 ≤ t ∧ t ≤ s 0 2 - 1
  · have ht : ((t.toNat : Nat) : Int) < s 0 2 := by omega
    have et : ((t.toNat : Nat) : Int) = t := by omega
    have hp := I.pos ht
    have hb0 : 0 ≤ t ∧ t < ((60 : Nat) : Int) := by omega
    obtain ⟨-, hg, h0, -⟩ := I.hd ht
    have g20 := I.tg ht (c := 20) tgk_20
    have k17 := (I.st ht).1
    simp only [h, and_self, true_and, if_true, not_true, if_false, mi_isMusic I h, wX_s, i01, show ¬ A t.toNat = 0 by omega, hb0, g20, h0]
    by_cases hk : s 3 t.toNat = 1 ∨ s 3 t.toNat = 6
    · obtain ⟨a1, a2, a3⟩ := e_vs I ht hk
      have hg9 : ztg H (A t.toNat) = 9 := ((I.to ht).1 hk).2.1.1
      have n3 : ¬ s 3 t.toNat = 3 := by omega
      have n4 : ¬ s 3 t.toNat = 4 := by omega
      simp only [hg9, yvd_9, a1, a2, a3, wX_s, hk, not_true, if_false, n3, n4]
      by_cases c0 : k = 0
      · simp only [c0, if_true]; simp; (first | exact KD.rf I | exact ⟨trivial, KD.rf I⟩ | exact ⟨rfl, KD.rf I⟩)
      · by_cases c1 : k = 1
        · simp only [c1, if_true]; simp; (first | exact KD.rf I | exact ⟨trivial, KD.rf I⟩ | exact ⟨rfl, KD.rf I⟩)
        · by_cases c2 : k = 2
          · simp only [c2, if_true]; simp; (first | exact KD.rf I | exact ⟨trivial, KD.rf I⟩ | exact ⟨rfl, KD.rf I⟩)
          · by_cases c3 : k = 3
            · simp only [c3, if_true]; simp; (first | exact KD.rf I | exact ⟨trivial, KD.rf I⟩ | exact ⟨rfl, KD.rf I⟩)
            · simp only [c0, c1, c2, c3, if_false, show ¬ (0 ≤ k ∧ k ≤ 3) by omega, not_false_iff, if_true]; (first | exact KD.rf I | exact ⟨trivial, KD.rf I⟩ | exact ⟨rfl, KD.rf I⟩)
    · simp only [hk, not_false_iff, if_true]
      have sc := m_scoreOf (t := t.toNat) (s := s) (by omega) (fun w => by
        rcases w with w | w
        · have := ((I.st ht).2.2.2.1 w).1; omega
        · have := ((I.st ht).2.2.2.2.2 w).1; omega) (by omega) (by omega) k17
      rw [et] at sc
      have er := m_errataOf (s := s) (e := t.toNat) hn
      rw [et] at er
      by_cases h2 : s 3 t.toNat = 2 ∨ s 3 t.toNat = 5
      · obtain ⟨a1, a2, a3⟩ := e_vp I ht h2
        have hg9 : ztg H (A t.toNat) = 6 := ((I.to ht).2.1 h2).2.1.1
        have n3 : ¬ s 3 t.toNat = 3 := by omega
        have n4 : ¬ s 3 t.toNat = 4 := by omega
        have n7 : ¬ s 3 t.toNat = 7 := by omega
        simp only [n3, n7, or_self, if_false] at sc
        simp only [hg9, yvd_6, a1, a2, a3, wX_s, if_false, n3, n4, sc]
        by_cases c0 : k = 0
        · simp only [c0, if_true]; simp; (first | exact KD.rf I | exact ⟨trivial, KD.rf I⟩ | exact ⟨rfl, KD.rf I⟩)
        · by_cases c1 : k = 1
          · simp only [c1, if_true]; simp; (first | exact KD.rf I | exact ⟨trivial, KD.rf I⟩ | exact ⟨rfl, KD.rf I⟩)
          · by_cases c2 : k = 2
            · simp only [c2, if_true]; simp; (first | exact KD.rf I | exact ⟨trivial, KD.rf I⟩ | exact ⟨rfl, KD.rf I⟩)
            · by_cases c3 : k = 3
              · simp only [c3, if_true]; simp; (first | exact KD.rf I | exact ⟨trivial, KD.rf I⟩ | exact ⟨rfl, KD.rf I⟩)
              · simp only [c0, c1, c2, c3, if_false, show ¬ (0 ≤ k ∧ k ≤ 3) by omega, not_false_iff, if_true]; (first | exact KD.rf I | exact ⟨trivial, KD.rf I⟩ | exact ⟨rfl, KD.rf I⟩)
      · by_cases n3 : s 3 t.toNat = 3
        · obtain ⟨a1, a2, a3⟩ := e_vl I ht n3
          have hg9 : ztg H (A t.toNat) = 7 := ((I.to ht).2.2.1 n3).2.1.1
          have h4 := ((I.st ht).2.2.2.1 n3).1
          have h4b : 0 ≤ s 4 t.toNat ∧ s 4 t.toNat < ((60 : Nat) : Int) := by omega
          simp only [n3, true_or, if_true] at sc
          simp only [hg9, yvd_7, a1, a2, a3, wX_s, if_true, n3, sc, h4b, true_and]
          by_cases c0 : k = 0
          · simp only [c0, if_true]; simp; (first | exact KD.rf I | exact ⟨trivial, KD.rf I⟩ | exact ⟨rfl, KD.rf I⟩)
          · by_cases c1 : k = 1
            · simp only [c1, if_true]; simp; (first | exact KD.rf I | exact ⟨trivial, KD.rf I⟩ | exact ⟨rfl, KD.rf I⟩)
            · by_cases c2 : k = 2
              · simp only [c2, if_true]; simp; (first | exact KD.rf I | exact ⟨trivial, KD.rf I⟩ | exact ⟨rfl, KD.rf I⟩)
              · by_cases c3 : k = 3
                · simp only [c3, if_true]; simp; (first | exact KD.rf I | exact ⟨trivial, KD.rf I⟩ | exact ⟨rfl, KD.rf I⟩)
                · simp only [c0, c1, c2, c3, if_false, show ¬ (0 ≤ k ∧ k ≤ 3) by omega, not_false_iff, if_true]; (first | exact KD.rf I | exact ⟨trivial, KD.rf I⟩ | exact ⟨rfl, KD.rf I⟩)
        · by_cases n4 : s 3 t.toNat = 4
          · obtain ⟨a1, a2, a3⟩ := e_ve I ht n4
            have hg9 : ztg H (A t.toNat) = 3 := ((I.to ht).2.2.2.1 n4).2.1.1
            simp only [n3, n4, show ¬ (4 : Int) = 7 by omega, show ¬ (4 : Int) = 3 by omega, or_self, if_false] at sc
            simp only [hg9, yvd_3, a1, a2, a3, wX_s, if_true, n4, sc, er, show ¬ (4 : Int) = 3 by omega, if_false]
            by_cases c0 : k = 0
            · simp only [c0, if_true]; simp; (first | exact KD.rf I | exact ⟨trivial, KD.rf I⟩ | exact ⟨rfl, KD.rf I⟩)
            · by_cases c1 : k = 1
              · simp only [c1, if_true]; simp; (first | exact KD.rf I | exact ⟨trivial, KD.rf I⟩ | exact ⟨rfl, KD.rf I⟩)
              · by_cases c2 : k = 2
                · simp only [c2, if_true]; simp; (first | exact KD.rf I | exact ⟨trivial, KD.rf I⟩ | exact ⟨rfl, KD.rf I⟩)
                · by_cases c3 : k = 3
                  · simp only [c3, if_true]; simp; (first | exact KD.rf I | exact ⟨trivial, KD.rf I⟩ | exact ⟨rfl, KD.rf I⟩)
                  · simp only [c0, c1, c2, c3, if_false, show ¬ (0 ≤ k ∧ k ≤ 3) by omega, not_false_iff, if_true]; (first | exact KD.rf I | exact ⟨trivial, KD.rf I⟩ | exact ⟨rfl, KD.rf I⟩)
          · have n7 : s 3 t.toNat = 7 := by omega
            obtain ⟨a1, a2, a3⟩ := e_vr I ht n7
            have hg9 : ztg H (A t.toNat) = 4 := ((I.to ht).2.2.2.2 n7).2.1
            simp only [n7, or_true, if_true] at sc
            simp only [hg9, yvd_4, a1, a2, a3, wX_s, n7, sc, show ¬ (7 : Int) = 3 by omega, show ¬ (7 : Int) = 4 by omega, if_false]
            by_cases c0 : k = 0
            · simp only [c0, if_true]; simp; (first | exact KD.rf I | exact ⟨trivial, KD.rf I⟩ | exact ⟨rfl, KD.rf I⟩)
            · by_cases c1 : k = 1
              · simp only [c1, if_true]; simp; (first | exact KD.rf I | exact ⟨trivial, KD.rf I⟩ | exact ⟨rfl, KD.rf I⟩)
              · by_cases c2 : k = 2
                · simp only [c2, if_true]; simp; (first | exact KD.rf I | exact ⟨trivial, KD.rf I⟩ | exact ⟨rfl, KD.rf I⟩)
                · by_cases c3 : k = 3
                  · simp only [c3, if_true]; simp; (first | exact KD.rf I | exact ⟨trivial, KD.rf I⟩ | exact ⟨rfl, KD.rf I⟩)
                  · simp only [c0, c1, c2, c3, if_false, show ¬ (0 ≤ k ∧ k ≤ 3) by omega, not_false_iff, if_true]; (first | exact KD.rf I | exact ⟨trivial, KD.rf I⟩ | exact ⟨rfl, KD.rf I⟩)
  · simp only [h, if_false, if_true, not_false_iff]
    (first | exact KD.rf I | exact ⟨trivial, KD.rf I⟩ | exact ⟨rfl, KD.rf I⟩)
end OF
