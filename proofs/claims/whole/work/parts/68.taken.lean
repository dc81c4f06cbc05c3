/-! TAKEN: the table of kinds is a fixed row below the class's own -/
/-- the class's fixed row of the kinds above -/
def EK (X : Nat) (H : zHp) (E : Nat → Nat) : Prop := (E 13 < X ∧ E 13 ≤ znx H) ∧ (ztg H (E 13) = 40 ∧ zln H (E 13) = 8) ∧ zct H (E 13) 0 = -1 ∧ zct H (E 13) 1 = 0 ∧ zct H (E 13) 2 = 1 ∧ zct H (E 13) 3 = 0 ∧ zct H (E 13) 4 = 0 ∧ zct H (E 13) 5 = 2 ∧ zct H (E 13) 6 = 1 ∧ zct H (E 13) 7 = 0
section TAKEN
variable {X : Nat} {H : zHp} {s : zSg} {A : Nat → Nat} {B : Nat → Nat → Nat} {K : Nat → Nat} {ow : Nat → Nat × Nat} {E : Nat → Nat}
theorem e_up (h : EK X H E) {f : Nat} {i w x : Int} {Q : Int → Int → zHp → Option (Int × zHp)} (hi : 0 ≤ i ∧ i ≤ 7) (hx : x ≤ 7) : fH_isUnder_l1 E (f + 1) w x i H Q = if 0 < x ∧ x ≠ w then fH_isUnder_l1 E f w (zct H (E 13) x.toNat) (i + 1) H Q else Q w x H := by
  obtain ⟨-, ⟨t1, t2⟩, -⟩ := h
  rw [fH_isUnder_l1, if_neg (by omega)]
  by_cases h0 : 0 < x
  · rw [if_pos h0]
    by_cases h1 : x = w
    · rw [if_pos h1, if_neg (fun q => q.2 h1)]
    · rw [if_neg h1, if_pos ⟨h0, h1⟩]
      have b : 0 ≤ x ∧ x < ((8 : Nat) : Int) := by omega
      have e : zadd i 1 = i + 1 := zadd_e (by omega) (by omega)
      simp only [yai, t1, t2, or_true, b, and_self, if_true, yvl, e]
  · rw [if_neg h0, if_neg (fun q => h0 q.1)]
theorem e_isUnder (h : EK X H E) {k w : Int} (hk : 1 ≤ k ∧ k ≤ 7) (hw : 0 ≤ w ∧ w ≤ 7) : fH_isUnder E k w H = some (if w = 0 ∨ k = w ∨ (w = 1 ∧ (k = 2 ∨ k = 5 ∨ k = 6)) ∨ (w = 2 ∧ k = 5) then 1 else 0, H) := by
  obtain ⟨c0, c1, c2, c3, c4, c5, c6, c7⟩ := h.2.2
  have z : ∀ v : Int, (if (0 : Int) < 0 ∧ (0 : Int) ≠ v then 1 else 0) = 0 := fun v => if_neg (fun q => absurd q.1 (by omega))
  unfold fH_isUnder
  rw [show zFU = 999995 + 1 + 1 + 1 + 1 + 1 from rfl, e_up h (by omega) (by omega)]
  rcases (show k = 1 ∨ k = 2 ∨ k = 3 ∨ k = 4 ∨ k = 5 ∨ k = 6 ∨ k = 7 by omega) with rfl | rfl | rfl | rfl | rfl | rfl | rfl
  all_goals
    rw [e_up h (by omega) (by first | rw [show (1 : Int).toNat = 1 from rfl, c1]; omega | rw [show (2 : Int).toNat = 2 from rfl, c2]; omega | rw [show (3 : Int).toNat = 3 from rfl, c3]; omega | rw [show (4 : Int).toNat = 4 from rfl, c4]; omega | rw [show (5 : Int).toNat = 5 from rfl, c5]; omega | rw [show (6 : Int).toNat = 6 from rfl, c6]; omega | rw [show (7 : Int).toNat = 7 from rfl, c7]; omega)]
  · simp only [show (1 : Int).toNat = 1 from rfl, c1]
    rcases (show w = 0 ∨ w = 1 ∨ w = 2 ∨ w = 3 ∨ w = 4 ∨ w = 5 ∨ w = 6 ∨ w = 7 by omega) with rfl | rfl | rfl | rfl | rfl | rfl | rfl | rfl <;> simp
  · simp only [show (2 : Int).toNat = 2 from rfl, c2]
    rw [e_up h (by omega) (by rw [show (1 : Int).toNat = 1 from rfl, c1]; omega)]
    simp only [show (1 : Int).toNat = 1 from rfl, c1]
    rcases (show w = 0 ∨ w = 1 ∨ w = 2 ∨ w = 3 ∨ w = 4 ∨ w = 5 ∨ w = 6 ∨ w = 7 by omega) with rfl | rfl | rfl | rfl | rfl | rfl | rfl | rfl <;> simp
  · simp only [show (3 : Int).toNat = 3 from rfl, c3]
    rcases (show w = 0 ∨ w = 1 ∨ w = 2 ∨ w = 3 ∨ w = 4 ∨ w = 5 ∨ w = 6 ∨ w = 7 by omega) with rfl | rfl | rfl | rfl | rfl | rfl | rfl | rfl <;> simp
  · simp only [show (4 : Int).toNat = 4 from rfl, c4]
    rcases (show w = 0 ∨ w = 1 ∨ w = 2 ∨ w = 3 ∨ w = 4 ∨ w = 5 ∨ w = 6 ∨ w = 7 by omega) with rfl | rfl | rfl | rfl | rfl | rfl | rfl | rfl <;> simp
  · simp only [show (5 : Int).toNat = 5 from rfl, c5]
    rw [e_up h (by omega) (by rw [show (2 : Int).toNat = 2 from rfl, c2]; omega)]
    simp only [show (2 : Int).toNat = 2 from rfl, c2]
    rw [e_up h (by omega) (by rw [show (1 : Int).toNat = 1 from rfl, c1]; omega)]
    simp only [show (1 : Int).toNat = 1 from rfl, c1]
    rcases (show w = 0 ∨ w = 1 ∨ w = 2 ∨ w = 3 ∨ w = 4 ∨ w = 5 ∨ w = 6 ∨ w = 7 by omega) with rfl | rfl | rfl | rfl | rfl | rfl | rfl | rfl <;> simp
  · simp only [show (6 : Int).toNat = 6 from rfl, c6]
    rw [e_up h (by omega) (by rw [show (1 : Int).toNat = 1 from rfl, c1]; omega)]
    simp only [show (1 : Int).toNat = 1 from rfl, c1]
    rcases (show w = 0 ∨ w = 1 ∨ w = 2 ∨ w = 3 ∨ w = 4 ∨ w = 5 ∨ w = 6 ∨ w = 7 by omega) with rfl | rfl | rfl | rfl | rfl | rfl | rfl | rfl <;> simp
  · simp only [show (7 : Int).toNat = 7 from rfl, c7]
    rcases (show w = 0 ∨ w = 1 ∨ w = 2 ∨ w = 3 ∨ w = 4 ∨ w = 5 ∨ w = 6 ∨ w = 7 by omega) with rfl | rfl | rfl | rfl | rfl | rfl | rfl | rfl <;> simp
theorem m_isUnder {k w : Int} {s : zSg} : gM_isUnder k w s = some (if w = 0 ∨ k = w ∨ (w = 1 ∧ (k = 2 ∨ k = 5 ∨ k = 6)) ∨ (w = 2 ∧ k = 5) then 1 else 0, s) := by
  unfold gM_isUnder
  repeat' split
  all_goals first
    | rfl
    | (exfalso; omega)
theorem k_taken (I : IV X H s A B K ow) (ek : EK X H E) {t k : Int} : wX (fH_taken E X t k H) fun x H' => wX (gM_taken t k s) fun w s' => w = x ∧ KD X H H' s' := by
  have F := I.1
  have hn := I.n
  unfold fH_taken gM_taken
  simp only [wX_s, wX_bd, wX_vl, wX_jn, wX_ite, wX_dv, wX_n0, wX_rb, wX_rc, wX_ry, wX_gi, wX_gr, wX_pi, wX_pz, wX_pr, wX_ai, wX_ab, wX_ar, wX_si, wX_sz, wX_sb, wX_sr, wX_ln, wX_nw, wX_na, wX_nm, wX_io, wX_ck, wX_cp, wX_cl, wX_ca, wX_sv, wX_sc, wX_rd, wX_wi, wX_wz, wX_wb, e_thingAt I, mi_isThing I, e_in, e_within, i01, ft0 F, zA10, true_and, m_isUnder]
  by_cases h1 : 0 ≤ k ∧ k ≤ 7
  · simp only [h1, and_self, not_true, if_false]
    by_cases h : 0 ≤ t ∧ t ≤ s 0 2 - 1
    · have ht : ((t.toNat : Nat) : Int) < s 0 2 := by omega
      have hp := I.pos ht
      have hb0 : 0 ≤ t ∧ t < ((60 : Nat) : Int) := by omega
      obtain ⟨-, hg, h0, -⟩ := I.hd ht
      have g20 := I.tg ht (c := 20) tgk_20
      have k17 := (I.st ht).1
      simp only [h, and_self, true_and, if_true, not_true, if_false, show ¬ A t.toNat = 0 by omega, hb0, g20, h0, e_isUnder ek k17 h1, wX_s, i01]
      by_cases h3 : k = 0 ∨ s 3 t.toNat = k ∨ (k = 1 ∧ (s 3 t.toNat = 2 ∨ s 3 t.toNat = 5 ∨ s 3 t.toNat = 6)) ∨ (k = 2 ∧ s 3 t.toNat = 5)
      · simp only [h3, not_true, if_false, true_and]
        (repeat first | exact (KD.rf I) | refine ⟨by omega, ?_⟩)
      · simp only [h3, not_false_iff, if_true]
        (first | exact KD.rf I | exact ⟨trivial, KD.rf I⟩ | exact ⟨rfl, KD.rf I⟩)
    · simp only [h, if_false, if_true, not_false_iff]
      (first | exact KD.rf I | exact ⟨trivial, KD.rf I⟩ | exact ⟨rfl, KD.rf I⟩)
  · simp only [h1, not_false_iff, if_true]
    (first | exact KD.rf I | exact ⟨trivial, KD.rf I⟩ | exact ⟨rfl, KD.rf I⟩)
end TAKEN
