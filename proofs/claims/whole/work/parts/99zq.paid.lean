/-! paid: the checks -/
section KPAID3
variable {X : Nat} {H : zHp} {s : zSg} {A : Nat → Nat} {B : Nat → Nat → Nat} {K : Nat → Nat} {ow : Nat → Nat × Nat} {E : Nat → Nat}
theorem k_paid (I : IV X H s A B K ow) (hE : EW X H E) {t land day act sum mi who : Int} : wX (fH_paid E X t land day act sum mi who H) fun x H' => wX (gM_paid t land day act sum mi who s) fun w s' => w = x ∧ KD X H H' s' := by
  have F := I.1
  have b60 : s 0 2 ≤ 60 := I.2.1.2.2.2.2.2.2.2.2.2.2.2.1
  have n10 : ¬ (1 : Int) = 0 := by decide
  have fail : ∀ v, fH_paid E X t land day act sum mi who H = some (v, H) → gM_paid t land day act sum mi who s = some (v, s) → wX (fH_paid E X t land day act sum mi who H) fun x H' => wX (gM_paid t land day act sum mi who s) fun w s' => w = x ∧ KD X H H' s' := fun v a b => wX_e a (wX_e b ⟨rfl, KD.rf I⟩)
  by_cases h1 : 0 ≤ t ∧ t ≤ s 0 2 - 1
  · obtain ⟨n, rfl⟩ : ∃ n : Nat, t = (n : Int) := ⟨t.toNat, by omega⟩
    have hA : ¬ A n = 0 := by have := (I.pos (t := n) (by omega)).1; omega
    have h1' : (0 ≤ (n : Int) ∧ (n : Int) ≤ s 0 2 - 1) = True := eq_true h1
    by_cases h2 : 0 ≤ land ∧ land ≤ 3
    · by_cases h3 : 0 ≤ who ∧ who ≤ 2
      · have h2' : (0 ≤ land ∧ land ≤ 3) = True := eq_true h2
        have h3' : (0 ≤ who ∧ who ≤ 2) = True := eq_true h3
        by_cases hk : s 3 n = 1 ∨ s 3 n = 6
        · have hk' : (s 3 n = 1 ∨ s 3 n = 6) = True := eq_true hk
          by_cases h4 : 0 ≤ day ∧ day ≤ 9999
          · have h4' : (0 ≤ day ∧ day ≤ 9999) = True := eq_true h4
            by_cases h5 : 0 ≤ act ∧ act ≤ 2
            · have h5' : (0 ≤ act ∧ act ≤ 2) = True := eq_true h5
              by_cases h6 : 0 ≤ sum ∧ sum ≤ 100000
              · have h6' : (0 ≤ sum ∧ sum ≤ 100000) = True := eq_true h6
                by_cases h7 : 0 ≤ mi ∧ mi ≤ 999
                · have h7' : (0 ≤ mi ∧ mi ≤ 999) = True := eq_true h7
                  obtain ⟨r, u, r1, r2, r3, r4, r5, r6, ⟨r7, r8⟩, ⟨r9, r10, r11⟩, r12, r13, r14, m0⟩ := e_root I (t := n) (by omega) hk
                  obtain ⟨Y, al, y1, y2, y3⟩ := e_years I r5 h4
                  have cb := conN_s I (land := land) (day := day)
                  have z8 : zisA 8 9 = true := rfl
                  have n60 : n < 60 := by omega
                  have hcQ : fH_paid E X (n : Int) land day act sum mi who H = clQ E X day act sum mi who (A n) (if 0 ≤ conN s land day (s 0 44).toNat ∧ conN s land day (s 0 44).toNat < s 0 44 then K (conN s land day (s 0 44).toNat).toNat else 0) (u : Int) (if s 3 n = 6 then 1 else 0) H := by
                    unfold fH_paid
                    by_cases k6 : s 3 n = 6
                    · rw [if_pos k6]
                      unfold clQ
                      simp only [yck, ft0 F, zA10, if_true, e_thingAt I, Int.toNat_natCast, h1', ybd_s, hA, if_false, e_within, h2', h3', h4', h5', h6', h7', n10, e_scoreAt I, hk', and_self, e_isDay, ↓yjn_p, e_conN I, e_contractAt I, r9, z8, r6, ygi, r7, r8, r10.trans k6]
                    · rw [if_neg k6]
                      unfold clQ
                      simp only [yck, ft0 F, zA10, if_true, e_thingAt I, Int.toNat_natCast, h1', ybd_s, hA, if_false, e_within, h2', h3', h4', h5', h6', h7', n10, e_scoreAt I, hk', and_self, e_isDay, ↓yjn_p, e_conN I, e_contractAt I, r9, z8, r6, ygi, r7, r8, (show ¬ zct H (A n) 0 = 6 by rw [r10]; exact k6)]
                  have hrQ : gM_paid (n : Int) land day act sum mi who s = rfQ (n : Int) land day act sum mi who (conN s land day (s 0 44).toNat) (u : Int) Y s := by
                    unfold gM_paid rfQ
                    rcases y3 with ⟨e1, e2⟩ | ⟨e1, e2⟩
                    · rw [e1] at y2
                      rw [e2]
                      simp only [mi_isThing I, e_in, h1', h2', h3', h4', h5', h6', h7', hk', if_true, n10, if_false, ybd_s, mi_isMusic I h1, Int.toNat_natCast, m_isDay, ↓yjn_p, m_conN I, yrd_n n60, r1, yrd_n r2, r3, y2]
                    · rw [e1] at y2
                      rw [e2]
                      simp only [mi_isThing I, e_in, h1', h2', h3', h4', h5', h6', h7', hk', if_true, n10, if_false, ybd_s, mi_isMusic I h1, Int.toNat_natCast, m_isDay, ↓yjn_p, m_conN I, yrd_n n60, r1, yrd_n r2, r3, y2, yrd_n r4]
                  by_cases hc : conN s land day (s 0 44).toNat < 0
                  · rw [if_neg (by omega)] at hcQ
                    obtain ⟨p1, p2⟩ := paid_no (E := E) (mi := mi) (Y := Y) (c := conN s land day (s 0 44).toNat) (act := act) (au := (u : Int)) (a := A n) I n60 h2 h4 h6 h3 r5 r14 hc rfl
                    exact fail _ (hcQ.trans p1) (hrQ.trans p2)
                  · obtain ⟨c, hcn⟩ : ∃ c : Nat, conN s land day (s 0 44).toNat = (c : Int) := ⟨(conN s land day (s 0 44).toNat).toNat, by omega⟩
                    have hcl : (c : Int) < s 0 44 := by omega
                    rw [hcn] at hcQ hrQ
                    rw [if_pos ⟨by omega, hcl⟩, Int.toNat_natCast] at hcQ
                    obtain ⟨⟨m1, -⟩, -⟩ := I.co hcl
                    obtain ⟨x, H', s', p1, p2, p3⟩ := paid_yes (act := act) (mi := mi) I hE n60 h2 h4 h6 h3 r5 r14 hcl hcn rfl y1 r9 r11 (fun e => by
                      have o1 := m0.2.2
                      have o2 := m1.2.2
                      rw [e, o2] at o1
                      have := congrArg Prod.fst o1
                      dsimp only at this
                      omega)
                    exact wX_e (hcQ.trans p1) (wX_e (hrQ.trans p2) ⟨rfl, p3⟩)
                · refine fail (-2) ?_ ?_
                  · unfold fH_paid
                    simp only [yck, ft0 F, zA10, if_true, e_thingAt I, Int.toNat_natCast, h1', ybd_s, hA, if_false, e_within, h2', h3', h4', h5', h6', h7, n10, e_scoreAt I, hk', and_self, e_isDay]
                  · unfold gM_paid
                    simp only [mi_isThing I, e_in, h1', h2', h3', h4', h5', h6', h7, hk', if_true, n10, if_false, ybd_s, mi_isMusic I h1, Int.toNat_natCast, m_isDay]
              · refine fail (-2) ?_ ?_
                · unfold fH_paid
                  simp only [yck, ft0 F, zA10, if_true, e_thingAt I, Int.toNat_natCast, h1', ybd_s, hA, if_false, e_within, h2', h3', h4', h5', h6, n10, e_scoreAt I, hk', and_self, e_isDay]
                · unfold gM_paid
                  simp only [mi_isThing I, e_in, h1', h2', h3', h4', h5', h6, hk', if_true, n10, if_false, ybd_s, mi_isMusic I h1, Int.toNat_natCast, m_isDay]
            · refine fail (-2) ?_ ?_
              · unfold fH_paid
                simp only [yck, ft0 F, zA10, if_true, e_thingAt I, Int.toNat_natCast, h1', ybd_s, hA, if_false, e_within, h2', h3', h4', h5, n10, e_scoreAt I, hk', and_self, e_isDay]
              · unfold gM_paid
                simp only [mi_isThing I, e_in, h1', h2', h3', h4', h5, hk', if_true, n10, if_false, ybd_s, mi_isMusic I h1, Int.toNat_natCast, m_isDay]
          · refine fail (-2) ?_ ?_
            · unfold fH_paid
              simp only [yck, ft0 F, zA10, if_true, e_thingAt I, Int.toNat_natCast, h1', ybd_s, hA, if_false, e_within, h2', h3', h4, n10, e_scoreAt I, hk', and_self, e_isDay]
            · unfold gM_paid
              simp only [mi_isThing I, e_in, h1', h2', h3', h4, hk', if_true, n10, if_false, ybd_s, mi_isMusic I h1, Int.toNat_natCast, m_isDay]
        · refine fail (-12) ?_ ?_
          · unfold fH_paid
            simp only [yck, ft0 F, zA10, if_true, e_thingAt I, Int.toNat_natCast, h1', ybd_s, hA, if_false, e_within, h2', h3', n10, e_scoreAt I, hk, and_false]
          · unfold gM_paid
            simp only [mi_isThing I, e_in, h1', h2', h3', hk, if_true, n10, if_false, ybd_s, mi_isMusic I h1, Int.toNat_natCast]
      · refine fail (-1) ?_ ?_
        · unfold fH_paid
          simp only [yck, ft0 F, zA10, if_true, e_thingAt I, Int.toNat_natCast, h1', ybd_s, hA, if_false, e_within, eq_true h2, h3, n10]
        · unfold gM_paid
          simp only [mi_isThing I, e_in, h1', eq_true h2, h3, if_true, n10, if_false, ybd_s]
    · refine fail (-1) ?_ ?_
      · unfold fH_paid
        simp only [yck, ft0 F, zA10, if_true, e_thingAt I, Int.toNat_natCast, h1', ybd_s, hA, if_false, e_within, h2]
      · unfold gM_paid
        simp only [mi_isThing I, e_in, h1', h2, if_true, n10, if_false, ybd_s]
  · refine fail (-1) ?_ ?_
    · unfold fH_paid
      simp only [yck, ft0 F, zA10, if_true, e_thingAt I, h1, ybd_s, if_false]
    · unfold gM_paid
      simp only [mi_isThing I, h1, if_true, if_false, ybd_s]
end KPAID3
