/-! CONDITIONS: one denied, one in brackets; all of them -/
section SINGLE2
variable {c C n d p l : Nat} {f : Nat → Int} {E : Nat → Nat} {F : Nat → Int → zHp → Option (Int × zHp)} {G : zSg → Option (Int × zSg)} {H : zHp} {s : zSg}
theorem m_opens {s : zSg} (e4 : s 0 60 = (d : Int)) (d5 : d < 5) (e1 : s 0 57 = (p : Int)) (hp : p < 200) : gM_opens s = some (1, zup (zup s 0 60 ((d + 1 : Nat) : Int)) 0 57 ((p + 1 : Nat) : Int)) := by
  have ed : zadd (s 0 60) 1 = ((d + 1 : Nat) : Int) := by rw [e4, zadd_e (by omega) (by omega)]; omega
  have ep : zadd (zup s 0 60 ((d + 1 : Nat) : Int) 0 57) 1 = ((p + 1 : Nat) : Int) := m_next (s := zup s 0 60 ((d + 1 : Nat) : Int)) e1 hp
  unfold gM_opens
  rw [if_neg (by rw [e4]; omega)]
  simp only [yvl, ed, ep]
/-- the piece within goes on one deeper -/
theorem PRE.deep (h : PRE c C n f E d p l H s) {H1 : zHp} (r2 : CP C H H1) (j4 : PS H1 C (p + 1) 0) (pn : p < n) : PRE c C n f E (d + 1) (p + 1) l H1 (zup (zup s 0 60 ((d + 1 : Nat) : Int)) 0 57 ((p + 1 : Nat) : Int)) ∧ SC c l s (zup (zup s 0 60 ((d + 1 : Nat) : Int)) 0 57 ((p + 1 : Nat) : Int)) := by
  have sc : SC c l s (zup (zup s 0 60 ((d + 1 : Nat) : Int)) 0 57 ((p + 1 : Nat) : Int)) := SC.tr (SC.up (l := l) (by omega)) (SC.up (l := l) (Or.inl rfl)) (Nat.le_refl _)
  exact ⟨h.to r2 sc j4 pn (by have := h.2.1.2.2; omega) rfl h.2.2.2.1.2.1 rfl, sc⟩
theorem single_not (c12 : c ≤ 12) (h : PRE c C n f E d p l H s) (d5 : d < 5) (hF : FS c C n f E (d + 1) F G) (g : chr1 n f p = 33) {H1 : zHp} (r1 : fContract_pick C (E 9) H = some (3, H1)) (r2 : CP C H H1) (j4 : PS H1 C (p + 1) 0) (pn : p < n) : ∃ r H' v s', sgB E F C (d : Int) H = some (r, H') ∧ gM_factor_b G s = some (v, s') ∧ RES c C n p l H s r H' v s' := by
  obtain ⟨ct, ⟨ps, p1, p2⟩, lk, ⟨e1, e2, e3, e4⟩, d8⟩ := id h
  have n120 := lk.2.1
  have ct1 := ct.cw r2
  obtain ⟨x, x1, x2⟩ := m_look lk e1
  have g' := (x2 33 (by omega) (by omega)).mpr g
  have op := m_opens e4 d5 e1 (by omega)
  obtain ⟨hd, sc2⟩ := h.deep r2 j4 pn
  obtain ⟨s2, es2⟩ : ∃ s2, s2 = zup (zup s 0 60 ((d + 1 : Nat) : Int)) 0 57 ((p + 1 : Nat) : Int) := ⟨_, rfl⟩
  rw [← es2] at op hd sc2
  obtain ⟨r, H2, v, s3, f1, f2, ⟨f3, f4⟩, f5⟩ := hF (p + 1) l H1 s2 hd
  have ct2 := ct1.cw f3
  have ed : zadd (d : Int) 1 = ((d + 1 : Nat) : Int) := by rw [zadd_e (by omega) (by omega)]; omega
  have w2 := r2.tr f3
  have r3 := sc2.tr f4 (Nat.le_refl _)
  have ec : ∀ b : Bool, r = bi b → sgB E F C (d : Int) H = some (bi (!b), H2) := fun b hb => by
    have y0 : yrb 0 H2 = some (0, H2) := rfl
    have y1 : yrb 1 H2 = some (1, H2) := rfl
    rw [hb] at f1
    unfold sgB fContract_nested
    cases b <;> simp only [yjn, yck, ct.1.1, ct1.1.1, zA1, if_true, r1, ybd_s, show ¬ (3 : Int) = 0 by decide, show (2 : Int) < 3 by decide, show ¬ (1 : Int) = 0 by decide, if_false, ed, f1, bi_t, bi_f, Bool.not_true, Bool.not_false, y0, y1]
  rcases f5 with ⟨v1, q3, l3, w, ⟨b1, b2, b3, b4⟩, ⟨t1, t2, t3, t4⟩, cv, rw1⟩ | ⟨v0, rr, q3, b1, t1, t2⟩
  · obtain ⟨s4, es4⟩ : ∃ s4, s4 = zup s3 0 60 (d : Int) := ⟨_, rfl⟩
    have e60 : zsub (s3 0 60) 1 = (d : Int) := by rw [t4, hd.2.2.2.1.2.2.2, zsub_e (by omega) (by omega)]; omega
    have sc4 : SC c l3 s3 s4 := by rw [es4]; exact SC.up (by omega)
    obtain ⟨s5, y1, y2, y3, y4, y5, y6⟩ := m_lay (s := s4) (c := c) (l := l3) (w := 6) (x := 0) ((sc4 0 59 (by omega) (by omega)).trans ((r3 0 59 (by omega) (by omega)).trans e3)) c12 (by rw [es4]; exact t3) (by omega)
    have sc5 := sc4.tr y2 (Nat.le_refl _)
    have cv5 := (cv.sc sc5 (Nat.le_refl _)).no (show sh (s5 55) (140 * c) l3 = 6 from y5)
    rw [r2.2.2 8 (by omega), r2.2.2 9 (by omega), r2.2.2 10 (by omega)] at cv5
    refine ⟨bi (!w), H2, 1, s5, ec w rw1, ?_, ⟨w2, r3.tr sc5 (by omega)⟩, Or.inl ⟨rfl, q3, l3 + 1, !w, ⟨by omega, b2, by omega, by omega⟩, ⟨t1, ?_, y3, ?_⟩, cv5, rfl⟩⟩
    · unfold gM_factor_b
      simp only [x1, ybd_s, g', if_true, op, show ¬ (1 : Int) = 0 by decide, if_false, f2, v1, yvl, e60, ← es4, y1]
    · rw [y4 57 (by omega), es4]; exact t2
    · rw [y4 60 (by omega), es4]; exact e4.symm
  · obtain ⟨b, hb⟩ : ∃ b, r = bi b := by
      rcases rr with e | e
      · exact ⟨false, e⟩
      · exact ⟨true, e⟩
    refine ⟨bi (!b), H2, 0, s3, ec b hb, ?_, ⟨w2, r3⟩, Or.inr ⟨rfl, bi_01 _, q3, b1, t1, t2⟩⟩
    unfold gM_factor_b
    simp only [x1, ybd_s, g', if_true, op, show ¬ (1 : Int) = 0 by decide, if_false, f2, v0]
theorem single_in (c12 : c ≤ 12) (h : PRE c C n f E d p l H s) (d5 : d < 5) (hF : FS c C n f E (d + 1) (fContract_condition E F) (gM_either G)) (g : chr1 n f p = 40) {H1 : zHp} (r1 : fContract_pick C (E 9) H = some (4, H1)) (r2 : CP C H H1) (j4 : PS H1 C (p + 1) 0) (pn : p < n) : ∃ r H' v s', sgB E F C (d : Int) H = some (r, H') ∧ gM_factor_b G s = some (v, s') ∧ RES c C n p l H s r H' v s' := by
  obtain ⟨ct, ⟨ps, p1, p2⟩, lk, ⟨e1, e2, e3, e4⟩, d8⟩ := id h
  have n120 := lk.2.1
  have ct1 := ct.cw r2
  obtain ⟨x, x1, x2⟩ := m_look lk e1
  have g' := (x2 40 (by omega) (by omega)).mpr g
  have op := m_opens e4 d5 e1 (by omega)
  obtain ⟨hd, sc2⟩ := h.deep r2 j4 pn
  obtain ⟨s2, es2⟩ : ∃ s2, s2 = zup (zup s 0 60 ((d + 1 : Nat) : Int)) 0 57 ((p + 1 : Nat) : Int) := ⟨_, rfl⟩
  rw [← es2] at op hd sc2
  obtain ⟨r, H2, v, s3, f1, f2, ⟨f3, f4⟩, f5⟩ := hF (p + 1) l H1 s2 hd
  have ct2 := ct1.cw f3
  have ed : zadd (d : Int) 1 = ((d + 1 : Nat) : Int) := by rw [zadd_e (by omega) (by omega)]; omega
  have w2 := r2.tr f3
  have r3 := sc2.tr f4 (Nat.le_refl _)
  have ec : ∀ (b : Bool) (i : Int) (H3 : zHp), r = bi b → fContract_pick C (E 10) H2 = some (i, H3) → sgB E F C (d : Int) H = some (bi b, H3) := fun b i H3 hb hp => by
    rw [hb] at f1
    unfold sgB fContract_nested
    simp only [yjn, yck, ct.1.1, ct1.1.1, ct2.1.1, zA1, if_true, r1, ybd_s, show ¬ (4 : Int) = 0 by decide, show (2 : Int) < 4 by decide, show ¬ (4 : Int) = 3 by decide, if_false, ed, f1, hp, yrb_bi]
  rcases f5 with ⟨v1, q3, l3, w, ⟨b1, b2, b3, b4⟩, ⟨t1, t2, t3, t4⟩, cv, rw1⟩ | ⟨v0, rr, q3, b1, t1, t2⟩
  · obtain ⟨i, H3, u1, u2, u3⟩ := e_pick0 ct2 t1 b2 (i := 10) (by omega)
    have tk := m_takes (lk.sc r3) t2 b2 (u := 41) (by omega) (by omega)
    rw [r2.2.2 8 (by omega), r2.2.2 9 (by omega), r2.2.2 10 (by omega)] at cv
    rcases u3 with ⟨j, j1, j2, j3, j5, j6⟩ | ⟨j1, j2, j3⟩
    · have j20 : j < 1 := j2
      obtain rfl : j = 0 := by omega
      have c41 : chr1 n f q3 = 41 := j3
      rw [if_pos c41] at tk
      obtain ⟨s4, es4⟩ : ∃ s4, s4 = zup s3 0 57 ((q3 + 1 : Nat) : Int) := ⟨_, rfl⟩
      obtain ⟨s5, es5⟩ : ∃ s5, s5 = zup s4 0 60 (d : Int) := ⟨_, rfl⟩
      rw [← es4] at tk
      have e60 : zsub (s4 0 60) 1 = (d : Int) := by
        rw [es4, show zup s3 0 57 ((q3 + 1 : Nat) : Int) 0 60 = s3 0 60 from rfl, t4, hd.2.2.2.1.2.2.2, zsub_e (by omega) (by omega)]
        omega
      have sc5 : SC c l3 s3 s5 := by rw [es5, es4]; exact SC.tr (SC.up (l := l3) (Or.inl rfl)) (SC.up (l := l3) (by omega)) (Nat.le_refl _)
      refine ⟨bi w, H3, 1, s5, ec w _ H3 rw1 u1, ?_, ⟨w2.tr u2, r3.tr sc5 (by omega)⟩, Or.inl ⟨rfl, q3 + 1, l3, w, ⟨by omega, by omega, by omega, by omega⟩, ⟨j5, ?_, ?_, ?_⟩, cv.sc sc5 (Nat.le_refl _), rfl⟩⟩
      · unfold gM_factor_b
        simp only [x1, ybd_s, g', show ¬ (40 : Int) = 33 by decide, if_true, op, show ¬ (1 : Int) = 0 by decide, if_false, f2, v1, tk, yvl, e60, ← es5]
      · rw [es5, es4]; rfl
      · rw [es5, es4]; exact t3
      · rw [es5]; exact e4.symm
    · have c41 : chr1 n f q3 ≠ 41 := j2 0 (by decide)
      rw [if_neg c41] at tk
      refine ⟨bi w, H3, 0, s3, ec w _ H3 rw1 u1, ?_, ⟨w2.tr u2, r3⟩, Or.inr ⟨rfl, bi_01 _, q3, b2, j3, t2⟩⟩
      unfold gM_factor_b
      simp only [x1, ybd_s, g', show ¬ (40 : Int) = 33 by decide, if_true, op, show ¬ (1 : Int) = 0 by decide, if_false, f2, v1, tk]
  · obtain ⟨b, hb⟩ : ∃ b, r = bi b := by
      rcases rr with e | e
      · exact ⟨false, e⟩
      · exact ⟨true, e⟩
    obtain ⟨H3, u1, u2, u3⟩ := e_pick1 ct2 t1 (a := E 10)
    refine ⟨bi b, H3, 0, s3, ec b _ H3 hb u1, ?_, ⟨w2.tr u2, r3⟩, Or.inr ⟨rfl, bi_01 _, q3, b1, u3, t2⟩⟩
    unfold gM_factor_b
    simp only [x1, ybd_s, g', show ¬ (40 : Int) = 33 by decide, if_true, op, show ¬ (1 : Int) = 0 by decide, if_false, f2, v0]
end SINGLE2
theorem single_ok {c C n : Nat} {f : Nat → Int} {E : Nat → Nat} (c12 : c ≤ 12) : ∀ (k d : Nat), 6 ≤ k + d → d ≤ 5 → FS c C n f E d (fContract_single E k) (gM_factor k) := by
  intro k
  induction k with
  | zero => intro d h1 h2; omega
  | succ k ih =>
    intro d h1 h2 p l H s h
    show ∃ r H' v s', fContract_single_b E (fContract_single E k) C (d : Int) H = some (r, H') ∧ gM_factor_b (gM_factor k) s = some (v, s') ∧ RES c C n p l H s r H' v s'
    by_cases dd : d = 5 ∧ (chr1 n f p = 33 ∨ chr1 n f p = 40)
    · obtain ⟨rfl, dc⟩ := dd
      exact single_deep h dc
    · have hdd : d < 5 ∨ (chr1 n f p ≠ 33 ∧ chr1 n f p ≠ 40) := by
        by_cases g : d < 5
        · exact Or.inl g
        · exact Or.inr ⟨fun w => dd ⟨by omega, Or.inl w⟩, fun w => dd ⟨by omega, Or.inr w⟩⟩
      obtain ⟨ct, ⟨ps, p1, p2⟩, -⟩ := id h
      rw [e_head ct ps hdd]
      obtain ⟨r, H1, r1, r2, r3⟩ := e_pick0 ct ps p1 (i := 9) (by omega)
      rcases r3 with ⟨j, j1, j2, j3, j4, j5⟩ | ⟨j1, j2, j3⟩
      · have j20 : j < 5 := j2
        rcases (show j = 0 ∨ j = 1 ∨ j = 2 ∨ j = 3 ∨ j = 4 by omega) with rfl | rfl | rfl | rfl | rfl
        · rw [show r = 0 from j1] at r1
          exact single_x c12 h j3 r1 r2 j4 j5
        · rw [show r = 1 from j1] at r1
          exact single_y c12 h j3 r1 r2 j4 j5
        · rw [show r = 2 from j1] at r1
          exact single_m c12 h j3 r1 r2 j4 j5
        · rw [show r = 3 from j1] at r1
          have g33 : chr1 n f p = 33 := j3
          have d5 : d < 5 := by omega
          exact single_not c12 h d5 (ih (d + 1) (by omega) (by omega)) j3 r1 r2 j4 j5
        · rw [show r = 4 from j1] at r1
          have g40 : chr1 n f p = 40 := j3
          have d5 : d < 5 := by omega
          exact single_in c12 h d5 (cond_ok c12 (ih (d + 1) (by omega) (by omega))) j3 r1 r2 j4 j5
      · rw [j1] at r1
        exact single_no h (j2 0 (by decide)) (j2 1 (by decide)) (j2 2 (by decide)) (j2 3 (by decide)) (j2 4 (by decide)) r1 r2 j3
/-- a condition of a clause -/
theorem either_ok {c C n : Nat} {f : Nat → Int} {E : Nat → Nat} (c12 : c ≤ 12) : FS c C n f E 0 (fContract_condition E (fContract_single E 12)) (gM_either (gM_factor 12)) := cond_ok c12 (single_ok c12 12 0 (by omega) (by omega))
