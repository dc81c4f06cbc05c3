/-! CONDITIONS: groups, a whole condition -/
section COND2
variable {c C n d : Nat} {f : Nat → Int} {E : Nat → Nat} {Fc : Nat → Int → zHp → Option (Int × zHp)} {Fr : zSg → Option (Int × zSg)}
theorem x_tail (c12 : c ≤ 12) (hF : FS c C n f E d Fc Fr) : ∀ (m q l a0 g g' k : Nat) (any : Bool) (H : zHp) (s : zSg), n - q < m → PRE c C n f E d q l H s → 2 * k + 1 ≤ q → CV (sh (s 55) (140 * c)) (sh (s 56) (140 * c)) (zct H C 8) (zct H C 9) (zct H C 10) a0 l any → m ≤ g' → 61 ≤ g + k →
    ∃ r H' v s', clX E Fc g C (d : Int) n f q any k H = some (r, H') ∧ gM_either_l1 Fr g' s = some (v, s') ∧ (CP C H H' ∧ SC c l s s') ∧
      ((v = 1 ∧ ∃ (q2 l2 : Nat) (b2 : Bool), (q ≤ q2 ∧ q2 ≤ n ∧ l ≤ l2 ∧ l2 + q ≤ q2 + l) ∧ (PS H' C q2 0 ∧ s' 0 57 = (q2 : Int) ∧ s' 0 58 = (l2 : Int) ∧ s' 0 60 = (d : Int)) ∧ CV (sh (s' 55) (140 * c)) (sh (s' 56) (140 * c)) (zct H C 8) (zct H C 9) (zct H C 10) a0 l2 b2 ∧ r = bi b2) ∨
       (v = 0 ∧ (r = 0 ∨ r = 1) ∧ ∃ q2 : Nat, q2 ≤ n ∧ PS H' C q2 1 ∧ s' 0 57 = (q2 : Int))) := by
  intro m
  induction m with
  | zero => intro q l a0 g g' k any H s h1; exact absurd h1 (Nat.not_lt_zero _)
  | succ m ih =>
    intro q l a0 g g' k any H s h1 h2 h3 h4 h5 h6
    obtain ⟨ct, ⟨ps, p1, p2⟩, lk, ⟨e1, e2, e3, e4⟩, d8⟩ := id h2
    have n120 := lk.2.1
    obtain ⟨g', rfl⟩ : ∃ g'', g' = g'' + 1 := ⟨g' - 1, by omega⟩
    obtain ⟨x, x1, x2⟩ := m_look lk e1
    by_cases c1 : chr1 n f q = 124
    · have x124 : x = 124 := (x2 124 (by omega) (by omega)).mpr c1
      have qn : q < n := chr_lt (n := n) (f := f) (p := q) (by omega)
      obtain ⟨g, rfl⟩ : ∃ g'', g = g'' + 1 := ⟨g - 1, by omega⟩
      have h2' := h2.go qn
      obtain ⟨H2, eH2⟩ : ∃ H2, H2 = zwr H C 3 ((q + 1 : Nat) : Int) := ⟨_, rfl⟩
      obtain ⟨s2, es2⟩ : ∃ s2, s2 = zup s 0 57 ((q + 1 : Nat) : Int) := ⟨_, rfl⟩
      have w2 : CP C H H2 := by rw [eH2]; exact CP.wr (by omega)
      have r2 : SC c l s s2 := by rw [es2]; exact SC.up (Or.inl rfl)
      rw [← eH2, ← es2] at h2'
      obtain ⟨r, H3, v, s3, f1, f2, ⟨f3, f4⟩, f5⟩ := hF (q + 1) l H2 s2 h2'
      have ct3 := h2'.1.cw f3
      have w3 := w2.tr f3
      have em : clX E Fc (g + 1) C (d : Int) n f q any k H = fContract_condition_l1 E Fc (g + 1) C (d : Int) (bi any) (bi true) ((k + 1 : Nat) : Int) H2 := by
        unfold clX
        rw [if_pos c1, eH2]
        rfl
      have eb : gM_both Fr s2 = if v = 0 then some (0, s3) else gM_both_l1 Fr zFU s3 := by
        unfold gM_both
        rw [f2, ybd_s]
      have er : gM_either_l1 Fr (g' + 1) s = ybd (gM_both Fr s2) fun v7 s8 => if v7 = 0 then some (0, s8) else ybd (gM_lay 8 0 s8) fun _ s9 => gM_either_l1 Fr g' s9 := by
        rw [gM_either_l1]
        simp only [x1, ybd_s, x124, if_true, yvl, m_next e1 (by omega), ← es2]
      rcases f5 with ⟨v1, q3, l3, w, ⟨b1, b2, b3, b4⟩, ⟨t1, t2, t3, t4⟩, cv, rw1⟩ | ⟨v0, rr, q3, b1, t1, t2⟩
      · have es : clX E Fc (g + 1) C (d : Int) n f q any k H = clM E Fc g C (d : Int) n f q3 any (true && w) (k + 1) H3 := by
          rw [em]
          rw [rw1] at f1
          exact e_cond_step ct3 t1 b2 f1 h2'.1.1.1 (by omega)
        have h3' : PRE c C n f E d q3 l3 H3 s3 := h2'.to f3 f4 t1 b2 (by omega) t2 t3 (t4.trans h2'.2.2.2.1.2.2.2)
        have cv' : CV (sh (s3 55) (140 * c)) (sh (s3 56) (140 * c)) (zct H3 C 8) (zct H3 C 9) (zct H3 C 10) l l3 (true && w) := by
          rw [f3.2.2 8 (by omega), f3.2.2 9 (by omega), f3.2.2 10 (by omega)]
          exact cv
        obtain ⟨H4, v4, s4, i1, ⟨i2, i3⟩, i4⟩ := b_tail c12 hF (n - q3 + 1) q3 l3 l g zFU (k + 1) any (true && w) H3 s3 (by omega) h3' (by omega) cv' (by rw [zFU_e]; omega) (by omega)
        have eb' : gM_both Fr s2 = some (v4, s4) := by rw [eb, v1, if_neg (by decide), i1]
        have w4 := w3.tr i2
        have r4 : SC c l s s4 := (r2.tr f4 (Nat.le_refl _)).tr i3 (by omega)
        rcases i4 with ⟨j1, q4, l4, g2, k2, b4', j2, ⟨j3, j4, j5, j6⟩, ⟨k5, k6, k7, k8⟩, j8, j9, j10⟩ | ⟨j1, r', q4, j2, j3, j4, j5, j6⟩
        · obtain ⟨s5, y1, y2, y3, y4, y5, y6⟩ := m_lay (s := s4) (c := c) (l := l4) (w := 8) (x := 0) ((i3 0 59 (by omega) (by omega)).trans h3'.2.2.2.1.2.2.1) c12 k7 (by omega)
          have r5 : SC c l s s5 := r4.tr y2 (by omega)
          have cva : CV (sh (s5 55) (140 * c)) (sh (s5 56) (140 * c)) (zct H C 8) (zct H C 9) (zct H C 10) a0 l any := h4.sc r5 (Nat.le_refl _)
          have cvb : CV (sh (s5 55) (140 * c)) (sh (s5 56) (140 * c)) (zct H C 8) (zct H C 9) (zct H C 10) l l4 b4' := by
            have := j8.sc y2 (Nat.le_refl _)
            rw [w3.2.2 8 (by omega), w3.2.2 9 (by omega), w3.2.2 10 (by omega)] at this
            exact this
          have cvc := cva.either cvb (show sh (s5 55) (140 * c) l4 = 8 from y5)
          have h5' : PRE c C n f E d q4 (l4 + 1) H4 s5 := h3'.to i2 (i3.tr y2 (by omega)) k5 j4 (by omega) ((y4 57 (by omega)).trans k6) y3 ((y4 60 (by omega)).trans k8)
          rw [← w4.2.2 8 (by omega), ← w4.2.2 9 (by omega), ← w4.2.2 10 (by omega)] at cvc
          obtain ⟨r', H', v', s', u1, u2, ⟨u3, u4⟩, u5⟩ := ih q4 (l4 + 1) a0 g2 g' k2 (any || b4') H4 s5 (by omega) h5' j9 cvc (by omega) j10
          refine ⟨r', H', v', s', ?_, ?_, ⟨w4.tr u3, r5.tr u4 (by omega)⟩, ?_⟩
          · rw [es, j2]
            exact u1
          · rw [er, eb', ybd_s, j1, if_neg (by decide), y1, ybd_s]
            exact u2
          · rw [w4.2.2 8 (by omega), w4.2.2 9 (by omega), w4.2.2 10 (by omega)] at u5
            rcases u5 with ⟨z1, q5, l5, b5, ⟨z2, z3, z4, z5⟩, z6⟩ | z
            · exact Or.inl ⟨z1, q5, l5, b5, ⟨by omega, z3, by omega, by omega⟩, z6⟩
            · exact Or.inr z
        · refine ⟨r', H4, 0, s4, ?_, ?_, ⟨w4, r4⟩, Or.inr ⟨rfl, j3, q4, j4, j5, j6⟩⟩
          · rw [es]
            exact j2
          · rw [er, eb', ybd_s, j1, if_pos rfl]
      · obtain ⟨r', z1, z2⟩ := e_condF (E := E) (Fc := Fc) (a := any) (b := true) (k := k + 1) (g := g) ct3 t1 f1 rr h2'.1.1.1 (by omega)
        refine ⟨r', H3, 0, s3, ?_, ?_, ⟨w3, r2.tr f4 (Nat.le_refl _)⟩, Or.inr ⟨rfl, z2, q3, b1, t1, t2⟩⟩
        · rw [em]
          exact z1
        · rw [er, eb, v0, if_pos rfl, ybd_s, if_pos rfl]
    · refine ⟨bi any, H, 1, s, ?_, ?_, ⟨CP.rf, SC.rf⟩, Or.inl ⟨rfl, q, l, any, ⟨Nat.le_refl _, p1, Nat.le_refl _, by omega⟩, ⟨ps, e1, e2, e4⟩, h4, rfl⟩⟩
      · unfold clX
        rw [if_neg c1]
      · rw [gM_either_l1, x1, ybd_s, if_neg (fun w => c1 ((x2 124 (by omega) (by omega)).mp w))]
/-- a whole condition -/
theorem cond_ok (c12 : c ≤ 12) (hF : FS c C n f E d Fc Fr) : FS c C n f E d (fContract_condition E Fc) (gM_either Fr) := by
  intro p l H s h
  obtain ⟨ct, ⟨ps, p1, p2⟩, lk, ⟨e1, e2, e3, e4⟩, d8⟩ := id h
  have n120 := lk.2.1
  obtain ⟨r, H3, v, s3, f1, f2, ⟨f3, f4⟩, f5⟩ := hF p l H s h
  have ct3 := ct.cw f3
  have em : fContract_condition E Fc C (d : Int) H = fContract_condition_l1 E Fc (999999 + 1) C (d : Int) (bi false) (bi true) ((0 : Nat) : Int) H := rfl
  have eb : gM_both Fr s = if v = 0 then some (0, s3) else gM_both_l1 Fr zFU s3 := by
    unfold gM_both
    rw [f2, ybd_s]
  have er : gM_either Fr s = ybd (gM_both Fr s) fun v1 s2 => if v1 = 0 then some (0, s2) else gM_either_l1 Fr zFU s2 := rfl
  rcases f5 with ⟨v1, q3, l3, w, ⟨b1, b2, b3, b4⟩, ⟨t1, t2, t3, t4⟩, cv, rw1⟩ | ⟨v0, rr, q3, b1, t1, t2⟩
  · have es : fContract_condition E Fc C (d : Int) H = clM E Fc 999999 C (d : Int) n f q3 false (true && w) 0 H3 := by
      rw [em]
      rw [rw1] at f1
      exact e_cond_step ct3 t1 b2 f1 ct.1.1 (by omega)
    have h3' : PRE c C n f E d q3 l3 H3 s3 := h.to f3 f4 t1 b2 (by omega) t2 t3 (t4.trans e4)
    have cv' : CV (sh (s3 55) (140 * c)) (sh (s3 56) (140 * c)) (zct H3 C 8) (zct H3 C 9) (zct H3 C 10) l l3 (true && w) := by
      rw [f3.2.2 8 (by omega), f3.2.2 9 (by omega), f3.2.2 10 (by omega)]
      exact cv
    obtain ⟨H4, v4, s4, i1, ⟨i2, i3⟩, i4⟩ := b_tail c12 hF (n - q3 + 1) q3 l3 l 999999 zFU 0 false (true && w) H3 s3 (by omega) h3' (by omega) cv' (by rw [zFU_e]; omega) (by omega)
    have eb' : gM_both Fr s = some (v4, s4) := by rw [eb, v1, if_neg (by decide), i1]
    have w4 := f3.tr i2
    have r4 : SC c l s s4 := f4.tr i3 (by omega)
    rcases i4 with ⟨j1, q4, l4, g2, k2, b4', j2, ⟨j3, j4, j5, j6⟩, ⟨k5, k6, k7, k8⟩, j8, j9, j10⟩ | ⟨j1, r', q4, j2, j3, j4, j5, j6⟩
    · have h5' : PRE c C n f E d q4 l4 H4 s4 := h3'.to i2 i3 k5 j4 (by omega) k6 k7 k8
      have cvc : CV (sh (s4 55) (140 * c)) (sh (s4 56) (140 * c)) (zct H4 C 8) (zct H4 C 9) (zct H4 C 10) l l4 (false || b4') := by
        rw [i2.2.2 8 (by omega), i2.2.2 9 (by omega), i2.2.2 10 (by omega)]
        exact j8
      obtain ⟨r', H', v', s', u1, u2, ⟨u3, u4⟩, u5⟩ := x_tail c12 hF (n - q4 + 1) q4 l4 l g2 zFU k2 (false || b4') H4 s4 (by omega) h5' j9 cvc (by rw [zFU_e]; omega) j10
      refine ⟨r', H', v', s', ?_, ?_, ⟨w4.tr u3, r4.tr u4 (by omega)⟩, ?_⟩
      · rw [es, j2]
        exact u1
      · rw [er, eb', ybd_s, j1, if_neg (by decide)]
        exact u2
      · rw [w4.2.2 8 (by omega), w4.2.2 9 (by omega), w4.2.2 10 (by omega)] at u5
        rcases u5 with ⟨z1, q5, l5, b5, ⟨z2, z3, z4, z5⟩, ⟨z6, z7, z8, z9⟩, z10⟩ | z
        · exact Or.inl ⟨z1, q5, l5, b5, ⟨by omega, z3, by omega, by omega⟩, ⟨z6, z7, z8, z9.trans e4.symm⟩, z10⟩
        · exact Or.inr z
    · refine ⟨r', H4, 0, s4, ?_, ?_, ⟨w4, r4⟩, Or.inr ⟨rfl, j3, q4, j4, j5, j6⟩⟩
      · rw [es]
        exact j2
      · rw [er, eb', ybd_s, j1, if_pos rfl]
  · obtain ⟨r', z1, z2⟩ := e_condF (E := E) (Fc := Fc) (a := false) (b := true) (k := 0) (g := 999999) ct3 t1 f1 rr ct.1.1 (by omega)
    refine ⟨r', H3, 0, s3, ?_, ?_, ⟨f3, f4⟩, Or.inr ⟨rfl, z2, q3, b1, t1, t2⟩⟩
    · rw [em]
      exact z1
    · rw [er, eb, v0, if_pos rfl, ybd_s, if_pos rfl]
end COND2
