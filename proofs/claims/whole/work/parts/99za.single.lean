/-! CONDITIONS: a single one -/
theorem nmb_le {n : Nat} {f : Nat → Int} : ∀ (k p x : Nat), p ≤ (nmb n f k p x).2
  | 0, _, _ => Nat.le_refl _
  | k + 1, p, x => by
    show p ≤ (if 48 ≤ chr1 n f p ∧ chr1 n f p ≤ 57 then nmb n f k (p + 1) (10 * x + (chr1 n f p - 48).toNat) else (x, p)).2
    split
    · have := nmb_le (n := n) (f := f) k (p + 1) (10 * x + (chr1 n f p - 48).toNat)
      omega
    · exact Nat.le_refl _
/-- a single one, behind the look at how deep it lies -/
noncomputable def sgB (E : Nat → Nat) (F : Nat → Int → zHp → Option (Int × zHp)) (C : Nat) (dep : Int) (H : zHp) : Option (Int × zHp) :=
   yck 1 C H <| ybd (fContract_pick C (E 9) H) fun v5 s6 =>
   if v5 = 0 then
     (ygi 1 8 C s6 fun v30 =>
     yrb v30 s6)
   else
     (yjn (fun (x7 : Int) (x8 : Nat) (x9 : Int) (s10 : zHp) =>
      yck 1 x8 s10 <| ybd (fContract_nested E F x8 x9 (zadd x7 1) s10) fun v12 s13 =>
      yrb v12 s13) fun q11 =>
      if 2 < v5 then
       (if v5 = 3 then
         (q11 dep C 1 s6)
       else
         (q11 dep C 0 s6))
     else
       (yjn (fun (x14 : Nat) (x15 : Int) (x16 : Int) (s17 : zHp) =>
        yjn (fun (x19 : Int) (x20 : Int) (x21 : Int) (s22 : zHp) =>
         if x19 = 0 then
           (if x20 < x21 then
             (some (1, s22))
           else
             (some (0, s22)))
         else
         if x21 < x20 then
           (some (1, s22))
         else
           (some (0, s22))) fun q23 =>
         yck 1 x14 s17 <| ybd (fContract_readNumber E x14 s17) fun v24 s25 =>
        if x15 = 1 then
          (ygi 1 9 x14 s25 fun v27 =>
          q23 x16 v24 v27 s25)
        else
          (ygi 1 10 x14 s25 fun v26 =>
          q23 x16 v24 v26 s25)) fun q18 =>
        yck 1 C s6 <| ybd (fContract_pick C (E 11) s6) fun v28 s29 =>
       if v28 = 0 then
         (q18 C v5 1 s29)
       else
         (q18 C v5 0 s29)))
section SINGLE
variable {c C n d p l : Nat} {f : Nat → Int} {E : Nat → Nat} {F : Nat → Int → zHp → Option (Int × zHp)} {G : zSg → Option (Int × zSg)} {H : zHp} {s : zSg}
theorem e_head (ct : CT H C n f E) (ps : PS H C p 0) (h : d < 5 ∨ (chr1 n f p ≠ 33 ∧ chr1 n f p ≠ 40)) : fContract_single_b E F C (d : Int) H = sgB E F C (d : Int) H := by
  unfold fContract_single_b sgB
  by_cases g : d < 5
  · have g' : (d : Int) < 5 := by omega
    simp only [yjn, g', if_true]
  · have g' : ¬ (d : Int) < 5 := by omega
    obtain ⟨c1, c2⟩ := h.resolve_left g
    have S1 := e_sees0 ct ps (u := 33) (by omega)
    have S2 := e_sees0 ct ps (u := 40) (by omega)
    rw [if_neg c1] at S1
    rw [if_neg c2] at S2
    simp only [yjn, g', if_false, S1, S2, ybd_s, if_true, yck, ct.1.1, zA1]
/-- too deep -/
theorem single_deep (h : PRE c C n f E 5 p l H s) (dc : chr1 n f p = 33 ∨ chr1 n f p = 40) : ∃ r H' v s', fContract_single_b E F C ((5 : Nat) : Int) H = some (r, H') ∧ gM_factor_b G s = some (v, s') ∧ RES c C n p l H s r H' v s' := by
  obtain ⟨ct, ⟨ps, p1, p2⟩, lk, ⟨e1, e2, e3, e4⟩, d8⟩ := id h
  obtain ⟨x, x1, x2⟩ := m_look lk e1
  have S1 := e_sees0 ct ps (u := 33) (by omega)
  have S2 := e_sees0 ct ps (u := 40) (by omega)
  have w1 : CP C H (zwr H C 4 1) := CP.wr (by omega)
  have ct1 : CT (zwr H C 4 1) C n f E := ct.cw w1
  have ps1 : PS (zwr H C 4 1) C p 1 := ps.bad
  obtain ⟨r, H', r1, r2, r3, r4⟩ := e_single1 ct1 ps1 (F := F) (dep := 5)
  have n5 : ¬ (5 : Int) < 5 := by decide
  have n1 : ¬ (1 : Int) = 0 := by decide
  have T1 := e_sees1 ct1 ps1 (u := 33)
  have T2 := e_sees1 ct1 ps1 (u := 40)
  have e : fContract_single_b E F C 5 H = fContract_single_b E F C 5 (zwr H C 4 1) := by
    unfold fContract_single_b
    rcases dc with g | g
    · rw [if_pos g] at S1
      simp only [yjn, n5, if_false, if_true, yck, ct.1.1, ct1.1.1, zA1, S1, T1, T2, ybd_s, n1, ypz, or_true, and_self]
    · rw [if_neg (by omega)] at S1
      rw [if_pos g] at S2
      simp only [yjn, n5, if_false, if_true, yck, ct.1.1, ct1.1.1, zA1, S1, S2, T1, T2, ybd_s, n1, ypz, or_true, and_self]
  have op : gM_opens s = some (0, s) := by
    unfold gM_opens
    rw [if_pos (by rw [e4]; rfl)]
  refine ⟨r, H', 0, s, e.trans r1, ?_, ⟨w1.tr r2, SC.rf⟩, Or.inr ⟨rfl, r4, p, p1, r3, e1⟩⟩
  unfold gM_factor_b
  rcases dc with g | g
  · have g' := (x2 33 (by omega) (by omega)).mpr g
    simp only [x1, ybd_s, g', if_true, op]
  · have g' := (x2 40 (by omega) (by omega)).mpr g
    simp only [x1, ybd_s, g', show ¬ (40 : Int) = 33 by decide, if_false, if_true, op]
/-- whether the object is derived -/
theorem single_x (c12 : c ≤ 12) (h : PRE c C n f E d p l H s) (g : chr1 n f p = 120) {H1 : zHp} (r1 : fContract_pick C (E 9) H = some (0, H1)) (r2 : CP C H H1) (j4 : PS H1 C (p + 1) 0) (pn : p < n) : ∃ r H' v s', sgB E F C (d : Int) H = some (r, H') ∧ gM_factor_b G s = some (v, s') ∧ RES c C n p l H s r H' v s' := by
  obtain ⟨ct, ⟨ps, p1, p2⟩, lk, ⟨e1, e2, e3, e4⟩, d8⟩ := id h
  have n120 := lk.2.1
  have ct1 := ct.cw r2
  obtain ⟨x, x1, x2⟩ := m_look lk e1
  have g' := (x2 120 (by omega) (by omega)).mpr g
  obtain ⟨s2, es2⟩ : ∃ s2, s2 = zup s 0 57 ((p + 1 : Nat) : Int) := ⟨_, rfl⟩
  have sc2 : SC c l s s2 := by rw [es2]; exact SC.up (Or.inl rfl)
  obtain ⟨s3, y1, y2, y3, y4, y5, y6⟩ := m_lay (s := s2) (c := c) (l := l) (w := 1) (x := 0) ((sc2 0 59 (by omega) (by omega)).trans e3) c12 (by rw [es2]; exact e2) (by omega)
  have eb : zct H1 C 8 = bi (decide (zct H C 8 ≠ 0)) := by
    rw [r2.2.2 8 (by omega)]
    rcases d8 with w | w <;> rw [w] <;> rfl
  refine ⟨bi (decide (zct H C 8 ≠ 0)), H1, 1, s3, ?_, ?_, ⟨r2, sc2.tr y2 (Nat.le_refl _)⟩, Or.inl ⟨rfl, p + 1, l + 1, _, ⟨by omega, by omega, by omega, by omega⟩, ⟨j4, ?_, y3, ?_⟩, CV.one (fun st => ?_), rfl⟩⟩
  · unfold sgB
    simp only [yck, ct.1.1, ct1.1.1, zA1, if_true, r1, ybd_s, ygi, eb, yrb_bi]
  · unfold gM_factor_b
    simp only [x1, ybd_s, g', show ¬ (120 : Int) = 33 by decide, show ¬ (120 : Int) = 40 by decide, if_false, if_true, yvl, m_next e1 (by omega), ← es2, y1]
  · rw [y4 57 (by omega), es2]; rfl
  · rw [y4 60 (by omega), es2]; rfl
  · show stepC _ _ _ (s3 55 (140 * c + l)) (s3 56 (140 * c + l)) st = _
    rw [y5, y6]
    rfl
/-- none of the signs -/
theorem single_no (h : PRE c C n f E d p l H s) (g0 : chr1 n f p ≠ 120) (g1 : chr1 n f p ≠ 121) (g2 : chr1 n f p ≠ 109) (g3 : chr1 n f p ≠ 33) (g4 : chr1 n f p ≠ 40) {H1 : zHp} (r1 : fContract_pick C (E 9) H = some (-1, H1)) (r2 : CP C H H1) (j3 : PS H1 C p 1) : ∃ r H' v s', sgB E F C (d : Int) H = some (r, H') ∧ gM_factor_b G s = some (v, s') ∧ RES c C n p l H s r H' v s' := by
  obtain ⟨ct, ⟨ps, p1, p2⟩, lk, ⟨e1, e2, e3, e4⟩, d8⟩ := id h
  have ct1 := ct.cw r2
  obtain ⟨x, x1, x2⟩ := m_look lk e1
  obtain ⟨H2, t1, t2, t3⟩ := e_pick1 ct1 j3 (a := E 11)
  have ct2 := ct1.cw t2
  obtain ⟨v, H3, u1, u2, u3⟩ := e_num1 ct2 t3
  have ct3 := ct2.cw u2
  refine ⟨bi (decide (v < zct H3 C 10)), H3, 0, s, ?_, ?_, ⟨(r2.tr t2).tr u2, SC.rf⟩, Or.inr ⟨rfl, bi_01 _, p, p1, u3, e1⟩⟩
  · unfold sgB
    simp only [yjn, yck, ct.1.1, ct1.1.1, ct2.1.1, ct3.1.1, zA1, if_true, r1, ybd_s, show ¬ (-1 : Int) = 0 by decide, show ¬ (2 : Int) < -1 by decide, show ¬ (-1 : Int) = 1 by decide, if_false, t1, u1, ygi, e_cmp]
  · unfold gM_factor_b
    simp only [yjn, x1, ybd_s, show ¬ x = 33 from fun w => g3 ((x2 33 (by omega) (by omega)).mp w), show ¬ x = 40 from fun w => g4 ((x2 40 (by omega) (by omega)).mp w), show ¬ x = 120 from fun w => g0 ((x2 120 (by omega) (by omega)).mp w), show ¬ x = 121 from fun w => g1 ((x2 121 (by omega) (by omega)).mp w), show ¬ x = 109 from fun w => g2 ((x2 109 (by omega) (by omega)).mp w), if_false]
/-- y, a sign and a number -/
theorem single_y (c12 : c ≤ 12) (h : PRE c C n f E d p l H s) (g : chr1 n f p = 121) {H1 : zHp} (r1 : fContract_pick C (E 9) H = some (1, H1)) (r2 : CP C H H1) (j4 : PS H1 C (p + 1) 0) (pn : p < n) : ∃ r H' v s', sgB E F C (d : Int) H = some (r, H') ∧ gM_factor_b G s = some (v, s') ∧ RES c C n p l H s r H' v s' := by
  obtain ⟨ct, ⟨ps, p1, p2⟩, lk, ⟨e1, e2, e3, e4⟩, d8⟩ := id h
  have n120 := lk.2.1
  have ct1 := ct.cw r2
  obtain ⟨x, x1, x2⟩ := m_look lk e1
  have g' := (x2 121 (by omega) (by omega)).mpr g
  obtain ⟨s2, es2⟩ : ∃ s2, s2 = zup s 0 57 ((p + 1 : Nat) : Int) := ⟨_, rfl⟩
  have sc2 : SC c l s s2 := by rw [es2]; exact SC.up (Or.inl rfl)
  have f2 : s2 0 57 = ((p + 1 : Nat) : Int) := by rw [es2]; rfl
  have f60 : s2 0 60 = s 0 60 := by rw [es2]; rfl
  have lk2 := lk.sc sc2
  obtain ⟨z, z1, z2⟩ := m_look lk2 f2
  obtain ⟨q, H2, t1, t2, t3⟩ := e_pick0 ct1 j4 pn (i := 11) (by omega)
  have ct2 := ct1.cw t2
  rcases t3 with ⟨i, i1, i2, i3, i4, i5⟩ | ⟨i1, i2, i3⟩
  · obtain ⟨s3, es3⟩ : ∃ s3, s3 = zup s2 0 57 ((p + 1 + 1 : Nat) : Int) := ⟨_, rfl⟩
    have sc3 : SC c l s2 s3 := by rw [es3]; exact SC.up (Or.inl rfl)
    have f3 : s3 0 57 = ((p + 1 + 1 : Nat) : Int) := by rw [es3]; rfl
    have f63 : s3 0 60 = s 0 60 := by rw [es3]; exact f60
    have sc23 := sc2.tr sc3 (Nat.le_refl _)
    obtain ⟨v, H3, u1, u2, u3⟩ := e_num ct2 i5 i4
    have ct3 := ct2.cw u2
    have w3 := (r2.tr t2).tr u2
    obtain ⟨dr, s4, o1, o2, o3⟩ := m_digits (lk2.sc sc3) f3 i5
    have sc4 : SC c l s s4 := sc23.tr (SC.of (l := l) o2) (Nat.le_refl _)
    have i2' : i < 2 := i2
    have nz := nmb_le (n := n) (f := f) 3 (p + 1 + 1) 0
    rcases (show i = 0 ∨ i = 1 by omega) with rfl | rfl
    · have q1 : q = 0 := i1
      rw [q1] at t1
      have g3 : chr1 n f (p + 1) = 60 := i3
      have z3 := (z2 60 (by omega) (by omega)).mpr g3
      have ec : sgB E F C (d : Int) H = some (bi (decide (zct H3 C 9 < v)), H3) := by
        unfold sgB
        simp only [yjn, yck, ct.1.1, ct1.1.1, ct2.1.1, ct3.1.1, zA1, if_true, r1, ybd_s, show ¬ (1 : Int) = 0 by decide, show ¬ (2 : Int) < 1 by decide, show ¬ (1 : Int) = 0 by decide, if_false, t1, u1, ygi, e_cmp]
      rcases u3 with ⟨a1, a2, a3, a4, a5⟩ | ⟨a1, a2⟩
      · rcases o3 with ⟨b1, b2, b3, b4⟩ | ⟨b1, b2, b3⟩
        · obtain ⟨s5, y1, y2, y3, y4, y5, y6⟩ := m_lay (s := s4) (c := c) (l := l) (w := 2) (x := s4 0 61) ((sc4 0 59 (by omega) (by omega)).trans e3) c12 ((o2 0 58 (by omega)).trans (by rw [es3, es2]; exact e2)) (by omega)
          have f60' : s4 0 60 = s 0 60 := (o2 0 60 (by omega)).trans f63
          refine ⟨bi (decide (zct H C 9 < v)), H3, 1, s5, ?_, ?_, ⟨w3, sc4.tr y2 (Nat.le_refl _)⟩, Or.inl ⟨rfl, (nmb n f 3 (p + 1 + 1) 0).2, l + 1, _, ⟨by omega, a4, by omega, by omega⟩, ⟨a3, (y4 57 (by omega)).trans b3, y3, (y4 60 (by omega)).trans f60'⟩, CV.one (fun st => ?_), rfl⟩⟩
          · rw [ec, w3.2.2 9 (by omega)]
          · unfold gM_factor_b
            simp only [yjn, x1, ybd_s, g', show ¬ (121 : Int) = 33 by decide, show ¬ (121 : Int) = 40 by decide, show ¬ (121 : Int) = 120 by decide, if_false, if_true, yvl, m_next e1 (by omega), ← es2, z1, z3, m_next f2 (by omega), ← es3, o1, b2, show ¬ (1 : Int) = 0 by decide, y1]
          · show stepC _ _ _ (s5 55 (140 * c + l)) (s5 56 (140 * c + l)) st = _
            rw [y5, y6, b4, a2]
            rfl
        · exact absurd a1 b1
      · rcases o3 with ⟨b1, b2, b3, b4⟩ | ⟨b1, b2, b3⟩
        · exact absurd b1 a1
        · refine ⟨_, H3, 0, s4, ec, ?_, ⟨w3, sc4⟩, Or.inr ⟨rfl, bi_01 _, p + 1 + 1, i5, a2, b3⟩⟩
          unfold gM_factor_b
          simp only [yjn, x1, ybd_s, g', show ¬ (121 : Int) = 33 by decide, show ¬ (121 : Int) = 40 by decide, show ¬ (121 : Int) = 120 by decide, if_false, if_true, yvl, m_next e1 (by omega), ← es2, z1, z3, m_next f2 (by omega), ← es3, o1, b2]
    · have q1 : q = 1 := i1
      rw [q1] at t1
      have g3 : chr1 n f (p + 1) = 62 := i3
      have z3 := (z2 62 (by omega) (by omega)).mpr g3
      have ec : sgB E F C (d : Int) H = some (bi (decide (v < zct H3 C 9)), H3) := by
        unfold sgB
        simp only [yjn, yck, ct.1.1, ct1.1.1, ct2.1.1, ct3.1.1, zA1, if_true, r1, ybd_s, show ¬ (1 : Int) = 0 by decide, show ¬ (2 : Int) < 1 by decide, show ¬ (1 : Int) = 0 by decide, if_false, t1, u1, ygi, e_cmp]
      rcases u3 with ⟨a1, a2, a3, a4, a5⟩ | ⟨a1, a2⟩
      · rcases o3 with ⟨b1, b2, b3, b4⟩ | ⟨b1, b2, b3⟩
        · obtain ⟨s5, y1, y2, y3, y4, y5, y6⟩ := m_lay (s := s4) (c := c) (l := l) (w := 3) (x := s4 0 61) ((sc4 0 59 (by omega) (by omega)).trans e3) c12 ((o2 0 58 (by omega)).trans (by rw [es3, es2]; exact e2)) (by omega)
          have f60' : s4 0 60 = s 0 60 := (o2 0 60 (by omega)).trans f63
          refine ⟨bi (decide (v < zct H C 9)), H3, 1, s5, ?_, ?_, ⟨w3, sc4.tr y2 (Nat.le_refl _)⟩, Or.inl ⟨rfl, (nmb n f 3 (p + 1 + 1) 0).2, l + 1, _, ⟨by omega, a4, by omega, by omega⟩, ⟨a3, (y4 57 (by omega)).trans b3, y3, (y4 60 (by omega)).trans f60'⟩, CV.one (fun st => ?_), rfl⟩⟩
          · rw [ec, w3.2.2 9 (by omega)]
          · unfold gM_factor_b
            simp only [yjn, x1, ybd_s, g', show ¬ (121 : Int) = 33 by decide, show ¬ (121 : Int) = 40 by decide, show ¬ (121 : Int) = 120 by decide, if_false, if_true, yvl, m_next e1 (by omega), ← es2, z1, z3, show ¬ (62 : Int) = 60 by decide, m_next f2 (by omega), ← es3, o1, b2, show ¬ (1 : Int) = 0 by decide, y1]
          · show stepC _ _ _ (s5 55 (140 * c + l)) (s5 56 (140 * c + l)) st = _
            rw [y5, y6, b4, a2]
            rfl
        · exact absurd a1 b1
      · rcases o3 with ⟨b1, b2, b3, b4⟩ | ⟨b1, b2, b3⟩
        · exact absurd b1 a1
        · refine ⟨_, H3, 0, s4, ec, ?_, ⟨w3, sc4⟩, Or.inr ⟨rfl, bi_01 _, p + 1 + 1, i5, a2, b3⟩⟩
          unfold gM_factor_b
          simp only [yjn, x1, ybd_s, g', show ¬ (121 : Int) = 33 by decide, show ¬ (121 : Int) = 40 by decide, show ¬ (121 : Int) = 120 by decide, if_false, if_true, yvl, m_next e1 (by omega), ← es2, z1, z3, show ¬ (62 : Int) = 60 by decide, m_next f2 (by omega), ← es3, o1, b2]
  · have h0 : chr1 n f (p + 1) ≠ 60 := i2 0 (by decide)
    have h1 : chr1 n f (p + 1) ≠ 62 := i2 1 (by decide)
    rw [i1] at t1
    obtain ⟨v, H3, u1, u2, u3⟩ := e_num1 ct2 i3
    have ct3 := ct2.cw u2
    refine ⟨bi (decide (v < zct H3 C 9)), H3, 0, s2, ?_, ?_, ⟨(r2.tr t2).tr u2, sc2⟩, Or.inr ⟨rfl, bi_01 _, p + 1, pn, u3, f2⟩⟩
    · unfold sgB
      simp only [yjn, yck, ct.1.1, ct1.1.1, ct2.1.1, ct3.1.1, zA1, if_true, r1, ybd_s, show ¬ (1 : Int) = 0 by decide, show ¬ (2 : Int) < 1 by decide, show ¬ (-1 : Int) = 0 by decide, if_false, t1, u1, ygi, e_cmp]
    · unfold gM_factor_b
      simp only [yjn, x1, ybd_s, g', show ¬ (121 : Int) = 33 by decide, show ¬ (121 : Int) = 40 by decide, show ¬ (121 : Int) = 120 by decide, if_false, if_true, yvl, m_next e1 (by omega), ← es2, z1, show ¬ z = 60 from fun w => h0 ((z2 60 (by omega) (by omega)).mp w), show ¬ z = 62 from fun w => h1 ((z2 62 (by omega) (by omega)).mp w)]
/-- m, a sign and a number -/
theorem single_m (c12 : c ≤ 12) (h : PRE c C n f E d p l H s) (g : chr1 n f p = 109) {H1 : zHp} (r1 : fContract_pick C (E 9) H = some (2, H1)) (r2 : CP C H H1) (j4 : PS H1 C (p + 1) 0) (pn : p < n) : ∃ r H' v s', sgB E F C (d : Int) H = some (r, H') ∧ gM_factor_b G s = some (v, s') ∧ RES c C n p l H s r H' v s' := by
  obtain ⟨ct, ⟨ps, p1, p2⟩, lk, ⟨e1, e2, e3, e4⟩, d8⟩ := id h
  have n120 := lk.2.1
  have ct1 := ct.cw r2
  obtain ⟨x, x1, x2⟩ := m_look lk e1
  have g' := (x2 109 (by omega) (by omega)).mpr g
  obtain ⟨s2, es2⟩ : ∃ s2, s2 = zup s 0 57 ((p + 1 : Nat) : Int) := ⟨_, rfl⟩
  have sc2 : SC c l s s2 := by rw [es2]; exact SC.up (Or.inl rfl)
  have f2 : s2 0 57 = ((p + 1 : Nat) : Int) := by rw [es2]; rfl
  have f60 : s2 0 60 = s 0 60 := by rw [es2]; rfl
  have lk2 := lk.sc sc2
  obtain ⟨z, z1, z2⟩ := m_look lk2 f2
  obtain ⟨q, H2, t1, t2, t3⟩ := e_pick0 ct1 j4 pn (i := 11) (by omega)
  have ct2 := ct1.cw t2
  rcases t3 with ⟨i, i1, i2, i3, i4, i5⟩ | ⟨i1, i2, i3⟩
  · obtain ⟨s3, es3⟩ : ∃ s3, s3 = zup s2 0 57 ((p + 1 + 1 : Nat) : Int) := ⟨_, rfl⟩
    have sc3 : SC c l s2 s3 := by rw [es3]; exact SC.up (Or.inl rfl)
    have f3 : s3 0 57 = ((p + 1 + 1 : Nat) : Int) := by rw [es3]; rfl
    have f63 : s3 0 60 = s 0 60 := by rw [es3]; exact f60
    have sc23 := sc2.tr sc3 (Nat.le_refl _)
    obtain ⟨v, H3, u1, u2, u3⟩ := e_num ct2 i5 i4
    have ct3 := ct2.cw u2
    have w3 := (r2.tr t2).tr u2
    obtain ⟨dr, s4, o1, o2, o3⟩ := m_digits (lk2.sc sc3) f3 i5
    have sc4 : SC c l s s4 := sc23.tr (SC.of (l := l) o2) (Nat.le_refl _)
    have i2' : i < 2 := i2
    have nz := nmb_le (n := n) (f := f) 3 (p + 1 + 1) 0
    rcases (show i = 0 ∨ i = 1 by omega) with rfl | rfl
    · have q1 : q = 0 := i1
      rw [q1] at t1
      have g3 : chr1 n f (p + 1) = 60 := i3
      have z3 := (z2 60 (by omega) (by omega)).mpr g3
      have ec : sgB E F C (d : Int) H = some (bi (decide (zct H3 C 10 < v)), H3) := by
        unfold sgB
        simp only [yjn, yck, ct.1.1, ct1.1.1, ct2.1.1, ct3.1.1, zA1, if_true, r1, ybd_s, show ¬ (2 : Int) = 0 by decide, show ¬ (2 : Int) < 2 by decide, show ¬ (2 : Int) = 1 by decide, show ¬ (1 : Int) = 0 by decide, if_false, t1, u1, ygi, e_cmp]
      rcases u3 with ⟨a1, a2, a3, a4, a5⟩ | ⟨a1, a2⟩
      · rcases o3 with ⟨b1, b2, b3, b4⟩ | ⟨b1, b2, b3⟩
        · obtain ⟨s5, y1, y2, y3, y4, y5, y6⟩ := m_lay (s := s4) (c := c) (l := l) (w := 4) (x := s4 0 61) ((sc4 0 59 (by omega) (by omega)).trans e3) c12 ((o2 0 58 (by omega)).trans (by rw [es3, es2]; exact e2)) (by omega)
          have f60' : s4 0 60 = s 0 60 := (o2 0 60 (by omega)).trans f63
          refine ⟨bi (decide (zct H C 10 < v)), H3, 1, s5, ?_, ?_, ⟨w3, sc4.tr y2 (Nat.le_refl _)⟩, Or.inl ⟨rfl, (nmb n f 3 (p + 1 + 1) 0).2, l + 1, _, ⟨by omega, a4, by omega, by omega⟩, ⟨a3, (y4 57 (by omega)).trans b3, y3, (y4 60 (by omega)).trans f60'⟩, CV.one (fun st => ?_), rfl⟩⟩
          · rw [ec, w3.2.2 10 (by omega)]
          · unfold gM_factor_b
            simp only [yjn, x1, ybd_s, g', show ¬ (109 : Int) = 33 by decide, show ¬ (109 : Int) = 40 by decide, show ¬ (109 : Int) = 120 by decide, show ¬ (109 : Int) = 121 by decide, if_false, if_true, yvl, m_next e1 (by omega), ← es2, z1, z3, m_next f2 (by omega), ← es3, o1, b2, show ¬ (1 : Int) = 0 by decide, y1]
          · show stepC _ _ _ (s5 55 (140 * c + l)) (s5 56 (140 * c + l)) st = _
            rw [y5, y6, b4, a2]
            rfl
        · exact absurd a1 b1
      · rcases o3 with ⟨b1, b2, b3, b4⟩ | ⟨b1, b2, b3⟩
        · exact absurd b1 a1
        · refine ⟨_, H3, 0, s4, ec, ?_, ⟨w3, sc4⟩, Or.inr ⟨rfl, bi_01 _, p + 1 + 1, i5, a2, b3⟩⟩
          unfold gM_factor_b
          simp only [yjn, x1, ybd_s, g', show ¬ (109 : Int) = 33 by decide, show ¬ (109 : Int) = 40 by decide, show ¬ (109 : Int) = 120 by decide, show ¬ (109 : Int) = 121 by decide, if_false, if_true, yvl, m_next e1 (by omega), ← es2, z1, z3, m_next f2 (by omega), ← es3, o1, b2]
    · have q1 : q = 1 := i1
      rw [q1] at t1
      have g3 : chr1 n f (p + 1) = 62 := i3
      have z3 := (z2 62 (by omega) (by omega)).mpr g3
      have ec : sgB E F C (d : Int) H = some (bi (decide (v < zct H3 C 10)), H3) := by
        unfold sgB
        simp only [yjn, yck, ct.1.1, ct1.1.1, ct2.1.1, ct3.1.1, zA1, if_true, r1, ybd_s, show ¬ (2 : Int) = 0 by decide, show ¬ (2 : Int) < 2 by decide, show ¬ (2 : Int) = 1 by decide, show ¬ (1 : Int) = 0 by decide, if_false, t1, u1, ygi, e_cmp]
      rcases u3 with ⟨a1, a2, a3, a4, a5⟩ | ⟨a1, a2⟩
      · rcases o3 with ⟨b1, b2, b3, b4⟩ | ⟨b1, b2, b3⟩
        · obtain ⟨s5, y1, y2, y3, y4, y5, y6⟩ := m_lay (s := s4) (c := c) (l := l) (w := 5) (x := s4 0 61) ((sc4 0 59 (by omega) (by omega)).trans e3) c12 ((o2 0 58 (by omega)).trans (by rw [es3, es2]; exact e2)) (by omega)
          have f60' : s4 0 60 = s 0 60 := (o2 0 60 (by omega)).trans f63
          refine ⟨bi (decide (v < zct H C 10)), H3, 1, s5, ?_, ?_, ⟨w3, sc4.tr y2 (Nat.le_refl _)⟩, Or.inl ⟨rfl, (nmb n f 3 (p + 1 + 1) 0).2, l + 1, _, ⟨by omega, a4, by omega, by omega⟩, ⟨a3, (y4 57 (by omega)).trans b3, y3, (y4 60 (by omega)).trans f60'⟩, CV.one (fun st => ?_), rfl⟩⟩
          · rw [ec, w3.2.2 10 (by omega)]
          · unfold gM_factor_b
            simp only [yjn, x1, ybd_s, g', show ¬ (109 : Int) = 33 by decide, show ¬ (109 : Int) = 40 by decide, show ¬ (109 : Int) = 120 by decide, show ¬ (109 : Int) = 121 by decide, if_false, if_true, yvl, m_next e1 (by omega), ← es2, z1, z3, show ¬ (62 : Int) = 60 by decide, m_next f2 (by omega), ← es3, o1, b2, show ¬ (1 : Int) = 0 by decide, y1]
          · show stepC _ _ _ (s5 55 (140 * c + l)) (s5 56 (140 * c + l)) st = _
            rw [y5, y6, b4, a2]
            rfl
        · exact absurd a1 b1
      · rcases o3 with ⟨b1, b2, b3, b4⟩ | ⟨b1, b2, b3⟩
        · exact absurd b1 a1
        · refine ⟨_, H3, 0, s4, ec, ?_, ⟨w3, sc4⟩, Or.inr ⟨rfl, bi_01 _, p + 1 + 1, i5, a2, b3⟩⟩
          unfold gM_factor_b
          simp only [yjn, x1, ybd_s, g', show ¬ (109 : Int) = 33 by decide, show ¬ (109 : Int) = 40 by decide, show ¬ (109 : Int) = 120 by decide, show ¬ (109 : Int) = 121 by decide, if_false, if_true, yvl, m_next e1 (by omega), ← es2, z1, z3, show ¬ (62 : Int) = 60 by decide, m_next f2 (by omega), ← es3, o1, b2]
  · have h0 : chr1 n f (p + 1) ≠ 60 := i2 0 (by decide)
    have h1 : chr1 n f (p + 1) ≠ 62 := i2 1 (by decide)
    rw [i1] at t1
    obtain ⟨v, H3, u1, u2, u3⟩ := e_num1 ct2 i3
    have ct3 := ct2.cw u2
    refine ⟨bi (decide (v < zct H3 C 10)), H3, 0, s2, ?_, ?_, ⟨(r2.tr t2).tr u2, sc2⟩, Or.inr ⟨rfl, bi_01 _, p + 1, pn, u3, f2⟩⟩
    · unfold sgB
      simp only [yjn, yck, ct.1.1, ct1.1.1, ct2.1.1, ct3.1.1, zA1, if_true, r1, ybd_s, show ¬ (2 : Int) = 0 by decide, show ¬ (2 : Int) < 2 by decide, show ¬ (2 : Int) = 1 by decide, show ¬ (-1 : Int) = 0 by decide, if_false, t1, u1, ygi, e_cmp]
    · unfold gM_factor_b
      simp only [yjn, x1, ybd_s, g', show ¬ (109 : Int) = 33 by decide, show ¬ (109 : Int) = 40 by decide, show ¬ (109 : Int) = 120 by decide, show ¬ (109 : Int) = 121 by decide, if_false, if_true, yvl, m_next e1 (by omega), ← es2, z1, show ¬ z = 60 from fun w => h0 ((z2 60 (by omega) (by omega)).mp w), show ¬ z = 62 from fun w => h1 ((z2 62 (by omega) (by omega)).mp w)]
end SINGLE
