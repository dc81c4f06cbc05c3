/-! CONDITIONS: class and reference read them side by side -/
theorem bi_t : bi true = 1 := rfl
theorem bi_f : bi false = 0 := rfl
theorem bi_01 (b : Bool) : bi b = 0 ∨ bi b = 1 := by cases b <;> simp [bi]
theorem e_cmp {a b : Int} {H : zHp} : (if a < b then some ((1 : Int), H) else some (0, H)) = some (bi (decide (a < b)), H) := by
  by_cases h : a < b
  · rw [if_pos h, decide_eq_true h]; rfl
  · rw [if_neg h, decide_eq_false h]; rfl
theorem yrb_bi {b : Bool} {H : zHp} : yrb (bi b) H = some (bi b, H) := by cases b <;> rfl
/-- where both stand ahead of a piece -/
def PRE (c C n : Nat) (f : Nat → Int) (E : Nat → Nat) (d p l : Nat) (H : zHp) (s : zSg) : Prop := CT H C n f E ∧ (PS H C p 0 ∧ p ≤ n ∧ l ≤ p) ∧ LK s n f ∧ (s 0 57 = (p : Int) ∧ s 0 58 = (l : Int) ∧ s 0 59 = (c : Int) ∧ s 0 60 = (d : Int)) ∧ (zct H C 8 = 0 ∨ zct H C 8 = 1)
/-- what a piece comes to -/
def RES (c C n p l : Nat) (H : zHp) (s : zSg) (r : Int) (H' : zHp) (v : Int) (s' : zSg) : Prop := (CP C H H' ∧ SC c l s s') ∧
  ((v = 1 ∧ ∃ (q l' : Nat) (b : Bool), (p < q ∧ q ≤ n ∧ l < l' ∧ l' + p ≤ q + l) ∧ (PS H' C q 0 ∧ s' 0 57 = (q : Int) ∧ s' 0 58 = (l' : Int) ∧ s' 0 60 = s 0 60) ∧ CV (sh (s' 55) (140 * c)) (sh (s' 56) (140 * c)) (zct H C 8) (zct H C 9) (zct H C 10) l l' b ∧ r = bi b) ∨
   (v = 0 ∧ (r = 0 ∨ r = 1) ∧ ∃ q : Nat, q ≤ n ∧ PS H' C q 1 ∧ s' 0 57 = (q : Int)))
def FS (c C n : Nat) (f : Nat → Int) (E : Nat → Nat) (d : Nat) (Fc : Nat → Int → zHp → Option (Int × zHp)) (Fr : zSg → Option (Int × zSg)) : Prop :=
  ∀ p l H s, PRE c C n f E d p l H s → ∃ r H' v s', Fc C (d : Int) H = some (r, H') ∧ Fr s = some (v, s') ∧ RES c C n p l H s r H' v s'
theorem PRE.to {c C n d p l d' q l' l0 : Nat} {f : Nat → Int} {E : Nat → Nat} {H H' : zHp} {s s' : zSg} (h : PRE c C n f E d p l H s) (w : CP C H H') (r : SC c l0 s s') (ps : PS H' C q 0) (hq : q ≤ n) (hl : l' ≤ q) (e57 : s' 0 57 = (q : Int)) (e58 : s' 0 58 = (l' : Int)) (e60 : s' 0 60 = (d' : Int)) : PRE c C n f E d' q l' H' s' :=
  ⟨h.1.cw w, ⟨ps, hq, hl⟩, h.2.2.1.sc r, ⟨e57, e58, (r 0 59 (by omega) (by omega)).trans h.2.2.2.1.2.2.1, e60⟩, by rw [w.2.2 8 (by omega)]; exact h.2.2.2.2⟩
/-- the code of the rows ahead stands -/
theorem CV.sc {c a b l : Nat} {d y z : Int} {v : Bool} {s s' : zSg} (h : CV (sh (s 55) (140 * c)) (sh (s 56) (140 * c)) d y z a b v) (r : SC c l s s') (hb : b ≤ l) : CV (sh (s' 55) (140 * c)) (sh (s' 56) (140 * c)) d y z a b v := h.eq fun j h1 h2 => ⟨r 55 _ (by omega) (by omega), r 56 _ (by omega) (by omega)⟩
section COND
variable {c C n d : Nat} {f : Nat → Int} {E : Nat → Nat} {Fc : Nat → Int → zHp → Option (Int × zHp)} {Fr : zSg → Option (Int × zSg)}
/-- the class behind a group -/
noncomputable def clX (E : Nat → Nat) (Fc : Nat → Int → zHp → Option (Int × zHp)) (g C : Nat) (dep : Int) (n : Nat) (f : Nat → Int) (q : Nat) (any : Bool) (k : Nat) (H : zHp) : Option (Int × zHp) :=
  if chr1 n f q = 124 then fContract_condition_l1 E Fc g C dep (bi any) 1 ((k + 1 : Nat) : Int) (zwr H C 3 ((q + 1 : Nat) : Int)) else some (bi any, H)
/-- the class behind a single one -/
noncomputable def clM (E : Nat → Nat) (Fc : Nat → Int → zHp → Option (Int × zHp)) (g C : Nat) (dep : Int) (n : Nat) (f : Nat → Int) (q : Nat) (any all : Bool) (k : Nat) (H : zHp) : Option (Int × zHp) :=
  if chr1 n f q = 38 then fContract_condition_l1 E Fc g C dep (bi any) (bi all) ((k + 1 : Nat) : Int) (zwr H C 3 ((q + 1 : Nat) : Int)) else clX E Fc g C dep n f q (any || all) k H
theorem e_cond_step {H H1 : zHp} {dep : Int} {q k g : Nat} {a b w : Bool} (ct : CT H1 C n f E) (ps : PS H1 C q 0) (hq : q ≤ n) (hf : Fc C dep H = some (bi w, H1)) (hH : ztg H C = 2) (hk : k < 120) : fContract_condition_l1 E Fc (g + 1) C dep (bi a) (bi b) (k : Int) H = clM E Fc g C dep n f q a (b && w) k H1 := by
  have S1 := e_sees0 ct ps (u := 38) (by omega)
  have S2 := e_sees0 ct ps (u := 124) (by omega)
  have n120 := ct.1.2.2.2.2
  have ep : zadd (q : Int) 1 = ((q + 1 : Nat) : Int) := by rw [zadd_e (by omega) (by omega)]; omega
  have ek : zadd (k : Int) 1 = ((k + 1 : Nat) : Int) := by rw [zadd_e (by omega) (by omega)]; omega
  have hk' : (k : Int) < 120 := by omega
  have n1 : ¬ (1 : Int) = 0 := by decide
  have y0 : yrb 0 H1 = some (0, H1) := rfl
  have y1 : yrb 1 H1 = some (1, H1) := rfl
  unfold clM clX
  rw [fContract_condition_l1]
  by_cases c1 : chr1 n f q = 38
  · rw [if_pos c1] at S1
    rw [if_pos c1]
    cases a <;> cases b <;> cases w <;> simp only [yjn, yvl, hk', if_true, if_false, yck, hH, ct.1.1, zA1, hf, ybd_s, S1, ygi, ypi, ps.1, ep, ek, bi_t, bi_f, n1, Bool.and_true, Bool.and_false]
  · rw [if_neg c1] at S1
    rw [if_neg c1]
    by_cases c2 : chr1 n f q = 124
    · rw [if_pos c2] at S2
      rw [if_pos c2]
      cases a <;> cases b <;> cases w <;> simp only [yjn, yvl, hk', if_true, if_false, yck, hH, ct.1.1, zA1, hf, ybd_s, S1, S2, ygi, ypi, ps.1, ep, ek, bi_t, bi_f, n1, Bool.and_true, Bool.and_false, Bool.or_true, Bool.or_false]
    · rw [if_neg c2] at S2
      rw [if_neg c2]
      cases a <;> cases b <;> cases w <;> simp only [yjn, yvl, hk', if_true, if_false, yck, hH, ct.1.1, zA1, hf, ybd_s, S1, S2, ygi, ypi, ps.1, ep, ek, bi_t, bi_f, n1, Bool.and_true, Bool.and_false, Bool.or_true, Bool.or_false, y0, y1]
theorem e_condF {H H1 : zHp} {dep v : Int} {q k g : Nat} {a b : Bool} (ct : CT H1 C n f E) (ps : PS H1 C q 1) (hf : Fc C dep H = some (v, H1)) (hv : v = 0 ∨ v = 1) (hH : ztg H C = 2) (hk : k < 120) : ∃ r, fContract_condition_l1 E Fc (g + 1) C dep (bi a) (bi b) (k : Int) H = some (r, H1) ∧ (r = 0 ∨ r = 1) := by
  have S1 := e_sees1 ct ps (u := 38)
  have S2 := e_sees1 ct ps (u := 124)
  have hk' : (k : Int) < 120 := by omega
  have n1 : ¬ (1 : Int) = 0 := by decide
  have y0 : yrb 0 H1 = some (0, H1) := rfl
  have y1 : yrb 1 H1 = some (1, H1) := rfl
  obtain ⟨w, rfl⟩ : ∃ w, v = bi w := by
    rcases hv with e | e
    · exact ⟨false, e⟩
    · exact ⟨true, e⟩
  refine ⟨bi (a || (b && w)), ?_, bi_01 _⟩
  rw [fContract_condition_l1]
  cases a <;> cases b <;> cases w <;> simp only [yjn, yvl, hk', if_true, if_false, yck, hH, ct.1.1, zA1, hf, ybd_s, S1, S2, bi_t, bi_f, n1, Bool.and_true, Bool.and_false, Bool.or_true, Bool.or_false, y0, y1]
/-- a sign is gone over -/
theorem PRE.go {p l : Nat} {H : zHp} {s : zSg} (h : PRE c C n f E d p l H s) (hp : p < n) : PRE c C n f E d (p + 1) l (zwr H C 3 ((p + 1 : Nat) : Int)) (zup s 0 57 ((p + 1 : Nat) : Int)) := by
  obtain ⟨ct, ⟨ps, p1, p2⟩, lk, ⟨e1, e2, e3, e4⟩, d8⟩ := id h
  exact h.to (CP.wr (by omega)) (SC.up (l := l) (Or.inl rfl)) ps.go hp (by omega) rfl e2 e4
theorem m_next {p : Nat} {s : zSg} (e : s 0 57 = (p : Int)) (hp : p < 200) : zadd (s 0 57) 1 = ((p + 1 : Nat) : Int) := by rw [e, zadd_e (by omega) (by omega)]; omega
theorem b_tail (c12 : c ≤ 12) (hF : FS c C n f E d Fc Fr) : ∀ (m q l a0 g g' k : Nat) (any b : Bool) (H : zHp) (s : zSg), n - q < m → PRE c C n f E d q l H s → 2 * k + 1 ≤ q → CV (sh (s 55) (140 * c)) (sh (s 56) (140 * c)) (zct H C 8) (zct H C 9) (zct H C 10) a0 l b → m ≤ g' → 61 ≤ g + k →
    ∃ H' v s', gM_both_l1 Fr g' s = some (v, s') ∧ (CP C H H' ∧ SC c l s s') ∧
      ((v = 1 ∧ ∃ (q2 l2 g2 k2 : Nat) (b2 : Bool), clM E Fc g C (d : Int) n f q any b k H = clX E Fc g2 C (d : Int) n f q2 (any || b2) k2 H' ∧ (q ≤ q2 ∧ q2 ≤ n ∧ l ≤ l2 ∧ l2 + q ≤ q2 + l) ∧ (PS H' C q2 0 ∧ s' 0 57 = (q2 : Int) ∧ s' 0 58 = (l2 : Int) ∧ s' 0 60 = (d : Int)) ∧ CV (sh (s' 55) (140 * c)) (sh (s' 56) (140 * c)) (zct H C 8) (zct H C 9) (zct H C 10) a0 l2 b2 ∧ 2 * k2 + 1 ≤ q2 ∧ 61 ≤ g2 + k2) ∨
       (v = 0 ∧ ∃ (r : Int) (q2 : Nat), clM E Fc g C (d : Int) n f q any b k H = some (r, H') ∧ (r = 0 ∨ r = 1) ∧ q2 ≤ n ∧ PS H' C q2 1 ∧ s' 0 57 = (q2 : Int))) := by
  intro m
  induction m with
  | zero => intro q l a0 g g' k any b H s h1; exact absurd h1 (Nat.not_lt_zero _)
  | succ m ih =>
    intro q l a0 g g' k any b H s h1 h2 h3 h4 h5 h6
    obtain ⟨ct, ⟨ps, p1, p2⟩, lk, ⟨e1, e2, e3, e4⟩, d8⟩ := id h2
    have n120 := lk.2.1
    obtain ⟨g', rfl⟩ : ∃ g'', g' = g'' + 1 := ⟨g' - 1, by omega⟩
    obtain ⟨x, x1, x2⟩ := m_look lk e1
    by_cases c1 : chr1 n f q = 38
    · have x38 : x = 38 := (x2 38 (by omega) (by omega)).mpr c1
      have qn : q < n := chr_lt (n := n) (f := f) (p := q) (by omega)
      obtain ⟨g, rfl⟩ : ∃ g'', g = g'' + 1 := ⟨g - 1, by omega⟩
      have h2' := h2.go qn
      obtain ⟨H2, eH2⟩ : ∃ H2, H2 = zwr H C 3 ((q + 1 : Nat) : Int) := ⟨_, rfl⟩
      obtain ⟨s2, es2⟩ : ∃ s2, s2 = zup s 0 57 ((q + 1 : Nat) : Int) := ⟨_, rfl⟩
      have w2 : CP C H H2 := by rw [eH2]; exact CP.wr (by omega)
      have r2 : SC c l s s2 := by rw [es2]; exact SC.up (Or.inl rfl)
      rw [← eH2, ← es2] at h2'
      obtain ⟨r, H3, v, s3, f1, f2, ⟨f3, f4⟩, f5⟩ := hF (q + 1) l H2 s2 h2'
      have ct3 := h2'.1.cw f3
      have em : clM E Fc (g + 1) C (d : Int) n f q any b k H = fContract_condition_l1 E Fc (g + 1) C (d : Int) (bi any) (bi b) ((k + 1 : Nat) : Int) H2 := by
        unfold clM
        rw [if_pos c1, eH2]
      have er : gM_both_l1 Fr (g' + 1) s = if v = 0 then some (0, s3) else ybd (gM_lay 7 0 s3) fun _ s9 => gM_both_l1 Fr g' s9 := by
        rw [gM_both_l1]
        simp only [x1, ybd_s, x38, if_true, yvl, m_next e1 (by omega), ← es2, f2]
      rcases f5 with ⟨v1, q3, l3, w, ⟨b1, b2, b3, b4⟩, ⟨t1, t2, t3, t4⟩, cv, rw1⟩ | ⟨v0, rr, q3, b1, t1, t2⟩
      · obtain ⟨s4, y1, y2, y3, y4, y5, y6⟩ := m_lay (s := s3) (c := c) (l := l3) (w := 7) (x := 0) ((f4 0 59 (by omega) (by omega)).trans h2'.2.2.2.1.2.2.1) c12 t3 (by omega)
        have r4 : SC c l s s4 := (r2.tr f4 (Nat.le_refl _)).tr y2 (by omega)
        have w3 := w2.tr f3
        have cva : CV (sh (s4 55) (140 * c)) (sh (s4 56) (140 * c)) (zct H C 8) (zct H C 9) (zct H C 10) a0 l b := h4.sc r4 (Nat.le_refl _)
        have cvb : CV (sh (s4 55) (140 * c)) (sh (s4 56) (140 * c)) (zct H C 8) (zct H C 9) (zct H C 10) l l3 w := by
          have := cv.sc y2 (Nat.le_refl _)
          rw [w2.2.2 8 (by omega), w2.2.2 9 (by omega), w2.2.2 10 (by omega)] at this
          exact this
        have cvc := cva.both cvb (show sh (s4 55) (140 * c) l3 = 7 from y5)
        have h4' : PRE c C n f E d q3 (l3 + 1) H3 s4 := h2'.to f3 (f4.tr y2 (by omega)) t1 b2 (by omega) ((y4 57 (by omega)).trans t2) y3 ((y4 60 (by omega)).trans (t4.trans h2'.2.2.2.1.2.2.2))
        rw [← w3.2.2 8 (by omega), ← w3.2.2 9 (by omega), ← w3.2.2 10 (by omega)] at cvc
        obtain ⟨H', v', s', i1, ⟨i2, i3⟩, i4⟩ := ih q3 (l3 + 1) a0 g g' (k + 1) any (b && w) H3 s4 (by omega) h4' (by omega) cvc (by omega) (by omega)
        have es : clM E Fc (g + 1) C (d : Int) n f q any b k H = clM E Fc g C (d : Int) n f q3 any (b && w) (k + 1) H3 := by
          rw [em]
          rw [rw1] at f1
          exact e_cond_step ct3 t1 b2 f1 h2'.1.1.1 (by omega)
        refine ⟨H', v', s', ?_, ⟨w3.tr i2, r4.tr i3 (by omega)⟩, ?_⟩
        · rw [er, v1, if_neg (by decide), y1, ybd_s]
          exact i1
        · rw [es]
          rw [w3.2.2 8 (by omega), w3.2.2 9 (by omega), w3.2.2 10 (by omega)] at i4
          rcases i4 with ⟨j1, q4, l4, g2, k2, b2', j2, ⟨j3, j4, j5, j6⟩, j7⟩ | j
          · exact Or.inl ⟨j1, q4, l4, g2, k2, b2', j2, ⟨by omega, j4, by omega, by omega⟩, j7⟩
          · exact Or.inr j
      · obtain ⟨r', z1, z2⟩ := e_condF (E := E) (Fc := Fc) (a := any) (b := b) (k := k + 1) (g := g) ct3 t1 f1 rr h2'.1.1.1 (by omega)
        refine ⟨H3, 0, s3, ?_, ⟨w2.tr f3, r2.tr f4 (Nat.le_refl _)⟩, Or.inr ⟨rfl, r', q3, ?_, z2, b1, t1, t2⟩⟩
        · rw [er, v0, if_pos rfl]
        · rw [em]
          exact z1
    · refine ⟨H, 1, s, ?_, ⟨CP.rf, SC.rf⟩, Or.inl ⟨rfl, q, l, g, k, b, ?_, ⟨Nat.le_refl _, p1, Nat.le_refl _, by omega⟩, ⟨ps, e1, e2, e4⟩, h4, h3, h6⟩⟩
      · rw [gM_both_l1, x1, ybd_s, if_neg (fun w => c1 ((x2 38 (by omega) (by omega)).mp w))]
      · unfold clM
        rw [if_neg c1]
end COND
