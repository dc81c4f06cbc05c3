/-! CLAUSES: one clause -/
section CLAUSE3
variable {c C n p l i : Nat} {f : Nat → Int} {E : Nat → Nat} {H : zHp} {s : zSg} {pa ac : Int}
/-- what a good clause comes to -/
def CLO (c C l i : Nat) (pa ac : Int) (H : zHp) (s : zSg) (H' : zHp) (s' : zSg) (l' : Nat) : Prop := (l' = l ∧ TRM c C H s H' s') ∨ SHR c C l i pa ac (s' 50 (8 * c + i)) (s' 51 (8 * c + i)) H s H' s' l'
/-- the reference behind the two first signs of a share -/
theorem m_share {who act : Int} (c12 : c ≤ 12) (h : PRC c C n f E p l i H s) {u u2 : Int} (pn : p + 1 < n) (g1 : (u = 97 ∧ who = 0) ∨ (u = 114 ∧ who = 1)) (g2 : (u2 = 115 ∧ act = 0) ∨ (u2 = 104 ∧ act = 1) ∨ (u2 = 112 ∧ act = 2)) (c1 : chr1 n f p = u) (c2 : chr1 n f (p + 1) = u2) :
    gM_share s = rB ((8 * c + i : Nat) : Int) (zup (zup (zup (zup s 50 (8 * c + i) who) 0 57 ((p + 1 : Nat) : Int)) 51 (8 * c + i) act) 0 57 ((p + 1 + 1 : Nat) : Int)) := by
  obtain ⟨ct, ⟨ps, p1, p2⟩, lk, ⟨e1, e2, e3⟩, d8, e49, i7⟩ := id h
  have n120 := lk.2.1
  obtain ⟨x, x1, x2⟩ := m_look lk e1
  obtain ⟨s1, es1⟩ : ∃ s1, s1 = zup s 50 (8 * c + i) who := ⟨_, rfl⟩
  obtain ⟨s2, es2⟩ : ∃ s2, s2 = zup s1 0 57 ((p + 1 : Nat) : Int) := ⟨_, rfl⟩
  obtain ⟨s3, es3⟩ : ∃ s3, s3 = zup s2 51 (8 * c + i) act := ⟨_, rfl⟩
  obtain ⟨s4, es4⟩ : ∃ s4, s4 = zup s3 0 57 ((p + 1 + 1 : Nat) : Int) := ⟨_, rfl⟩
  have f1 : s1 0 57 = (p : Int) := by rw [es1]; exact e1
  have f2 : s2 0 57 = ((p + 1 : Nat) : Int) := by rw [es2]; rfl
  have f3 : s3 0 57 = ((p + 1 : Nat) : Int) := by rw [es3]; exact f2
  have lk2 : LK s2 n f := by
    have : SCL c i l s s2 := by
      rw [es2, es1]
      exact (SCL.up (i := i) (l := l) (by omega)).tr (SCL.up (by omega)) (Nat.le_refl _) (Nat.le_refl _)
    exact lk.scl this
  obtain ⟨y, y1, y2⟩ := m_look lk2 f2
  have er : zadd (zmul 8 (c : Int)) (i : Int) = ((8 * c + i : Nat) : Int) := by rw [zmul_e (by omega) (by omega), zadd_e (by omega) (by omega)]; omega
  rw [← es1, ← es2, ← es3, ← es4]
  unfold gM_share
  rcases g1 with ⟨rfl, rfl⟩ | ⟨rfl, rfl⟩
  · have hx := (x2 97 (by omega) (by omega)).mpr c1
    rcases g2 with ⟨rfl, rfl⟩ | ⟨rfl, rfl⟩ | ⟨rfl, rfl⟩
    · have hy := (y2 115 (by omega) (by omega)).mpr c2
      simp only [yjn, yvl, e3, yrd_n (show c < 13 by omega), e49, er, x1, ybd_s, hx, if_true, if_false, ywi_n (show 8 * c + i < 104 by omega), ← es1, m_next f1 (by omega), ← es2, y1, hy, ← es3, m_next f3 (by omega), ← es4]
      unfold rB shK shQ
      simp only [yvl, ywi_n (show 8 * c + i < 104 by omega)]
      rfl
    · have hy := (y2 104 (by omega) (by omega)).mpr c2
      simp only [yjn, yvl, e3, yrd_n (show c < 13 by omega), e49, er, x1, ybd_s, hx, if_true, if_false, ywi_n (show 8 * c + i < 104 by omega), ← es1, m_next f1 (by omega), ← es2, y1, hy, show ¬ (104 : Int) = 115 by decide, ← es3, m_next f3 (by omega), ← es4]
      unfold rB shK shQ
      simp only [yvl, ywi_n (show 8 * c + i < 104 by omega)]
      rfl
    · have hy := (y2 112 (by omega) (by omega)).mpr c2
      simp only [yjn, yvl, e3, yrd_n (show c < 13 by omega), e49, er, x1, ybd_s, hx, if_true, if_false, ywi_n (show 8 * c + i < 104 by omega), ← es1, m_next f1 (by omega), ← es2, y1, hy, show ¬ (112 : Int) = 115 by decide, show ¬ (112 : Int) = 104 by decide, ← es3, m_next f3 (by omega), ← es4]
      unfold rB shK shQ
      simp only [yvl, ywi_n (show 8 * c + i < 104 by omega)]
      rfl
  · have hx := (x2 114 (by omega) (by omega)).mpr c1
    rcases g2 with ⟨rfl, rfl⟩ | ⟨rfl, rfl⟩ | ⟨rfl, rfl⟩
    · have hy := (y2 115 (by omega) (by omega)).mpr c2
      simp only [yjn, yvl, e3, yrd_n (show c < 13 by omega), e49, er, x1, ybd_s, hx, show ¬ (114 : Int) = 97 by decide, if_true, if_false, ywi_n (show 8 * c + i < 104 by omega), ← es1, m_next f1 (by omega), ← es2, y1, hy, ← es3, m_next f3 (by omega), ← es4]
      unfold rB shK shQ
      simp only [yvl, ywi_n (show 8 * c + i < 104 by omega)]
      rfl
    · have hy := (y2 104 (by omega) (by omega)).mpr c2
      simp only [yjn, yvl, e3, yrd_n (show c < 13 by omega), e49, er, x1, ybd_s, hx, show ¬ (114 : Int) = 97 by decide, if_true, if_false, ywi_n (show 8 * c + i < 104 by omega), ← es1, m_next f1 (by omega), ← es2, y1, hy, show ¬ (104 : Int) = 115 by decide, ← es3, m_next f3 (by omega), ← es4]
      unfold rB shK shQ
      simp only [yvl, ywi_n (show 8 * c + i < 104 by omega)]
      rfl
    · have hy := (y2 112 (by omega) (by omega)).mpr c2
      simp only [yjn, yvl, e3, yrd_n (show c < 13 by omega), e49, er, x1, ybd_s, hx, show ¬ (114 : Int) = 97 by decide, if_true, if_false, ywi_n (show 8 * c + i < 104 by omega), ← es1, m_next f1 (by omega), ← es2, y1, hy, show ¬ (112 : Int) = 115 by decide, show ¬ (112 : Int) = 104 by decide, ← es3, m_next f3 (by omega), ← es4]
      unfold rB shK shQ
      simp only [yvl, ywi_n (show 8 * c + i < 104 by omega)]
      rfl
/-- the reference at a share whose second sign is none of its own -/
theorem m_share0 {who : Int} (c12 : c ≤ 12) (h : PRC c C n f E p l i H s) {u : Int} (pn : p < n) (g1 : (u = 97 ∧ who = 0) ∨ (u = 114 ∧ who = 1)) (c1 : chr1 n f p = u) (c2 : chr1 n f (p + 1) ≠ 115) (c3 : chr1 n f (p + 1) ≠ 104) (c4 : chr1 n f (p + 1) ≠ 112) :
    gM_share s = some (0, zup (zup s 50 (8 * c + i) who) 0 57 ((p + 1 : Nat) : Int)) := by
  obtain ⟨ct, ⟨ps, p1, p2⟩, lk, ⟨e1, e2, e3⟩, d8, e49, i7⟩ := id h
  have n120 := lk.2.1
  obtain ⟨x, x1, x2⟩ := m_look lk e1
  obtain ⟨s1, es1⟩ : ∃ s1, s1 = zup s 50 (8 * c + i) who := ⟨_, rfl⟩
  obtain ⟨s2, es2⟩ : ∃ s2, s2 = zup s1 0 57 ((p + 1 : Nat) : Int) := ⟨_, rfl⟩
  have f1 : s1 0 57 = (p : Int) := by rw [es1]; exact e1
  have f2 : s2 0 57 = ((p + 1 : Nat) : Int) := by rw [es2]; rfl
  have lk2 : LK s2 n f := by
    have : SCL c i l s s2 := by
      rw [es2, es1]
      exact (SCL.up (i := i) (l := l) (by omega)).tr (SCL.up (by omega)) (Nat.le_refl _) (Nat.le_refl _)
    exact lk.scl this
  obtain ⟨y, y1, y2⟩ := m_look lk2 f2
  have er : zadd (zmul 8 (c : Int)) (i : Int) = ((8 * c + i : Nat) : Int) := by rw [zmul_e (by omega) (by omega), zadd_e (by omega) (by omega)]; omega
  have h1 : ¬ y = 115 := fun w => c2 ((y2 115 (by omega) (by omega)).mp w)
  have h2 : ¬ y = 104 := fun w => c3 ((y2 104 (by omega) (by omega)).mp w)
  have h3 : ¬ y = 112 := fun w => c4 ((y2 112 (by omega) (by omega)).mp w)
  rw [← es1, ← es2]
  unfold gM_share
  rcases g1 with ⟨rfl, rfl⟩ | ⟨rfl, rfl⟩
  · have hx := (x2 97 (by omega) (by omega)).mpr c1
    simp only [yjn, yvl, e3, yrd_n (show c < 13 by omega), e49, er, x1, ybd_s, hx, if_true, if_false, ywi_n (show 8 * c + i < 104 by omega), ← es1, m_next f1 (by omega), ← es2, y1, h1, h2, h3]
  · have hx := (x2 114 (by omega) (by omega)).mpr c1
    simp only [yjn, yvl, e3, yrd_n (show c < 13 by omega), e49, er, x1, ybd_s, hx, show ¬ (114 : Int) = 97 by decide, if_true, if_false, ywi_n (show 8 * c + i < 104 by omega), ← es1, m_next f1 (by omega), ← es2, y1, h1, h2, h3]
theorem clause_ok (h : PRC c C n f E p l i H s) (c12 : c ≤ 12) (h7 : zct H C 7 = (i : Int)) (h11 : 0 ≤ zct H C 11 ∧ zct H C 11 ≤ 999 * (i : Int)) : ∃ H' v s', fContract_readClause E C pa ac H = some ((), H') ∧ gM_clause s = some (v, s') ∧ (CW C H H' ∧ SCL c i l s s') ∧ ((∃ l', CLG c C n p l H' v s' l' ∧ CLO c C l i pa ac H s H' s' l') ∨ CLF C n H' v s') := by
  obtain ⟨ct, ⟨ps, p1, p2⟩, lk, ⟨e1, e2, e3⟩, d8, e49, i7⟩ := id h
  have n120 := lk.2.1
  have S := e_sees0 ct ps (u := 108) (by omega)
  have n10 : ¬ (1 : Int) = 0 := by decide
  by_cases g : chr1 n f p = 108
  · rw [if_pos g] at S
    obtain ⟨H', v, s', a1, a2, a3, a4⟩ := term_ok h c12 g
    refine ⟨H', v, s', ?_, a2, a3, ?_⟩
    · unfold fContract_readClause
      simp only [yjn, yck, ct.1.1, zA1, if_true, S, ybd_s, n10, if_false, a1]
    · rcases a4 with ⟨b1, b2⟩ | b
      · exact Or.inl ⟨l, b1, Or.inl ⟨rfl, b2⟩⟩
      · exact Or.inr b
  · rw [if_neg g] at S
    obtain ⟨x, x1, x2⟩ := m_look lk e1
    obtain ⟨r, H1, r1, r2, r3⟩ := e_pick0 ct ps p1 (i := 5) (by omega)
    have ct1 := ct.cw r2
    rcases r3 with ⟨j, j1, j2, j3, j4, j5⟩ | ⟨j1, j2, j3⟩
    · have hj : j < 2 := j2
      obtain ⟨u, eu⟩ : ∃ u : Int, u = (((wds.getD 5 []).getD j 0 : Nat) : Int) := ⟨_, rfl⟩
      rw [← eu] at j3
      have gu : (u = 97 ∧ (j : Int) = 0) ∨ (u = 114 ∧ (j : Int) = 1) := by
        rcases (show j = 0 ∨ j = 1 by omega) with rfl | rfl
        · exact Or.inl ⟨eu, rfl⟩
        · exact Or.inr ⟨eu, rfl⟩
      have ecl : ∀ (v : Int) (s' : zSg), gM_share s = some (v, s') → (v = 0 ∨ v = 1) → gM_clause s = some (v, s') := fun v s' hs hv => by
        have yb : yrb v s' = some (v, s') := by
          rcases hv with rfl | rfl <;> rfl
        unfold gM_clause
        rcases gu with ⟨rfl, -⟩ | ⟨rfl, -⟩
        · have hx := (x2 97 (by omega) (by omega)).mpr j3
          simp only [yjn, x1, ybd_s, hx, if_true, hs, yb]
        · have hx := (x2 114 (by omega) (by omega)).mpr j3
          simp only [yjn, x1, ybd_s, hx, show ¬ (114 : Int) = 97 by decide, if_false, if_true, hs, yb]
      obtain ⟨r', H2, t1, t2, t3⟩ := e_pick0 ct1 j4 j5 (i := 6) (by omega)
      have ct2 := ct1.cw t2
      have w2 := r2.tr t2
      have ec : fContract_readClause E C pa ac H = shB E C pa ac r r' H2 := by
        unfold fContract_readClause
        simp only [yjn, yck, ct.1.1, ct1.1.1, zA1, if_true, S, ybd_s, r1, t1]
        rfl
      rcases t3 with ⟨k, k1, k2, k3, k4, k5⟩ | ⟨k1, k2, k3⟩
      · have hk : k < 3 := k2
        obtain ⟨u2, eu2⟩ : ∃ u2 : Int, u2 = (((wds.getD 6 []).getD k 0 : Nat) : Int) := ⟨_, rfl⟩
        rw [← eu2] at k3
        have gu2 : (u2 = 115 ∧ (k : Int) = 0) ∨ (u2 = 104 ∧ (k : Int) = 1) ∨ (u2 = 112 ∧ (k : Int) = 2) := by
          rcases (show k = 0 ∨ k = 1 ∨ k = 2 by omega) with rfl | rfl | rfl
          · exact Or.inl ⟨eu2, rfl⟩
          · exact Or.inr (Or.inl ⟨eu2, rfl⟩)
          · exact Or.inr (Or.inr ⟨eu2, rfl⟩)
        have ms := m_share c12 h k5 gu gu2 j3 k3
        obtain ⟨s4, es4⟩ : ∃ s4, s4 = zup (zup (zup (zup s 50 (8 * c + i) (j : Int)) 0 57 ((p + 1 : Nat) : Int)) 51 (8 * c + i) (k : Int)) 0 57 ((p + 1 + 1 : Nat) : Int) := ⟨_, rfl⟩
        rw [← es4] at ms
        have sl4 : SCL c i l s s4 := by
          rw [es4]
          exact (((SCL.up (i := i) (l := l) (by omega)).tr (SCL.up (i := i) (l := l) (by omega)) (Nat.le_refl _) (Nat.le_refl _)).tr (SCL.up (i := i) (l := l) (by omega)) (Nat.le_refl _) (Nat.le_refl _)).tr (SCL.up (by omega)) (Nat.le_refl _) (Nat.le_refl _)
        have b50 : s4 50 (8 * c + i) = (j : Int) := by
          rw [es4]
          show zup s 50 (8 * c + i) (j : Int) 50 (8 * c + i) = _
          unfold zup
          rw [if_pos ⟨rfl, rfl⟩]
        have b51 : s4 51 (8 * c + i) = (k : Int) := by
          rw [es4]
          show zup (zup (zup s 50 (8 * c + i) (j : Int)) 0 57 ((p + 1 : Nat) : Int)) 51 (8 * c + i) (k : Int) 51 (8 * c + i) = _
          unfold zup
          rw [if_pos ⟨rfl, rfl⟩]
        have b49 : s4 49 c = (i : Int) := by rw [es4]; exact e49
        have b47 : s4 47 c = s 47 c := by rw [es4]; rfl
        have b48 : s4 48 c = s 48 c := by rw [es4]; rfl
        have b57 : s4 0 57 = ((p + 1 + 1 : Nat) : Int) := by rw [es4]; rfl
        have b58 : s4 0 58 = (l : Int) := by rw [es4]; exact e2
        have b59 : s4 0 59 = (c : Int) := by rw [es4]; exact e3
        obtain ⟨H', v, s', o1, o2, ⟨o3, o4, o5, o6⟩, o7⟩ := shB_ok (pa := pa) (ac := ac) (who := r) (act := r') c12 ct2 k4 k5 (by omega) (lk.scl sl4) b57 b58 b59 b49 i7 (by rw [w2.2.2 8 (by omega)]; exact d8) ((w2.2.2 7 (by omega)).trans h7) (by rw [w2.2.2 11 (by omega)]; exact h11)
        have hv : v = 0 ∨ v = 1 := by
          rcases o7 with ⟨z, -⟩ | ⟨z, -⟩
          · exact Or.inr z
          · exact Or.inl z
        refine ⟨H', v, s', ec.trans o1, ecl v s' (ms.trans o2) hv, ⟨w2.w.tr o3, sl4.tr o4 (Nat.le_refl _) (Nat.le_refl _)⟩, ?_⟩
        rcases o7 with ⟨z1, q, l', ⟨z2, z3, z4, z5⟩, ⟨z6, z7, z8⟩, ⟨y1, y2⟩, ⟨a1, a2, a3, a4⟩, num, w, v1, v2, v3, v4, v5⟩ | z
        · refine Or.inl ⟨l', ⟨z1, q, ⟨by omega, z3, z4, by omega⟩, z6, z7, z8⟩, Or.inr ?_⟩
          rw [o5, o6, b50, b51]
          rw [b47] at a1
          rw [b48] at a2
          rw [w2.2.2 5 (by omega)] at a3
          rw [w2.2.2 6 (by omega)] at a4
          rw [w2.2.2 8 (by omega), w2.2.2 9 (by omega), w2.2.2 10 (by omega)] at v3
          rw [w2.2.2 11 (by omega), j1, k1] at v4
          rw [w2.2.2 12 (by omega), j1, k1] at v5
          exact ⟨⟨y1, y2⟩, ⟨a1, a2, a3, a4⟩, num, w, v1, v2, v3, v4, v5⟩
        · exact Or.inr z
      · obtain ⟨H3, o1, o2, o3⟩ := shB_f (pa := pa) (ac := ac) (who := r) (act := r') ct2 j5 k3
        have ms := m_share0 c12 h (by omega) gu j3 (k2 0 (by decide)) (k2 1 (by decide)) (k2 2 (by decide))
        refine ⟨H3, 0, _, ec.trans o1, ecl 0 _ ms (Or.inl rfl), ⟨w2.w.tr o2, (SCL.up (i := i) (l := l) (by omega)).tr (SCL.up (by omega)) (Nat.le_refl _) (Nat.le_refl _)⟩, Or.inr ⟨rfl, p + 1, j5, o3, rfl⟩⟩
    · have h0 : chr1 n f p ≠ 97 := j2 0 (by decide)
      have h1 : chr1 n f p ≠ 114 := j2 1 (by decide)
      obtain ⟨H2, t1, t2, t3⟩ := e_pick1 ct1 j3 (a := E 6)
      have ct2 := ct1.cw t2
      obtain ⟨H3, o1, o2, o3⟩ := shB_f (pa := pa) (ac := ac) (who := r) (act := -1) ct2 p1 t3
      have tk := m_takes lk e1 p1 (u := 108) (by omega) (by omega)
      rw [if_neg g] at tk
      refine ⟨H3, 0, s, ?_, ?_, ⟨(r2.tr t2).w.tr o2, SCL.rf⟩, Or.inr ⟨rfl, p, p1, o3, e1⟩⟩
      · rw [← o1]
        unfold fContract_readClause
        simp only [yjn, yck, ct.1.1, ct1.1.1, zA1, if_true, S, ybd_s, r1, t1]
        rfl
      · unfold gM_clause
        simp only [yjn, x1, ybd_s, show ¬ x = 97 from fun w => h0 ((x2 97 (by omega) (by omega)).mp w), show ¬ x = 114 from fun w => h1 ((x2 114 (by omega) (by omega)).mp w), if_false, tk, if_true]
end CLAUSE3
