/-! CLAUSES: a share, behind its two first signs -/
section SHARE2
variable {c C n p l i : Nat} {f : Nat → Int} {E : Nat → Nat} {H : zHp} {s : zSg} {pa ac who act : Int}
/-- a condition that is begun in a faulty reading -/
theorem e_cond1 (ct : CT H C n f E) (ps : PS H C p 1) : ∃ r H', fContract_condition E (fContract_single E 12) C 0 H = some (r, H') ∧ CP C H H' ∧ PS H' C p 1 := by
  obtain ⟨v, H1, r1, r2, r3, r4⟩ := e_single1 ct ps (F := fContract_single E 11) (dep := 0)
  obtain ⟨r, z1, z2⟩ := e_condF (E := E) (Fc := fContract_single E 12) (dep := 0) (a := false) (b := true) (k := 0) (g := 999999) (ct.cw r2) r3 r1 r4 ct.1.1 (by omega)
  exact ⟨r, H1, z1, r2, r3⟩
theorem shB_ok (c12 : c ≤ 12) (ct : CT H C n f E) (ps : PS H C p 0) (pn : p ≤ n) (lp : l ≤ p) (lk : LK s n f) (e57 : s 0 57 = (p : Int)) (e58 : s 0 58 = (l : Int)) (e59 : s 0 59 = (c : Int)) (e49 : s 49 c = (i : Int)) (i7 : i ≤ 7) (d8 : zct H C 8 = 0 ∨ zct H C 8 = 1) (h7 : zct H C 7 = (i : Int)) (h11 : 0 ≤ zct H C 11 ∧ zct H C 11 ≤ 999 * (i : Int)) :
    ∃ H' v s', shB E C pa ac who act H = some ((), H') ∧ rB ((8 * c + i : Nat) : Int) s = some (v, s') ∧ (CW C H H' ∧ SCL c i l s s' ∧ s' 50 (8 * c + i) = s 50 (8 * c + i) ∧ s' 51 (8 * c + i) = s 51 (8 * c + i)) ∧
      ((v = 1 ∧ ∃ q l' : Nat, (p ≤ q ∧ q ≤ n ∧ l ≤ l' ∧ l' + p ≤ q + l) ∧ (PS H' C q 0 ∧ s' 0 57 = (q : Int) ∧ s' 0 58 = (l' : Int)) ∧ SHR c C l i pa ac who act H s H' s' l') ∨ CLF C n H' v s') := by
  have n120 := lk.2.1
  obtain ⟨v, H1, H2, s2, r, q1, q2, ⟨q3, q4⟩, q5, q6, q7⟩ := wn ct ps pn lk e57 (i := 7) (by omega) (wds_lt 7)
  have ct1 := ct.cw q3
  have ct2 := ct1.cw q4
  have w2 := q3.tr q4
  have er : rB ((8 * c + i : Nat) : Int) s = if r = true then shK ((8 * c + i : Nat) : Int) s2 else some (0, s2) := q6 (shK ((8 * c + i : Nat) : Int))
  rcases q7 with ⟨rfl, q, num, ⟨a1, a2, a3⟩, a4, a5, a6, a7⟩ | ⟨rfl, q, a1, a2, a3⟩
  · obtain ⟨s3, es3⟩ : ∃ s3, s3 = zup s2 52 (8 * c + i) (num : Int) := ⟨_, rfl⟩
    obtain ⟨s4, es4⟩ : ∃ s4, s4 = zup s3 53 (8 * c + i) (l : Int) := ⟨_, rfl⟩
    have f58 : s3 0 58 = (l : Int) := by rw [es3]; exact (q5 0 58 (by omega)).trans e58
    have b57 : s4 0 57 = (q : Int) := by rw [es4, es3]; exact a5
    have b58 : s4 0 58 = (l : Int) := by rw [es4]; exact f58
    have b59 : s4 0 59 = (c : Int) := by rw [es4, es3]; exact (q5 0 59 (by omega)).trans e59
    have b49 : s4 49 c = (i : Int) := by rw [es4, es3]; exact (q5 49 c (by omega)).trans e49
    have b50 : s4 50 (8 * c + i) = s 50 (8 * c + i) := by rw [es4, es3]; exact q5 50 _ (by omega)
    have b51 : s4 51 (8 * c + i) = s 51 (8 * c + i) := by rw [es4, es3]; exact q5 51 _ (by omega)
    have b47 : s4 47 c = s 47 c := by rw [es4, es3]; exact q5 47 _ (by omega)
    have b48 : s4 48 c = s 48 c := by rw [es4, es3]; exact q5 48 _ (by omega)
    have b52 : s4 52 (8 * c + i) = (num : Int) := by
      rw [es4, es3]
      show zup s2 52 (8 * c + i) (num : Int) 52 (8 * c + i) = _
      unfold zup
      rw [if_pos ⟨rfl, rfl⟩]
    have b53 : s4 53 (8 * c + i) = (l : Int) := by
      rw [es4]
      unfold zup
      rw [if_pos ⟨rfl, rfl⟩]
    have sl4 : SCL c i l s s4 := by
      rw [es4, es3]
      exact ((SCL.of (SC.of q5)).tr (SCL.up (i := i) (l := l) (by omega)) (Nat.le_refl _) (Nat.le_refl _)).tr (SCL.up (by omega)) (Nat.le_refl _) (Nat.le_refl _)
    have lk4 := lk.scl sl4
    obtain ⟨x, x1, x2⟩ := m_look lk4 b57
    have S := e_sees0 ct2 a4 (u := 32) (by omega)
    have h7' : zct H2 C 7 = (i : Int) := (w2.2.2 7 (by omega)).trans h7
    have h11' : 0 ≤ zct H2 C 11 ∧ zct H2 C 11 ≤ 999 * (i : Int) := by rw [w2.2.2 11 (by omega)]; exact h11
    rw [if_pos rfl] at er
    by_cases g : chr1 n f q = 32
    · have x32 := (x2 32 (by omega) (by omega)).mpr g
      have qn : q < n := chr_lt (n := n) (f := f) (p := q) (by omega)
      rw [if_pos g] at S
      obtain ⟨s5, es5⟩ : ∃ s5, s5 = zup s4 0 57 ((q + 1 : Nat) : Int) := ⟨_, rfl⟩
      have sr5 : SR s4 s5 := by rw [es5]; exact SR.up (Or.inl rfl)
      have f5 : s5 0 57 = ((q + 1 : Nat) : Int) := by rw [es5]; rfl
      have ek : shK ((8 * c + i : Nat) : Int) s2 = gTk [105, 102, 32] s5 fun s38 => yvl (zup s38 0 60 0) fun s39 => ybd (gM_either (gM_factor 12) s39) fun v40 s41 => if v40 = 0 then some (0, s41) else shQ ((8 * c + i : Nat) : Int) s41 := by
        unfold shK
        rw [a6, ywi_n (by omega), ← es3, f58, ywi_n (by omega), ← es4, x1, ybd_s, x32, if_pos rfl, m_next b57 (by omega)]
        simp only [yvl, ← es5]
      obtain ⟨H3, k1, k2, k3⟩ := e_skip ct2 (i := 8) (by omega) a2 a4 (Or.inl rfl)
      have em : mt n f (wds.getD 8 []) q = mt n f [105, 102, 32] (q + 1) := by
        show (if chr1 n f q = ((32 : Nat) : Int) then mt n f [105, 102, 32] (q + 1) else (false, q)) = _
        rw [if_pos (show chr1 n f q = ((32 : Nat) : Int) from g)]
      rw [em] at k3
      obtain ⟨s6, m1, m2, m3, m4, m5⟩ := m_mt (n := n) (f := f) [105, 102, 32] (q + 1) s5 (by decide) (lk4.sr sr5) f5 qn
      have ct3 := ct2.cw k2
      have sr6 := sr5.tr m1
      have sl6 : SCL c i l s s6 := sl4.tr (SCL.of (SC.of sr6)) (Nat.le_refl _) (Nat.le_refl _)
      rcases k3 with ⟨w, -⟩ | ⟨-, w, w3⟩
      · exact absurd w (by decide)
      · generalize mt n f [105, 102, 32] (q + 1) = mm at *
        obtain ⟨mb, mp⟩ := mm
        dsimp only at w w3 m2 m3 m4 m5
        rcases w with ⟨w1, w2'⟩ | ⟨w1, w2'⟩
        · obtain ⟨s7, es7⟩ : ∃ s7, s7 = zup s6 0 60 0 := ⟨_, rfl⟩
          have sc7 : SC c l s6 s7 := by rw [es7]; exact SC.up (by omega)
          have sc47 : SC c l s4 s7 := (SC.of sr6).tr sc7 (Nat.le_refl _)
          have pre : PRE c C n f E 0 mp l H3 s7 := ⟨ct3, ⟨w2', w3, by omega⟩, lk4.sc sc47, ⟨by rw [es7]; exact m2, by rw [es7]; exact (sr6 0 58 (by omega)).trans b58, (sc47 0 59 (by omega) (by omega)).trans b59, by rw [es7]; rfl⟩, by rw [k2.2.2 8 (by omega), w2.2.2 8 (by omega)]; exact d8⟩
          obtain ⟨r', H4, v', s8, i1, i2, ⟨i3, i4⟩, i5⟩ := either_ok c12 mp l H3 s7 pre
          have ct4 := ct3.cw i3
          have w4 := (w2.tr k2).tr i3
          have sc48 := sc47.tr i4 (Nat.le_refl _)
          have sl8 : SCL c i l s s8 := sl4.tr (SCL.of sc48) (Nat.le_refl _) (Nat.le_refl _)
          have ek2 : shK ((8 * c + i : Nat) : Int) s2 = if v' = 0 then some (0, s8) else shQ ((8 * c + i : Nat) : Int) s8 := by
            rw [ek, m5, if_pos w1]
            simp only [yvl, ← es7, i2, ybd_s]
          have ec : shB E C pa ac who act H = shE C pa ac who act v r' H4 := by
            unfold shB
            simp only [yck, ct.1.1, ct1.1.1, ct2.1.1, ct3.1.1, zA1, if_true, q1, ybd_s, q2, S, show ¬ (1 : Int) = 0 by decide, if_false, k1]
            rw [show fContract_condition E (fContract_single E 12) C 0 H3 = some (r', H4) from i1, ybd_s]
          rcases i5 with ⟨v1, q9, l9, w, ⟨c1, c2, c3, c4⟩, ⟨t1, t2, t3, t4⟩, cv, rw1⟩ | ⟨v0, rr, q9, c1, t1, t2⟩
          · have h7'' : zct H4 C 7 = (i : Int) := (w4.2.2 7 (by omega)).trans h7
            have h11'' : 0 ≤ zct H4 C 11 ∧ zct H4 C 11 ≤ 999 * (i : Int) := by rw [w4.2.2 11 (by omega)]; exact h11
            obtain ⟨H5, j1, j2, j3, ⟨j4, j5, j6⟩, j7, j8⟩ := shE_g (pa := pa) (ac := ac) (who := who) (act := act) (num := num) (w := w) ct4 t1 h7'' i7 h11'' a3
            have qk := shQ_ok c12 i7 t3 ((sc48 0 59 (by omega) (by omega)).trans b59) ((sc48 49 c (by omega) (by omega)).trans b49)
            refine ⟨H5, 1, zup (zup s8 54 (8 * c + i) (l9 : Int)) 49 c ((i + 1 : Nat) : Int), ?_, ?_, ⟨w4.w.tr j2, ?_, ?_, ?_⟩, Or.inl ⟨rfl, q9, l9, ⟨by omega, c2, by omega, by omega⟩, ⟨j3, t2, t3⟩, ⟨?_, j4⟩, ⟨?_, ?_, j5.trans (w4.2.2 5 (by omega)), j6.trans (w4.2.2 6 (by omega))⟩, num, w, a3, ⟨?_, ?_, ?_⟩, Or.inr ?_, ?_, ?_⟩⟩
            · rw [ec, rw1, a7]; exact j1
            · rw [er, ek2, v1, if_neg (by decide)]; exact qk
            · exact (sl8.tr (SCL.up (i := i) (l := l) (by omega)) (Nat.le_refl _) (Nat.le_refl _)).tr (SCL.up (by omega)) (Nat.le_refl _) (Nat.le_refl _)
            · exact (sc48 50 _ (by omega) (by omega)).trans b50
            · exact (sc48 51 _ (by omega) (by omega)).trans b51
            · unfold zup
              rw [if_pos ⟨rfl, rfl⟩]
            · exact (sc48 47 _ (by omega) (by omega)).trans b47
            · exact (sc48 48 _ (by omega) (by omega)).trans b48
            · exact (sc48 52 _ (by omega) (by omega)).trans b52
            · exact (sc48 53 _ (by omega) (by omega)).trans b53
            · show zup s8 54 (8 * c + i) (l9 : Int) 54 (8 * c + i) = _
              unfold zup
              rw [if_pos ⟨rfl, rfl⟩]
            · rw [k2.2.2 8 (by omega), k2.2.2 9 (by omega), k2.2.2 10 (by omega), w2.2.2 8 (by omega), w2.2.2 9 (by omega), w2.2.2 10 (by omega)] at cv
              exact cv
            · rw [j7, w4.2.2 11 (by omega)]
            · rw [j8, w4.2.2 12 (by omega)]
          · obtain ⟨H5, j1, j2, j3⟩ := shE_f (pa := pa) (ac := ac) (who := who) (act := act) (num := v) (holds := r') ct4 t1
            refine ⟨H5, 0, s8, ec.trans j1, ?_, ⟨w4.w.tr j2, sl8, (sc48 50 _ (by omega) (by omega)).trans b50, (sc48 51 _ (by omega) (by omega)).trans b51⟩, Or.inr ⟨rfl, q9, c1, j3, t2⟩⟩
            rw [er, ek2, v0, if_pos rfl]
        · obtain ⟨r', H4, i1, i2, i3⟩ := e_cond1 ct3 w2'
          have ct4 := ct3.cw i2
          have w4 := (w2.tr k2).tr i2
          obtain ⟨H5, j1, j2, j3⟩ := shE_f (pa := pa) (ac := ac) (who := who) (act := act) (num := v) (holds := r') ct4 i3
          refine ⟨H5, 0, s6, ?_, ?_, ⟨w4.w.tr j2, sl6, (sr6 50 _ (by omega)).trans b50, (sr6 51 _ (by omega)).trans b51⟩, Or.inr ⟨rfl, mp, w3, j3, m2⟩⟩
          · unfold shB
            simp only [yck, ct.1.1, ct1.1.1, ct2.1.1, ct3.1.1, zA1, if_true, q1, ybd_s, q2, S, show ¬ (1 : Int) = 0 by decide, if_false, k1, i1, j1]
          · rw [er, ek, m5, w1, if_neg (by decide)]
    · rw [if_neg g] at S
      have x32 : ¬ x = 32 := fun w => g ((x2 32 (by omega) (by omega)).mp w)
      obtain ⟨H5, j1, j2, j3, ⟨j4, j5, j6⟩, j7, j8⟩ := shE_g (pa := pa) (ac := ac) (who := who) (act := act) (num := num) (w := true) ct2 a4 h7' i7 h11' a3
      have qk := shQ_ok c12 i7 b58 b59 b49
      refine ⟨H5, 1, zup (zup s4 54 (8 * c + i) (l : Int)) 49 c ((i + 1 : Nat) : Int), ?_, ?_, ⟨w2.w.tr j2, ?_, b50, b51⟩, Or.inl ⟨rfl, q, l, ⟨a1, a2, Nat.le_refl _, by omega⟩, ⟨j3, b57, b58⟩, ⟨?_, j4⟩, ⟨b47, b48, j5.trans (w2.2.2 5 (by omega)), j6.trans (w2.2.2 6 (by omega))⟩, num, true, a3, ⟨b52, b53, ?_⟩, Or.inl ⟨rfl, rfl⟩, ?_, ?_⟩⟩
      · unfold shB
        simp only [yck, ct.1.1, ct1.1.1, ct2.1.1, zA1, if_true, q1, ybd_s, q2, S, a7]
        exact j1
      · rw [er]
        unfold shK
        rw [a6, ywi_n (by omega), ← es3, f58, ywi_n (by omega), ← es4, x1, ybd_s, if_neg x32]
        exact qk
      · exact (sl4.tr (SCL.up (i := i) (l := l) (by omega)) (Nat.le_refl _) (Nat.le_refl _)).tr (SCL.up (by omega)) (Nat.le_refl _) (Nat.le_refl _)
      · unfold zup
        rw [if_pos ⟨rfl, rfl⟩]
      · show zup s4 54 (8 * c + i) (l : Int) 54 (8 * c + i) = _
        unfold zup
        rw [if_pos ⟨rfl, rfl⟩]
      · rw [j7, w2.2.2 11 (by omega)]
      · rw [j8, w2.2.2 12 (by omega)]
  · have S := e_sees1 ct2 a2 (u := 32)
    obtain ⟨H5, j1, j2, j3⟩ := shE_f (pa := pa) (ac := ac) (who := who) (act := act) (num := v) (holds := 1) ct2 a2
    refine ⟨H5, 0, s2, ?_, ?_, ⟨w2.w.tr j2, SCL.of (SC.of q5), q5 50 _ (by omega), q5 51 _ (by omega)⟩, Or.inr ⟨rfl, q, a1, j3, a3⟩⟩
    · unfold shB
      simp only [yck, ct.1.1, ct1.1.1, ct2.1.1, zA1, if_true, q1, ybd_s, q2, S, j1]
    · rw [er, if_neg (by decide)]
end SHARE2
