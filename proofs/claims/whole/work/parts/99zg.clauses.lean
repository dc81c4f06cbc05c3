/-! ALL CLAUSES -/
section SUM
variable {r50 r51 r52 r53 r54 r55 r56 q50 q51 q52 q53 q54 q55 q56 : Nat → Int} {d y z pa ac : Int} {c i a b : Nat} {v : Bool} {h h' : Nat → Bool}
theorem hC_eq (e53 : q53 (8 * c + i) = r53 (8 * c + i)) (e54 : q54 (8 * c + i) = r54 (8 * c + i)) (h53 : r53 (8 * c + i) = (a : Int)) (h54 : r54 (8 * c + i) = (b : Int)) (hc : ∀ j, a ≤ j → j < b → q55 (140 * c + j) = r55 (140 * c + j) ∧ q56 (140 * c + j) = r56 (140 * c + j)) : hC q53 q54 q55 q56 d y z c i = hC r53 r54 r55 r56 d y z c i := by
  unfold hC
  rw [e53, e54, h53, h54, Int.toNat_natCast, Int.toNat_natCast, runC_eq (ks := sh r55 (140 * c)) (ws := sh r56 (140 * c)) (ks' := sh q55 (140 * c)) (ws' := sh q56 (140 * c)) (b - a) [] (fun j h1 h2 => hc j h1 (by omega))]
theorem hC_cv (h53 : r53 (8 * c + i) = (a : Int)) (h54 : r54 (8 * c + i) = (b : Int)) (cv : CV (sh r55 (140 * c)) (sh r56 (140 * c)) d y z a b v) : hC r53 r54 r55 r56 d y z c i = v := by
  have := cv.1
  unfold hC
  rw [h53, h54, if_neg (by omega), Int.toNat_natCast, Int.toNat_natCast, cv.2 []]
theorem hC_no (h : r53 (8 * c + i) = r54 (8 * c + i)) : hC r53 r54 r55 r56 d y z c i = true := if_pos h
theorem sumC_eq : ∀ k : Nat, (∀ j, j < k → q50 (8 * c + j) = r50 (8 * c + j) ∧ q51 (8 * c + j) = r51 (8 * c + j) ∧ q52 (8 * c + j) = r52 (8 * c + j) ∧ h' j = h j) → sumC q50 q51 q52 h' pa ac c k = sumC r50 r51 r52 h pa ac c k
  | 0, _ => rfl
  | k + 1, e => by
    obtain ⟨e1, e2, e3, e4⟩ := e k (Nat.lt_succ_self k)
    have ih := sumC_eq k (fun j hj => e j (by omega))
    show (if q50 (8 * c + k) = pa ∧ q51 (8 * c + k) = ac ∧ h' k = true then ((sumC q50 q51 q52 h' pa ac c k).1 + q52 (8 * c + k), true) else sumC q50 q51 q52 h' pa ac c k) = if r50 (8 * c + k) = pa ∧ r51 (8 * c + k) = ac ∧ h k = true then ((sumC r50 r51 r52 h pa ac c k).1 + r52 (8 * c + k), true) else sumC r50 r51 r52 h pa ac c k
    rw [e1, e2, e3, e4, ih]
theorem sumC_b : ∀ k : Nat, (∀ j, j < k → 0 ≤ r52 (8 * c + j) ∧ r52 (8 * c + j) ≤ 999) → 0 ≤ (sumC r50 r51 r52 h pa ac c k).1 ∧ (sumC r50 r51 r52 h pa ac c k).1 ≤ 999 * (k : Int)
  | 0, _ => ⟨Int.le_refl _, by show (0 : Int) ≤ _; omega⟩
  | k + 1, e => by
    have e1 := e k (Nat.lt_succ_self k)
    have ih := sumC_b k (fun j hj => e j (by omega))
    show 0 ≤ (if r50 (8 * c + k) = pa ∧ r51 (8 * c + k) = ac ∧ h k = true then ((sumC r50 r51 r52 h pa ac c k).1 + r52 (8 * c + k), true) else sumC r50 r51 r52 h pa ac c k).1 ∧ (if r50 (8 * c + k) = pa ∧ r51 (8 * c + k) = ac ∧ h k = true then ((sumC r50 r51 r52 h pa ac c k).1 + r52 (8 * c + k), true) else sumC r50 r51 r52 h pa ac c k).1 ≤ _
    split
    · show 0 ≤ (sumC r50 r51 r52 h pa ac c k).1 + r52 (8 * c + k) ∧ (sumC r50 r51 r52 h pa ac c k).1 + r52 (8 * c + k) ≤ _
      omega
    · omega
end SUM
/-- what the clauses read so far have come to -/
def ACC (c C : Nat) (pa ac : Int) (H0 : zHp) (l i : Nat) (H : zHp) (s : zSg) : Prop := (s 49 c = (i : Int) ∧ zct H C 7 = (i : Int)) ∧ ((zct H C 5 = s 47 c ∨ (zct H C 5 = zct H0 C 5 ∧ s 47 c = 10)) ∧ (zct H C 6 = s 48 c ∨ (zct H C 6 = zct H0 C 6 ∧ s 48 c = 0))) ∧ ((0 ≤ s 47 c ∧ s 47 c ≤ 999) ∧ 0 ≤ s 48 c ∧ s 48 c ≤ 999) ∧
  (∀ j, j < i → (0 ≤ s 52 (8 * c + j) ∧ s 52 (8 * c + j) ≤ 999) ∧ ∃ a b : Nat, s 53 (8 * c + j) = (a : Int) ∧ s 54 (8 * c + j) = (b : Int) ∧ b ≤ l ∧ (a = b ∨ ∃ v, CV (sh (s 55) (140 * c)) (sh (s 56) (140 * c)) (zct H0 C 8) (zct H0 C 9) (zct H0 C 10) a b v)) ∧
  zct H C 11 = (sumC (s 50) (s 51) (s 52) (hC (s 53) (s 54) (s 55) (s 56) (zct H0 C 8) (zct H0 C 9) (zct H0 C 10) c) pa ac c i).1 ∧ zct H C 12 = bi (sumC (s 50) (s 51) (s 52) (hC (s 53) (s 54) (s 55) (s 56) (zct H0 C 8) (zct H0 C 9) (zct H0 C 10) c) pa ac c i).2
section CLAUSES
variable {c C n p l l' i : Nat} {f : Nat → Int} {E : Nat → Nat} {H0 H H' : zHp} {s s' : zSg} {pa ac : Int}
theorem ACC.step (h : ACC c C pa ac H0 l i H s) (w0 : CW C H0 H) (sl : SCL c i l s s') (o : CLO c C l i pa ac H s H' s' l') (hl : l ≤ l') : ∃ i', (i' = i ∨ i' = i + 1) ∧ ACC c C pa ac H0 l' i' H' s' := by
  obtain ⟨⟨h1, h2⟩, ⟨h3, h4⟩, ⟨⟨h5, h6⟩, h7, h8⟩, h9, h10, h11⟩ := h
  have rows : ∀ j, j < i → s' 50 (8 * c + j) = s 50 (8 * c + j) ∧ s' 51 (8 * c + j) = s 51 (8 * c + j) ∧ s' 52 (8 * c + j) = s 52 (8 * c + j) ∧ s' 53 (8 * c + j) = s 53 (8 * c + j) ∧ s' 54 (8 * c + j) = s 54 (8 * c + j) := fun j hj => ⟨sl 50 _ (by omega) (by omega) (by omega) (by omega), sl 51 _ (by omega) (by omega) (by omega) (by omega), sl 52 _ (by omega) (by omega) (by omega) (by omega), sl 53 _ (by omega) (by omega) (by omega) (by omega), sl 54 _ (by omega) (by omega) (by omega) (by omega)⟩
  have code : ∀ j, j < l → s' 55 (140 * c + j) = s 55 (140 * c + j) ∧ s' 56 (140 * c + j) = s 56 (140 * c + j) := fun j hj => ⟨sl 55 _ (by omega) (by omega) (by omega) (by omega), sl 56 _ (by omega) (by omega) (by omega) (by omega)⟩
  have old : ∀ j, j < i → (0 ≤ s' 52 (8 * c + j) ∧ s' 52 (8 * c + j) ≤ 999) ∧ ∃ a b : Nat, s' 53 (8 * c + j) = (a : Int) ∧ s' 54 (8 * c + j) = (b : Int) ∧ b ≤ l' ∧ (a = b ∨ ∃ v, CV (sh (s' 55) (140 * c)) (sh (s' 56) (140 * c)) (zct H0 C 8) (zct H0 C 9) (zct H0 C 10) a b v) := fun j hj => by
    obtain ⟨r1, r2, r3, r4, r5⟩ := rows j hj
    obtain ⟨k1, a, b, k2, k3, k4, k5⟩ := h9 j hj
    refine ⟨by rw [r3]; exact k1, a, b, by rw [r4]; exact k2, by rw [r5]; exact k3, by omega, ?_⟩
    rcases k5 with k | ⟨v, k⟩
    · exact Or.inl k
    · exact Or.inr ⟨v, k.eq fun j' g1 g2 => code j' (by omega)⟩
  have sm : sumC (s' 50) (s' 51) (s' 52) (hC (s' 53) (s' 54) (s' 55) (s' 56) (zct H0 C 8) (zct H0 C 9) (zct H0 C 10) c) pa ac c i = sumC (s 50) (s 51) (s 52) (hC (s 53) (s 54) (s 55) (s 56) (zct H0 C 8) (zct H0 C 9) (zct H0 C 10) c) pa ac c i := sumC_eq i fun j hj => by
    obtain ⟨r1, r2, r3, r4, r5⟩ := rows j hj
    obtain ⟨k1, a, b, k2, k3, k4, k5⟩ := h9 j hj
    exact ⟨r1, r2, r3, hC_eq r4 r5 k2 k3 fun j' g1 g2 => code j' (by omega)⟩
  rcases o with ⟨rfl, t1, ⟨t2, t3, t4⟩, num, t5, t6⟩ | ⟨⟨t1, t2⟩, ⟨t3, t4, t5, t6⟩, num, w, t7, ⟨t8, t9, t10⟩, t11, t12, t13⟩
  · refine ⟨i, Or.inl rfl, ⟨t1.trans h1, t2.trans h2⟩, ?_, ?_, old, ?_, ?_⟩
    · rcases t6 with ⟨a1, a2, a3, a4⟩ | ⟨a1, a2, a3, a4⟩
      · exact ⟨Or.inl (a2.trans a1.symm), by rw [a3, a4]; exact h4⟩
      · exact ⟨by rw [a3, a4]; exact h3, Or.inl (a2.trans a1.symm)⟩
    · rcases t6 with ⟨a1, a2, a3, a4⟩ | ⟨a1, a2, a3, a4⟩
      · rw [a1, a3]; omega
      · rw [a1, a3]; omega
    · rw [sm, t3]; exact h10
    · rw [sm, t4]; exact h11
  · have hb : zct H C 8 = zct H0 C 8 ∧ zct H C 9 = zct H0 C 9 ∧ zct H C 10 = zct H0 C 10 := ⟨w0.2.2 8 (by omega), w0.2.2 9 (by omega), w0.2.2 10 (by omega)⟩
    rw [hb.1, hb.2.1, hb.2.2] at t11
    have hw : hC (s' 53) (s' 54) (s' 55) (s' 56) (zct H0 C 8) (zct H0 C 9) (zct H0 C 10) c i = w := by
      rcases t11 with ⟨e, rfl⟩ | cv
      · exact hC_no (by rw [t9, t10, e])
      · exact hC_cv t9 t10 cv
    have es : sumC (s' 50) (s' 51) (s' 52) (hC (s' 53) (s' 54) (s' 55) (s' 56) (zct H0 C 8) (zct H0 C 9) (zct H0 C 10) c) pa ac c (i + 1) = if s' 50 (8 * c + i) = pa ∧ s' 51 (8 * c + i) = ac ∧ w = true then ((sumC (s 50) (s 51) (s 52) (hC (s 53) (s 54) (s 55) (s 56) (zct H0 C 8) (zct H0 C 9) (zct H0 C 10) c) pa ac c i).1 + (num : Int), true) else sumC (s 50) (s 51) (s 52) (hC (s 53) (s 54) (s 55) (s 56) (zct H0 C 8) (zct H0 C 9) (zct H0 C 10) c) pa ac c i := by
      rw [← sm, ← t8, ← hw]
      rfl
    refine ⟨i + 1, Or.inr rfl, ⟨t1, t2⟩, ⟨by rw [t5, t3]; exact h3, by rw [t6, t4]; exact h4⟩, by rw [t3, t4]; exact ⟨⟨h5, h6⟩, h7, h8⟩, fun j hj => ?_, ?_, ?_⟩
    · by_cases e : j = i
      · subst e
        refine ⟨by rw [t8]; omega, l, l', t9, t10, Nat.le_refl _, ?_⟩
        rcases t11 with ⟨e, -⟩ | cv
        · exact Or.inl e
        · exact Or.inr ⟨w, cv⟩
      · exact old j (by omega)
    · rw [es, t12]
      split
      · rw [h10]
      · exact h10
    · rw [es, t13]
      split
      · rfl
      · exact h11
theorem loop_ok (c12 : c ≤ 12) : ∀ (m k p l i g g' : Nat) (H : zHp) (s : zSg), k + m = 8 → i < k → PRC c C n f E p l i H s → ACC c C pa ac H0 l i H s → CW C H0 H → m + 2 ≤ g → m + 1 ≤ g' →
    ∃ H' v s', (∀ K, fContract_readAll_l1 E g C pa ac 1 (k : Int) H K = K C H') ∧ (∀ a1 a2 K', (ybd (gM_clause s) fun v s1 => gM_contract_l4 g' a1 a2 (k : Int) v s1 K') = K' a1 a2 v s') ∧ (CW C H H' ∧ SCL c i l s s') ∧
      ((v = 1 ∧ ∃ q l' i' : Nat, (q ≤ n ∧ l' ≤ q ∧ i' ≤ 8) ∧ PS H' C q 0 ∧ s' 0 57 = (q : Int) ∧ ACC c C pa ac H0 l' i' H' s') ∨ CLF C n H' v s') := by
  intro m
  induction m with
  | zero =>
    intro k p l i g g' H s h1 h2 h3 h4 h5 h6 h7
    obtain ⟨ct, ⟨ps, p1, p2⟩, lk, ⟨e1, e2, e3⟩, d8, e49, i7⟩ := id h3
    obtain ⟨g, rfl⟩ : ∃ g'', g = g'' + 1 + 1 := ⟨g - 2, by omega⟩
    obtain ⟨g', rfl⟩ : ∃ g'', g' = g'' + 1 := ⟨g' - 1, by omega⟩
    obtain rfl : k = 8 := by omega
    have sb := sumC_b (r50 := s 50) (r51 := s 51) (h := hC (s 53) (s 54) (s 55) (s 56) (zct H0 C 8) (zct H0 C 9) (zct H0 C 10) c) (pa := pa) (ac := ac) i (fun j hj => (h4.2.2.2.1 j hj).1)
    rw [← h4.2.2.2.2.1] at sb
    obtain ⟨H1, v, s1, a1, a2, ⟨a3, a4⟩, a5⟩ := clause_ok (pa := pa) (ac := ac) h3 c12 h4.1.2 sb
    have ec : ∀ K, fContract_readAll_l1 E (g + 1 + 1) C pa ac 1 ((8 : Nat) : Int) H K = K C H1 := fun K => by
      rw [fContract_readAll_l1]
      simp only [yjn, show ¬ (8 : Int) < ((8 : Nat) : Int) by decide, show ¬ (1 : Int) = 0 by decide, if_false, yck, ct.1.1, zA1, if_true, a1, ybd_s, show ¬ ((8 : Nat) : Int) < 8 by decide, yvl]
      rw [fContract_readAll_l1]
      simp only [yjn, show (8 : Int) < zadd ((8 : Nat) : Int) 1 by rw [zadd_e (by omega) (by omega)]; omega, if_true]
    rcases a5 with ⟨l', ⟨b1, q, ⟨b2, b3, b4, b5⟩, b6, b7, b8⟩, b9⟩ | ⟨b1, q, b2, b3, b4⟩
    · obtain ⟨i', j1, j2⟩ := h4.step h5 a4 b9 b4
      refine ⟨H1, v, s1, ec, fun a1' a2' K' => ?_, ⟨a3, a4⟩, Or.inl ⟨b1, q, l', i', ⟨b3, by omega, by omega⟩, b6, b7, j2⟩⟩
      obtain ⟨x, x1, x2⟩ := m_look (lk.scl a4) b7
      rw [a2, ybd_s, gM_contract_l4, b1, if_neg (by decide), x1, ybd_s]
      by_cases g59 : x = 59
      · rw [if_pos g59, if_neg (by decide)]
      · rw [if_neg g59]
    · refine ⟨H1, v, s1, ec, fun a1' a2' K' => ?_, ⟨a3, a4⟩, Or.inr ⟨b1, q, b2, b3, b4⟩⟩
      rw [a2, ybd_s, gM_contract_l4, b1, if_pos rfl]
  | succ m ih =>
    intro k p l i g g' H s h1 h2 h3 h4 h5 h6 h7
    obtain ⟨ct, ⟨ps, p1, p2⟩, lk, ⟨e1, e2, e3⟩, d8, e49, i7⟩ := id h3
    have n120 := lk.2.1
    obtain ⟨g, rfl⟩ : ∃ g'', g = g'' + 1 + 1 := ⟨g - 2, by omega⟩
    obtain ⟨g', rfl⟩ : ∃ g'', g' = g'' + 1 := ⟨g' - 1, by omega⟩
    have k8 : (k : Int) < 8 := by omega
    have sb := sumC_b (r50 := s 50) (r51 := s 51) (h := hC (s 53) (s 54) (s 55) (s 56) (zct H0 C 8) (zct H0 C 9) (zct H0 C 10) c) (pa := pa) (ac := ac) i (fun j hj => (h4.2.2.2.1 j hj).1)
    rw [← h4.2.2.2.2.1] at sb
    obtain ⟨H1, v, s1, a1, a2, ⟨a3, a4⟩, a5⟩ := clause_ok (pa := pa) (ac := ac) h3 c12 h4.1.2 sb
    have ct1 := ct.cww a3
    have ek : zadd (k : Int) 1 = ((k + 1 : Nat) : Int) := by rw [zadd_e (by omega) (by omega)]; omega
    have stop : fContract_sees C 59 H1 = some (0, H1) → ∀ K, fContract_readAll_l1 E (g + 1 + 1) C pa ac 1 (k : Int) H K = K C H1 := fun S K => by
      rw [fContract_readAll_l1]
      simp only [yjn, show ¬ (8 : Int) < (k : Int) by omega, show ¬ (1 : Int) = 0 by decide, if_false, yck, ct.1.1, ct1.1.1, zA1, if_true, a1, ybd_s, k8, S, yvl, ek]
      rw [fContract_readAll_l1]
      simp only [yjn, show ¬ (8 : Int) < ((k + 1 : Nat) : Int) by omega, if_false, if_true]
    rcases a5 with ⟨l', ⟨b1, q, ⟨b2, b3, b4, b5⟩, b6, b7, b8⟩, b9⟩ | ⟨b1, q, b2, b3, b4⟩
    · obtain ⟨i', j1, j2⟩ := h4.step h5 a4 b9 b4
      have lk1 := lk.scl a4
      obtain ⟨x, x1, x2⟩ := m_look lk1 b7
      have S := e_sees0 ct1 b6 (u := 59) (by omega)
      by_cases g59 : chr1 n f q = 59
      · rw [if_pos g59] at S
        have qn : q < n := chr_lt (n := n) (f := f) (p := q) (by omega)
        have hx := (x2 59 (by omega) (by omega)).mpr g59
        have ep : zadd (q : Int) 1 = ((q + 1 : Nat) : Int) := by rw [zadd_e (by omega) (by omega)]; omega
        obtain ⟨H2, eH2⟩ : ∃ H2, H2 = zwr H1 C 3 ((q + 1 : Nat) : Int) := ⟨_, rfl⟩
        obtain ⟨s2, es2⟩ : ∃ s2, s2 = zup s1 0 57 ((q + 1 : Nat) : Int) := ⟨_, rfl⟩
        have w2 : CW C H1 H2 := by rw [eH2]; exact CW.wr (by omega)
        have sl2 : SCL c i l s1 s2 := by rw [es2]; exact SCL.up (by omega)
        have sl2' : SCL c i' l' s1 s2 := by rw [es2]; exact SCL.up (by omega)
        have w5 := (h5.tr a3).tr w2
        have acc2 : ACC c C pa ac H0 l' i' H2 s2 := by
          have z : ∀ k, k ≠ 3 → zct H2 C k = zct H1 C k := fun k hk => by rw [eH2, zct_wr, if_neg (by omega)]
          unfold ACC
          rw [z 7 (by omega), z 5 (by omega), z 6 (by omega), z 11 (by omega), z 12 (by omega), es2]
          exact j2
        have prc2 : PRC c C n f E (q + 1) l' i' H2 s2 := by
          refine ⟨ct1.cww w2, ⟨by rw [eH2]; exact b6.go, qn, by omega⟩, lk1.scl sl2, ⟨by rw [es2]; rfl, by rw [es2]; exact b8, ?_⟩, ?_, acc2.1.1, by omega⟩
          · rw [es2]; exact (a4 0 59 (by omega) (by omega) (by omega) (by omega)).trans e3
          · rw [w2.2.2 8 (by omega), a3.2.2 8 (by omega)]; exact d8
        obtain ⟨H', v', s', u1, u2, ⟨u3, u4⟩, u5⟩ := ih (k + 1) (q + 1) l' i' (g + 1) g' H2 s2 (by omega) (by omega) prc2 acc2 w5 (by omega) (by omega)
        refine ⟨H', v', s', fun K => ?_, fun a1' a2' K' => ?_, ⟨(a3.tr w2).tr u3, (a4.tr sl2 (Nat.le_refl _) (Nat.le_refl _)).tr u4 (by omega) b4⟩, u5⟩
        · rw [← u1 K, fContract_readAll_l1]
          simp only [yjn, show ¬ (8 : Int) < (k : Int) by omega, show ¬ (1 : Int) = 0 by decide, if_false, yck, ct.1.1, ct1.1.1, zA1, if_true, a1, ybd_s, k8, S, yvl, ek, ygi, ypi, b6.1, ep, ← eH2]
        · rw [← u2 a1' a2' K', a2, ybd_s, gM_contract_l4, b1, if_neg (by decide), x1, ybd_s, if_pos hx, if_pos k8]
          simp only [yvl, m_next b7 (by omega), ← es2, ek]
      · rw [if_neg g59] at S
        refine ⟨H1, v, s1, stop S, fun a1' a2' K' => ?_, ⟨a3, a4⟩, Or.inl ⟨b1, q, l', i', ⟨b3, by omega, by omega⟩, b6, b7, j2⟩⟩
        rw [a2, ybd_s, gM_contract_l4, b1, if_neg (by decide), x1, ybd_s, if_neg (fun w => g59 ((x2 59 (by omega) (by omega)).mp w))]
    · have S := e_sees1 ct1 b3 (u := 59)
      refine ⟨H1, v, s1, stop S, fun a1' a2' K' => ?_, ⟨a3, a4⟩, Or.inr ⟨b1, q, b2, b3, b4⟩⟩
      rw [a2, ybd_s, gM_contract_l4, b1, if_pos rfl]
/-- a whole text -/
theorem readAll_ok (c12 : c ≤ 12) (ct : CT H C n f E) (lk : LK s n f) (e57 : s 0 57 = 0) (e58 : s 0 58 = 0) (e59 : s 0 59 = (c : Int)) (e49 : s 49 c = 0) (e47 : s 47 c = 10) (e48 : s 48 c = 0) (d8 : zct H C 8 = 0 ∨ zct H C 8 = 1) :
    ∃ r H' v s', fContract_readAll E C pa ac H = some (r, H') ∧ (∀ a1 a2 K', (ybd (gM_clause s) fun v s1 => gM_contract_l4 zFU a1 a2 1 v s1 K') = K' a1 a2 v s') ∧ (CW C H H' ∧ SCL c 0 0 s s') ∧
      ∃ q : Nat, (q ≤ n ∧ s' 0 57 = (q : Int) ∧ zct H' C 3 = (q : Int)) ∧ ((v = 1 ∧ r = (if q = n then 1 else 0) ∧ ∃ l' i' : Nat, (l' ≤ q ∧ i' ≤ 8) ∧ ACC c C pa ac H l' i' H' s') ∨ (v = 0 ∧ r = 0)) := by
  obtain ⟨H1, eH1⟩ : ∃ H1, H1 = zwr (zwr (zwr (zwr (zwr H C 3 0) C 4 0) C 7 0) C 11 0) C 12 0 := ⟨_, rfl⟩
  have w1 : CW C H H1 := by rw [eH1]; exact ((((CW.wr (by omega)).tr (CW.wr (by omega))).tr (CW.wr (by omega))).tr (CW.wr (by omega))).tr (CW.wr (by omega))
  have z3 : zct H1 C 3 = 0 := by rw [eH1]; simp [zct_wr]
  have z4 : zct H1 C 4 = 0 := by rw [eH1]; simp [zct_wr]
  have z7 : zct H1 C 7 = 0 := by rw [eH1]; simp [zct_wr]
  have z11 : zct H1 C 11 = 0 := by rw [eH1]; simp [zct_wr]
  have z12 : zct H1 C 12 = 0 := by rw [eH1]; simp [zct_wr]
  have z5 : zct H1 C 5 = zct H C 5 := by rw [eH1]; simp [zct_wr]
  have z6 : zct H1 C 6 = zct H C 6 := by rw [eH1]; simp [zct_wr]
  have ct1 := ct.cww w1
  have acc : ACC c C pa ac H 0 0 H1 s := ⟨⟨e49, z7⟩, ⟨Or.inr ⟨z5, e47⟩, Or.inr ⟨z6, e48⟩⟩, ⟨by omega, by omega⟩, fun j hj => absurd hj (Nat.not_lt_zero _), z11, z12⟩
  have prc : PRC c C n f E 0 0 0 H1 s := ⟨ct1, ⟨⟨z3, z4⟩, Nat.zero_le _, Nat.le_refl _⟩, lk, ⟨e57, e58, e59⟩, by rw [w1.2.2 8 (by omega)]; exact d8, e49, by omega⟩
  obtain ⟨H', v, s', u1, u2, ⟨u3, u4⟩, u5⟩ := loop_ok c12 7 1 0 0 0 zFU zFU H1 s rfl (by omega) prc acc w1 (by rw [zFU_e]; omega) (by rw [zFU_e]; omega)
  have ct2 := ct1.cww u3
  have t : 30 ≤ ztg H' (zct H' C 2).toNat ∧ ztg H' (zct H' C 2).toNat ≤ 41 := by have := ct2.1.2.1; omega
  have u1' : ∀ K, fContract_readAll_l1 E zFU C pa ac 1 1 H1 K = K C H' := u1
  rcases u5 with ⟨v1, q, l', i', ⟨q1, q2, q3⟩, q4, q5, q6⟩ | ⟨v0, q, q1, q2, q3⟩
  · refine ⟨if q = n then 1 else 0, H', v, s', ?_, u2, ⟨w1.tr u3, u4⟩, q, ⟨q1, q5, q4.1⟩, Or.inl ⟨v1, rfl, l', i', ⟨q2, q3⟩, q6⟩⟩
    unfold fContract_readAll
    simp only [ypi, ypz, ct.1.1, zA1, if_true, ztg_wr, true_or, and_self, ← eH1, u1', ygi, ygr, yln, ct2.1.1, q4.1, q4.2, t, ct2.1.2.2.1]
    by_cases g : q = n
    · rw [if_pos g, if_pos (by omega)]
    · rw [if_neg g, if_neg (by omega)]
  · refine ⟨0, H', v, s', ?_, u2, ⟨w1.tr u3, u4⟩, q, ⟨q1, q3, q2.1⟩, Or.inr ⟨v0, rfl⟩⟩
    unfold fContract_readAll
    simp only [ypi, ypz, ct.1.1, zA1, if_true, ztg_wr, true_or, and_self, ← eH1, u1', ygi, ct2.1.1, q2.2, show ¬ (1 : Int) = 0 by decide, if_false]
end CLAUSES
