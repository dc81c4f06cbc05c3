/-! CLAUSES -/
/-- a word of the reference, sign by sign -/
noncomputable def gTk : List Nat → zSg → (zSg → Option (Int × zSg)) → Option (Int × zSg)
  | [], s, K => K s
  | u :: l, s, K => ybd (gM_takes0 (u : Int) s) fun v s1 => if v = 0 then some (0, s1) else gTk l s1 K
theorem m_mt {n : Nat} {f : Nat → Int} : ∀ (l : List Nat) (p : Nat) (s : zSg), (∀ u ∈ l, u < 128) → LK s n f → s 0 57 = (p : Int) → p ≤ n → ∃ s2, SR s s2 ∧ s2 0 57 = ((mt n f l p).2 : Int) ∧ (mt n f l p).2 ≤ n ∧ p ≤ (mt n f l p).2 ∧ ∀ K, gTk l s K = if (mt n f l p).1 = true then K s2 else some (0, s2)
  | [], p, s, _, _, h1, h2 => ⟨s, SR.rf, h1, h2, Nat.le_refl _, fun _ => rfl⟩
  | u :: l, p, s, hu, lk, h1, h2 => by
    have tk := m_takes lk h1 h2 (u := (u : Int)) (by omega) (by have := hu u (List.mem_cons_self ..); omega)
    have em : mt n f (u :: l) p = if chr1 n f p = (u : Int) then mt n f l (p + 1) else (false, p) := rfl
    have eg : ∀ K, gTk (u :: l) s K = ybd (gM_takes0 (u : Int) s) fun v s1 => if v = 0 then some (0, s1) else gTk l s1 K := fun _ => rfl
    by_cases c : chr1 n f p = (u : Int)
    · rw [if_pos c] at tk em
      have pn : p < n := chr_lt (n := n) (f := f) (p := p) (by omega)
      have r1 : SR s (zup s 0 57 ((p + 1 : Nat) : Int)) := SR.up (Or.inl rfl)
      obtain ⟨s2, i1, i2, i3, i4, i5⟩ := m_mt l (p + 1) (zup s 0 57 ((p + 1 : Nat) : Int)) (fun u hu' => hu u (List.mem_cons_of_mem _ hu')) (lk.sr r1) rfl pn
      refine ⟨s2, r1.tr i1, by rw [em]; exact i2, by rw [em]; exact i3, by rw [em]; omega, fun K => ?_⟩
      rw [eg, tk, ybd_s, if_neg (by decide), em]
      exact i5 K
    · rw [if_neg c] at tk em
      refine ⟨s, SR.rf, by rw [em]; exact h1, by rw [em]; exact h2, by rw [em]; exact Nat.le_refl _, fun K => ?_⟩
      rw [eg, tk, ybd_s, if_pos rfl, em]
      rfl
/-- the reading of a clause changes -/
def SCL (c i l : Nat) (s s' : zSg) : Prop := ∀ k j, ¬ (k = 0 ∧ (j = 57 ∨ j = 58 ∨ j = 60 ∨ j = 61)) → ¬ ((k = 55 ∨ k = 56) ∧ 140 * c + l ≤ j) → ¬ ((k = 47 ∨ k = 48 ∨ k = 49) ∧ j = c) → ¬ ((50 ≤ k ∧ k ≤ 54) ∧ 8 * c + i ≤ j) → s' k j = s k j
theorem SCL.rf {c i l : Nat} {s : zSg} : SCL c i l s s := fun _ _ _ _ _ _ => rfl
theorem SCL.tr {c i i2 l l2 : Nat} {a b d : zSg} (h : SCL c i l a b) (g : SCL c i2 l2 b d) (hi : i ≤ i2) (hl : l ≤ l2) : SCL c i l a d := fun k j w1 w2 w3 w4 => (g k j w1 (fun w => w2 ⟨w.1, by have := w.2; omega⟩) w3 (fun w => w4 ⟨w.1, by have := w.2; omega⟩)).trans (h k j w1 w2 w3 w4)
theorem SCL.of {c i l : Nat} {s s' : zSg} (h : SC c l s s') : SCL c i l s s' := fun k j w1 w2 _ _ => h k j w1 w2
theorem SCL.up {c i l k j : Nat} {s : zSg} {v : Int} (h : (k = 0 ∧ (j = 57 ∨ j = 58 ∨ j = 60 ∨ j = 61)) ∨ ((k = 47 ∨ k = 48 ∨ k = 49) ∧ j = c) ∨ ((50 ≤ k ∧ k ≤ 54) ∧ 8 * c + i ≤ j)) : SCL c i l s (zup s k j v) := fun k' j' w1 w2 w3 w4 => by
  unfold zup
  rw [if_neg]
  rintro ⟨e1, e2⟩
  subst e1 e2
  rcases h with h | h | h
  · exact w1 h
  · exact w3 h
  · exact w4 h
theorem LK.scl {c i l : Nat} {s s' : zSg} {n : Nat} {f : Nat → Int} (h : LK s n f) (r : SCL c i l s s') : LK s' n f := by
  obtain ⟨a, b, d⟩ := h
  refine ⟨by rw [r 0 43 (by omega) (by omega) (by omega) (by omega)]; exact a, b, fun k hk => by rw [r 42 k (by omega) (by omega) (by omega) (by omega)]; exact d k hk⟩
/-- where both stand ahead of a clause -/
def PRC (c C n : Nat) (f : Nat → Int) (E : Nat → Nat) (p l i : Nat) (H : zHp) (s : zSg) : Prop := CT H C n f E ∧ (PS H C p 0 ∧ p ≤ n ∧ l ≤ p) ∧ LK s n f ∧ (s 0 57 = (p : Int) ∧ s 0 58 = (l : Int) ∧ s 0 59 = (c : Int)) ∧ (zct H C 8 = 0 ∨ zct H C 8 = 1) ∧ s 49 c = (i : Int) ∧ i ≤ 7
/-- a clause is faulty -/
def CLF (C n : Nat) (H' : zHp) (v : Int) (s' : zSg) : Prop := v = 0 ∧ ∃ q : Nat, q ≤ n ∧ PS H' C q 1 ∧ s' 0 57 = (q : Int)
/-- the place and the code behind a good clause -/
def CLG (c C n p l : Nat) (H' : zHp) (v : Int) (s' : zSg) (l' : Nat) : Prop := v = 1 ∧ ∃ q : Nat, (p < q ∧ q ≤ n ∧ l ≤ l' ∧ l' + p ≤ q + l) ∧ PS H' C q 0 ∧ s' 0 57 = (q : Int) ∧ s' 0 58 = (l' : Int)
theorem CW.rf {C : Nat} {H : zHp} : CW C H H := CP.rf.w
theorem CW.tr {C : Nat} {H1 H2 H3 : zHp} (a : CW C H1 H2) (b : CW C H2 H3) : CW C H1 H3 := ⟨⟨b.1.1.trans a.1.1, b.1.2.1.trans a.1.2.1, b.1.2.2.trans a.1.2.2⟩, fun q h k => (b.2.1 q h k).trans (a.2.1 q h k), fun k h => (b.2.2 k h).trans (a.2.2 k h)⟩
theorem CW.wr {C : Nat} {H : zHp} {k : Nat} {v : Int} (hk : 3 ≤ k ∧ (k < 8 ∨ 10 < k)) : CW C H (zwr H C k v) := ⟨⟨rfl, rfl, rfl⟩, fun a h j => by rw [zct_wr, if_neg (fun e => h e.1)], fun j h => by rw [zct_wr, if_neg (by omega)]⟩
theorem SA.cww {C : Nat} {H H' : zHp} {a : Nat} {l : List Nat} (h : SA H a l) (w : CW C H H') (h1 : a ≠ C) (h2 : (zct H a 0).toNat ≠ C) : SA H' a l := by
  have tg : ∀ a, ztg H' a = ztg H a := fun a => by show H'.1 a = H.1 a; rw [w.1.1]
  have ln : ∀ a, zln H' a = zln H a := fun a => by show H'.2.1 a = H.2.1 a; rw [w.1.2.1]
  unfold SA
  rw [w.2.1 a h1 0, tg, tg, ln]
  obtain ⟨g1, g2, g3, g4, g5⟩ := h
  exact ⟨g1, g2, g3, g4, fun k hk => by rw [w.2.1 _ h2]; exact g5 k hk⟩
theorem CT.cww {H H' : zHp} {C n : Nat} {f : Nat → Int} {E : Nat → Nat} (h : CT H C n f E) (w : CW C H H') : CT H' C n f E := by
  have tg : ∀ a, ztg H' a = ztg H a := fun a => by show H'.1 a = H.1 a; rw [w.1.1]
  have ln : ∀ a, zln H' a = zln H a := fun a => by show H'.2.1 a = H.2.1 a; rw [w.1.2.1]
  obtain ⟨⟨a1, a2, a3, a4, a5⟩, b, c⟩ := h
  unfold CT
  rw [w.2.2 2 (by omega), tg, tg, ln]
  refine ⟨⟨a1, a2, a3, a4, a5⟩, fun k hk => by rw [w.2.1 _ a4]; exact b k hk, fun i hi => ?_⟩
  obtain ⟨c1, c2, c3⟩ := c i hi
  exact ⟨c1.cww w c2 c3, c2, by rw [w.2.1 _ c2]; exact c3⟩
section CLAUSE
variable {c C n p l i : Nat} {f : Nat → Int} {E : Nat → Nat} {H : zHp} {s : zSg}
theorem PS.cell {H : zHp} {C p : Nat} {b v : Int} {k : Nat} (s : PS H C p b) (hk : k ≠ 3 ∧ k ≠ 4) : PS (zwr H C k v) C p b := ⟨by rw [zct_wr, if_neg (by omega)]; exact s.1, by rw [zct_wr, if_neg (by omega)]; exact s.2⟩
/-- a word, and a number behind it -/
theorem wn (ct : CT H C n f E) (ps : PS H C p 0) (pn : p ≤ n) (lk : LK s n f) (e1 : s 0 57 = (p : Int)) (hi : i < 12) (hu : ∀ u ∈ wds.getD i [], u < 128) : ∃ (v : Int) (H1 H2 : zHp) (s2 : zSg) (r : Bool), fContract_skip E C (E i) H = some ((), H1) ∧ fContract_readNumber E C H1 = some (v, H2) ∧ (CP C H H1 ∧ CP C H1 H2) ∧ SR s s2 ∧
    (∀ K : zSg → Option (Int × zSg), gTk (wds.getD i []) s (fun s1 => ybd (gM_digits s1) fun v s' => if v = 0 then some (0, s') else K s') = if r = true then K s2 else some (0, s2)) ∧
    ((r = true ∧ ∃ q num : Nat, (p ≤ q ∧ q ≤ n ∧ num ≤ 999) ∧ PS H2 C q 0 ∧ s2 0 57 = (q : Int) ∧ s2 0 61 = (num : Int) ∧ v = (num : Int)) ∨ (r = false ∧ ∃ q : Nat, q ≤ n ∧ PS H2 C q 1 ∧ s2 0 57 = (q : Int))) := by
  obtain ⟨H1, k1, k2, k3⟩ := e_skip ct hi pn ps (Or.inl rfl)
  obtain ⟨s1, m1, m2, m3, m4, m5⟩ := m_mt (wds.getD i []) p s hu lk e1 pn
  have ct1 := ct.cw k2
  rcases k3 with ⟨w, -⟩ | ⟨-, w, w3⟩
  · exact absurd w (by decide)
  · rcases w with ⟨w1, w2⟩ | ⟨w1, w2⟩
    · obtain ⟨v, H2, u1, u2, u3⟩ := e_num ct1 w3 w2
      obtain ⟨dr, s2, o1, o2, o3⟩ := m_digits (lk.sr m1) m2 m3
      rcases u3 with ⟨a1, a2, a3, a4, a5⟩ | ⟨a1, a2⟩
      · rcases o3 with ⟨b1, b2, b3, b4⟩ | ⟨b1, b2, b3⟩
        · have nz := nmb_le (n := n) (f := f) 3 (mt n f (wds.getD i []) p).2 0
          refine ⟨v, H1, H2, s2, true, k1, u1, ⟨k2, u2⟩, m1.tr o2, fun K => ?_, Or.inl ⟨rfl, _, _, ⟨by omega, a4, a5⟩, a3, b3, b4, a2⟩⟩
          rw [m5, if_pos w1, if_pos rfl]
          show ybd (gM_digits s1) _ = _
          rw [o1, ybd_s, b2, if_neg (by decide)]
        · exact absurd a1 b1
      · rcases o3 with ⟨b1, b2, b3, b4⟩ | ⟨b1, b2, b3⟩
        · exact absurd b1 a1
        · refine ⟨v, H1, H2, s2, false, k1, u1, ⟨k2, u2⟩, m1.tr o2, fun K => ?_, Or.inr ⟨rfl, _, w3, a2, b3⟩⟩
          rw [m5, if_pos w1, if_neg (by decide)]
          show ybd (gM_digits s1) _ = _
          rw [o1, ybd_s, b2, if_pos rfl]
    · obtain ⟨v, H2, u1, u2, u3⟩ := e_num1 ct1 w2
      refine ⟨v, H1, H2, s1, false, k1, u1, ⟨k2, u2⟩, m1, fun K => ?_, Or.inr ⟨rfl, _, w3, u3, m2⟩⟩
      rw [m5, w1, if_neg (by decide), if_neg (by decide)]
/-- what a term of life or least changes -/
def TRM (c C : Nat) (H : zHp) (s : zSg) (H' : zHp) (s' : zSg) : Prop := s' 49 c = s 49 c ∧ (zct H' C 7 = zct H C 7 ∧ zct H' C 11 = zct H C 11 ∧ zct H' C 12 = zct H C 12) ∧ ∃ num : Nat, num ≤ 999 ∧ ((s' 47 c = (num : Int) ∧ zct H' C 5 = (num : Int) ∧ s' 48 c = s 48 c ∧ zct H' C 6 = zct H C 6) ∨ (s' 48 c = (num : Int) ∧ zct H' C 6 = (num : Int) ∧ s' 47 c = s 47 c ∧ zct H' C 5 = zct H C 5))
theorem wds_lt (i : Nat) : ∀ u ∈ wds.getD i [], u < 128 := by
  by_cases h : i < 12
  · have : ∀ i : Fin 12, ∀ u ∈ wds.getD i.val [], u < 128 := by decide
    exact this ⟨i, h⟩
  · intro u hu
    rw [List.getD_eq_getElem?_getD, List.getElem?_eq_none (by show 12 ≤ i; omega)] at hu
    exact absurd hu (List.not_mem_nil)
theorem term_ok (h : PRC c C n f E p l i H s) (c12 : c ≤ 12) (g : chr1 n f p = 108) : ∃ H' v s', fContract_readTerm E C H = some ((), H') ∧ gM_clause s = some (v, s') ∧ (CW C H H' ∧ SCL c i l s s') ∧ ((CLG c C n p l H' v s' l ∧ TRM c C H s H' s') ∨ CLF C n H' v s') := by
  obtain ⟨ct, ⟨ps, p1, p2⟩, lk, ⟨e1, e2, e3⟩, d8, e49, i7⟩ := id h
  have n120 := lk.2.1
  have pn : p < n := chr_lt (n := n) (f := f) (p := p) (by omega)
  obtain ⟨x, x1, x2⟩ := m_look lk e1
  have xa : ¬ x = 97 := fun w => by have := (x2 97 (by omega) (by omega)).mp w; omega
  have xr : ¬ x = 114 := fun w => by have := (x2 114 (by omega) (by omega)).mp w; omega
  have tk := m_takes lk e1 p1 (u := 108) (by omega) (by omega)
  rw [if_pos g] at tk
  obtain ⟨s1, es1⟩ : ∃ s1, s1 = zup s 0 57 ((p + 1 : Nat) : Int) := ⟨_, rfl⟩
  rw [← es1] at tk
  have sc1 : SR s s1 := by rw [es1]; exact SR.up (Or.inl rfl)
  have f1 : s1 0 57 = ((p + 1 : Nat) : Int) := by rw [es1]; rfl
  have lk1 := lk.sr sc1
  obtain ⟨y, y1, y2⟩ := m_look lk1 f1
  have n10 : ¬ (1 : Int) = 0 := by decide
  obtain ⟨H1, k1, k2, k3⟩ := e_skip ct (i := 0) (by omega) p1 ps (Or.inl rfl)
  have em : mt n f (wds.getD 0 []) p = (true, p + 1) := by
    show (if chr1 n f p = ((108 : Nat) : Int) then ((true, p + 1) : Bool × Nat) else (false, p)) = (true, p + 1)
    rw [if_pos (show chr1 n f p = ((108 : Nat) : Int) from g)]
  rw [em] at k3
  have ps1 : PS H1 C (p + 1) 0 := by
    rcases k3 with ⟨w, -⟩ | ⟨-, ⟨-, w⟩ | ⟨w, -⟩, -⟩
    · exact absurd w (by decide)
    · exact w
    · exact Bool.noConfusion (show true = false from w)
  have ct1 := ct.cw k2
  obtain ⟨r, H2, r1, r2, r3⟩ := e_pick0 ct1 ps1 pn (i := 1) (by omega)
  have ct2 := ct1.cw r2
  have w2 := k2.tr r2
  rcases r3 with ⟨j, j1, j2, j3, j4, j5⟩ | ⟨j1, j2, j3⟩
  · have j20 : j < 2 := j2
    rcases (show j = 0 ∨ j = 1 by omega) with rfl | rfl
    · have g2 : chr1 n f (p + 1) = 105 := j3
      have y3 := (y2 105 (by omega) (by omega)).mpr g2
      rw [show r = 0 from j1] at r1
      obtain ⟨s2, es2⟩ : ∃ s2, s2 = zup s1 0 57 ((p + 1 + 1 : Nat) : Int) := ⟨_, rfl⟩
      have sc2 : SR s s2 := by rw [es2]; exact sc1.tr (SR.up (Or.inl rfl))
      have f2 : s2 0 57 = ((p + 1 + 1 : Nat) : Int) := by rw [es2]; rfl
      obtain ⟨v, H3, H4, s3, b, q1, q2, ⟨q3, q4⟩, q5, q6, q7⟩ := wn ct2 j4 j5 (lk.sr sc2) f2 (i := 2) (by omega) (wds_lt 2)
      have ct3 := ct2.cw q3
      have ct4 := ct3.cw q4
      have w4 := (w2.tr q3).tr q4
      have sc3 := sc2.tr q5
      have ec : fContract_readTerm E C H = some ((), zwr H4 C 5 v) := by
        unfold fContract_readTerm
        simp only [yjn, yck, ct.1.1, ct1.1.1, ct2.1.1, ct3.1.1, ct4.1.1, zA1, if_true, k1, ybd_s, r1, q1, q2, n10, if_false, ypi]
      have er : gM_clause s = gTk (wds.getD 2 []) s2 (fun s1 => ybd (gM_digits s1) fun v s' => if v = 0 then some (0, s') else ywi 13 47 (s' 0 59) (s' 0 61) s' fun s35 => some (1, s35)) := by
        unfold gM_clause
        simp only [yjn, x1, ybd_s, xa, xr, if_false, tk, n10, y1, y3, if_true, yvl, m_next f1 (by omega), ← es2]
        rfl
      have r59 : s3 0 59 = (c : Int) := (sc3 0 59 (by omega)).trans e3
      rcases q7 with ⟨rfl, q, num, ⟨a1, a2, a3⟩, a4, a5, a6, a7⟩ | ⟨rfl, q, a1, a2, a3⟩
      · refine ⟨zwr H4 C 5 v, 1, zup s3 47 c (num : Int), ec, ?_, ⟨w4.w.tr (CW.wr (by omega)), (SCL.of (SC.of sc3)).tr (SCL.up (by omega)) (Nat.le_refl _) (Nat.le_refl _)⟩, Or.inl ⟨⟨rfl, q, ⟨by omega, a2, Nat.le_refl _, by omega⟩, a4.cell (by omega), a5, (sc3 0 58 (by omega)).trans e2⟩, ?_⟩⟩
        · rw [er, q6, if_pos rfl, r59, a6, ywi_n (by omega)]
        · refine ⟨sc3 49 c (by omega), ⟨?_, ?_, ?_⟩, num, a3, Or.inl ⟨?_, ?_, sc3 48 c (by omega), ?_⟩⟩
          · rw [zct_wr, if_neg (by omega)]; exact w4.2.2 7 (by omega)
          · rw [zct_wr, if_neg (by omega)]; exact w4.2.2 11 (by omega)
          · rw [zct_wr, if_neg (by omega)]; exact w4.2.2 12 (by omega)
          · show zup s3 47 c (num : Int) 47 c = _
            unfold zup
            rw [if_pos ⟨rfl, rfl⟩]
          · rw [zct_wr, if_pos ⟨rfl, rfl⟩]; exact a7
          · rw [zct_wr, if_neg (by omega)]; exact w4.2.2 6 (by omega)
      · refine ⟨zwr H4 C 5 v, 0, s3, ec, ?_, ⟨w4.w.tr (CW.wr (by omega)), SCL.of (SC.of sc3)⟩, Or.inr ⟨rfl, q, a1, a2.cell (by omega), a3⟩⟩
        rw [er, q6, if_neg (by decide)]
    · have g2 : chr1 n f (p + 1) = 101 := j3
      have y3 : ¬ y = 105 := fun w => by have := (y2 105 (by omega) (by omega)).mp w; omega
      rw [show r = 1 from j1] at r1
      have tk2 := m_takes lk1 f1 pn (u := 101) (by omega) (by omega)
      rw [if_pos g2] at tk2
      obtain ⟨s2, es2⟩ : ∃ s2, s2 = zup s1 0 57 ((p + 1 + 1 : Nat) : Int) := ⟨_, rfl⟩
      rw [← es2] at tk2
      have sc2 : SR s s2 := by rw [es2]; exact sc1.tr (SR.up (Or.inl rfl))
      have f2 : s2 0 57 = ((p + 1 + 1 : Nat) : Int) := by rw [es2]; rfl
      obtain ⟨v, H3, H4, s3, b, q1, q2, ⟨q3, q4⟩, q5, q6, q7⟩ := wn ct2 j4 j5 (lk.sr sc2) f2 (i := 3) (by omega) (wds_lt 3)
      have ct3 := ct2.cw q3
      have ct4 := ct3.cw q4
      have w4 := (w2.tr q3).tr q4
      have sc3 := sc2.tr q5
      have ec : fContract_readTerm E C H = some ((), zwr H4 C 6 v) := by
        unfold fContract_readTerm
        simp only [yjn, yck, ct.1.1, ct1.1.1, ct2.1.1, ct3.1.1, ct4.1.1, zA1, if_true, k1, ybd_s, r1, q1, q2, n10, if_false, ypi]
      have er : gM_clause s = gTk (wds.getD 3 []) s2 (fun s1 => ybd (gM_digits s1) fun v s' => if v = 0 then some (0, s') else ywi 13 48 (s' 0 59) (s' 0 61) s' fun s35 => some (1, s35)) := by
        unfold gM_clause
        simp only [yjn, x1, ybd_s, xa, xr, if_false, tk, n10, y1, y3, tk2]
        rfl
      have r59 : s3 0 59 = (c : Int) := (sc3 0 59 (by omega)).trans e3
      rcases q7 with ⟨rfl, q, num, ⟨a1, a2, a3⟩, a4, a5, a6, a7⟩ | ⟨rfl, q, a1, a2, a3⟩
      · refine ⟨zwr H4 C 6 v, 1, zup s3 48 c (num : Int), ec, ?_, ⟨w4.w.tr (CW.wr (by omega)), (SCL.of (SC.of sc3)).tr (SCL.up (by omega)) (Nat.le_refl _) (Nat.le_refl _)⟩, Or.inl ⟨⟨rfl, q, ⟨by omega, a2, Nat.le_refl _, by omega⟩, a4.cell (by omega), a5, (sc3 0 58 (by omega)).trans e2⟩, ?_⟩⟩
        · rw [er, q6, if_pos rfl, r59, a6, ywi_n (by omega)]
        · refine ⟨sc3 49 c (by omega), ⟨?_, ?_, ?_⟩, num, a3, Or.inr ⟨?_, ?_, sc3 47 c (by omega), ?_⟩⟩
          · rw [zct_wr, if_neg (by omega)]; exact w4.2.2 7 (by omega)
          · rw [zct_wr, if_neg (by omega)]; exact w4.2.2 11 (by omega)
          · rw [zct_wr, if_neg (by omega)]; exact w4.2.2 12 (by omega)
          · show zup s3 48 c (num : Int) 48 c = _
            unfold zup
            rw [if_pos ⟨rfl, rfl⟩]
          · rw [zct_wr, if_pos ⟨rfl, rfl⟩]; exact a7
          · rw [zct_wr, if_neg (by omega)]; exact w4.2.2 5 (by omega)
      · refine ⟨zwr H4 C 6 v, 0, s3, ec, ?_, ⟨w4.w.tr (CW.wr (by omega)), SCL.of (SC.of sc3)⟩, Or.inr ⟨rfl, q, a1, a2.cell (by omega), a3⟩⟩
        rw [er, q6, if_neg (by decide)]
  · have h0 : chr1 n f (p + 1) ≠ 105 := j2 0 (by decide)
    have h1 : chr1 n f (p + 1) ≠ 101 := j2 1 (by decide)
    have y3 : ¬ y = 105 := fun w => h0 ((y2 105 (by omega) (by omega)).mp w)
    rw [j1] at r1
    have tk2 := m_takes lk1 f1 pn (u := 101) (by omega) (by omega)
    rw [if_neg h1] at tk2
    obtain ⟨H3, q1, q2, q3⟩ := e_skip ct2 (i := 3) (by omega) pn j3 (Or.inr rfl)
    have ps3 : PS H3 C (p + 1) 1 := by
      rcases q3 with ⟨-, w⟩ | ⟨w, -⟩
      · exact w
      · exact absurd w (by decide)
    have ct3 := ct2.cw q2
    obtain ⟨v, H4, u1, u2, u3⟩ := e_num1 ct3 ps3
    have ct4 := ct3.cw u2
    refine ⟨zwr H4 C 6 v, 0, s1, ?_, ?_, ⟨((w2.tr q2).tr u2).w.tr (CW.wr (by omega)), SCL.of (SC.of sc1)⟩, Or.inr ⟨rfl, p + 1, pn, u3.cell (by omega), f1⟩⟩
    · unfold fContract_readTerm
      simp only [yjn, yck, ct.1.1, ct1.1.1, ct2.1.1, ct3.1.1, ct4.1.1, zA1, if_true, k1, ybd_s, r1, q1, u1, show ¬ (-1 : Int) = 0 by decide, if_false, ypi]
    · unfold gM_clause
      simp only [yjn, x1, ybd_s, xa, xr, if_false, tk, n10, y1, y3, tk2, if_true]
end CLAUSE
