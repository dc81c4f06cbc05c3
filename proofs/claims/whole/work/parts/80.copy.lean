/-! A BAR copied; a BAR read while a thing is made; cells of a thing that is made -/
theorem e_shiftG {p l t tr lo hi : Int} (hn : NR lo hi p l t) (b1 : -99 ≤ lo) (b2 : hi ≤ 1000) (b3 : -99 ≤ lo + tr) (b4 : hi + tr ≤ 1000) (b5 : -100 ≤ tr ∧ tr ≤ 100) {H : zHp} : fH_shifted (ncode p l t) tr H = some (ncode (rpit p tr) l t, H) ∧ NR (lo + tr) (hi + tr) (rpit p tr) l t := by
  obtain ⟨n1, n2, n3, n4⟩ := hn
  have hp : p = -1000 ∨ (-99 ≤ p ∧ p ≤ 1000) := by omega
  unfold fH_shifted rpit
  rw [e_isRest ⟨n2, n3⟩ n4 hp, ybd_s]
  by_cases h : p = -1000
  · rw [if_pos h, if_neg (by omega), if_pos h, h]
    exact ⟨rfl, Or.inl ⟨rfl, by omega⟩, n2, n3, n4⟩
  · rw [if_neg h, if_pos rfl, if_neg h]
    refine ⟨?_, Or.inr (by omega), n2, n3, n4⟩
    unfold ncode
    rw [if_neg h, if_neg (by omega), zmul_e (by omega) (by omega), zadd_e (by omega) (by omega)]
    congr 2
    omega
theorem BarH.bx {H H' : zHp} {b c : Nat} (h : BarH H c) (hb : zbx b H H') (n1 : c + 1 ≤ znx H) (d : c = b ∨ (c ≠ b ∧ c ≠ b + 1)) : BarH H' c := by
  obtain ⟨h1, h2, h3, h4⟩ := h
  refine ⟨by rw [(hb.1.2.2 _ (by omega)).1]; exact h1, ?_, by rw [(hb.1.2.2 _ n1).1]; exact h3, by rw [(hb.1.2.2 _ n1).2]; exact h4⟩
  rcases d with d | d
  · subst d; rw [hb.2.2.2.1]; exact h2
  · rw [hb.2.2.2.2 _ _ d.1 d.2]; exact h2
theorem BarV.bx {H H' : zHp} {b c : Nat} {m : Int} {P L T : Nat → Int} (h : BarV H c m P L T) (hb : zbx b H H') (d1 : c ≠ b ∧ c ≠ b + 1) (d2 : c + 1 ≠ b) : BarV H' c m P L T :=
  h.fc (fun k => hb.2.2.2.2 _ k d1.1 d1.2) (fun k => hb.2.2.2.2 _ k d2 (by omega)) rfl (fun _ _ => rfl) (fun _ _ => rfl) (fun _ _ => rfl)
theorem e_copy_l {H : zHp} {b c M : Nat} {P L T : Nat → Int} {tr lo hi : Int} (hb : BarH H b) (hc : BarH H c) (vc : BarV H c (M : Int) P L T) (nc : ∀ i, i < M → NR lo hi (P i) (L i) (T i)) (b1 : -99 ≤ lo) (b2 : hi ≤ 1000) (b3 : -99 ≤ lo + tr) (b4 : hi + tr ≤ 1000) (b5 : -100 ≤ tr ∧ tr ≤ 100) (d1 : c ≠ b ∧ c ≠ b + 1) (d2 : c + 1 ≠ b) (x1 : b + 1 ≤ znx H) (x2 : c + 1 ≤ znx H) :
    ∀ (n f i : Nat) (H1 : zHp), M - i = n → n < f → i ≤ M → zbx b H H1 → BarV H1 b (i : Int) (fun j => rpit (P j) tr) L T → ∃ H2, fBar_copyShifted_l1 f b c tr (i : Int) H1 = some ((), H2) ∧ zbx b H H2 ∧ BarV H2 b (M : Int) (fun j => rpit (P j) tr) L T := by
  intro n
  induction n with
  | zero =>
    intro f i H1 h1 h2 h3 z v
    obtain ⟨f, rfl⟩ : ∃ f', f = f' + 1 := ⟨f - 1, by omega⟩
    obtain rfl : i = M := by omega
    refine ⟨H1, ?_, z, v⟩
    obtain ⟨c1, c2, c3, c4⟩ := hc.bx z x2 (Or.inr d1)
    have vc1 := vc.bx z d1 d2
    rw [fBar_copyShifted_l1]
    simp only [ygi, c1, zA0, if_true, vc1.1]
    rw [if_neg (by omega)]
  | succ n ih =>
    intro f i H1 h1 h2 h3 z v
    obtain ⟨f, rfl⟩ : ∃ f', f = f' + 1 := ⟨f - 1, by omega⟩
    obtain ⟨c1, c2, c3, c4⟩ := hc.bx z x2 (Or.inr d1)
    obtain ⟨t1, t2, t3, t4⟩ := hb.bx z x1 (Or.inl rfl)
    have vc1 := vc.bx z d1 d2
    have m8 := vc1.2.2.1
    have nr := nc i (by omega)
    obtain ⟨sh1, sh2⟩ := e_shiftG nr b1 b2 b3 b4 b5 (H := H1)
    have hl : 1 ≤ L i ∧ L i ≤ 12 := ⟨nr.2.1, nr.2.2.1⟩
    have hi : 0 ≤ (i : Int) ∧ (i : Int) < ((8 : Nat) : Int) := by omega
    have hzs := zsum_b (f := L) i (fun j hj => by have := (nc j (by omega)).2; omega)
    have v2 : zct H1 b 2 = zsum L i := by have := v.2.1; rw [Int.toNat_natCast] at this; exact this
    have ea := e_addNote (H := H1) (b := b) (m := i) (c := ncode (rpit (P i) tr) (L i) (T i)) (l := L i) t1 t2 t3 t4 v.1 (by omega) (by rw [v2]; omega) (fun H => e_lengthOf hl nr.2.2.2 (by rcases sh2.1 with w | w <;> omega)) hl
    have e : zadd (i : Int) 1 = ((i + 1 : Nat) : Int) := by rw [zadd_e (by omega) (by omega)]; omega
    have run : fBar_copyShifted_l1 (f + 1) b c tr (i : Int) H1 = fBar_copyShifted_l1 f b c tr ((i + 1 : Nat) : Int) (zwr (zwr (zwr H1 (b + 1) i (ncode (rpit (P i) tr) (L i) (T i))) b 1 ((i : Int) + 1)) b 2 (zct H1 b 2 + L i)) := by
      rw [fBar_copyShifted_l1]
      simp only [yck, yvl, ygi, ygr, yai, c1, t1, zA0, if_true, vc1.1, c2, Int.toNat_natCast, c3, c4, true_or, true_and, hi, vc1.2.2.2 i (by omega), sh1, ybd_s, ea, e]
      rw [if_pos (by omega)]
    rw [run]
    refine ih f (i + 1) _ (by omega) (by omega) (by omega) (z.tr ⟨(by repeat first | exact zst.rf | apply zst.wr), rfl, rfl, ?_, fun a k g1 g2 => ?_⟩) ⟨?_, ?_, by omega, fun j hj => ?_⟩
    · rw [zct_wr, if_neg (by omega), zct_wr, if_neg (by omega), zct_wr, if_neg (by omega)]
    · rw [zct_wr, if_neg (by omega), zct_wr, if_neg (by omega), zct_wr, if_neg (by omega)]
    · rw [zct_wr, if_neg (by omega), zct_wr, if_pos ⟨rfl, rfl⟩]
      omega
    · rw [zct_wr, if_pos ⟨rfl, rfl⟩, v2, Int.toNat_natCast]
      rfl
    · rw [zct_wr, if_neg (by omega), zct_wr, if_neg (by omega), zct_wr]
      by_cases ej : j = i
      · subst ej
        rw [if_pos ⟨rfl, rfl⟩]
      · rw [if_neg (fun w => ej w.2)]
        exact v.2.2.2 j (by omega)
theorem e_copy {H : zHp} {b c M : Nat} {P L T : Nat → Int} {tr lo hi : Int} (hb : BarH H b) (hc : BarH H c) (vc : BarV H c (M : Int) P L T) (nc : ∀ i, i < M → NR lo hi (P i) (L i) (T i)) (b1 : -99 ≤ lo) (b2 : hi ≤ 1000) (b3 : -99 ≤ lo + tr) (b4 : hi + tr ≤ 1000) (b5 : -100 ≤ tr ∧ tr ≤ 100) (d1 : c ≠ b ∧ c ≠ b + 1) (d2 : c + 1 ≠ b) (x1 : b + 1 ≤ znx H) (x2 : c + 1 ≤ znx H) :
    ∃ H2, fBar_copyShifted b c tr H = some ((), H2) ∧ zbx b H H2 ∧ BarV H2 b (M : Int) (fun j => rpit (P j) tr) L T := by
  have m8 := vc.2.2.1
  have hcl : fBar_clearNotes b H = some ((), zwr (zwr H b 1 0) b 2 0) := by
    unfold fBar_clearNotes
    simp only [ypi, hb.1, zA0, if_true, ztg_wr]
  have zb : zbx b H (zwr (zwr H b 1 0) b 2 0) := by
    refine ⟨(by repeat first | exact zst.rf | apply zst.wr), rfl, rfl, ?_, fun a k g1 g2 => ?_⟩
    · rw [zct_wr, if_neg (by omega), zct_wr, if_neg (by omega)]
    · rw [zct_wr, if_neg (by omega), zct_wr, if_neg (by omega)]
  obtain ⟨H2, q1, q2, q3⟩ := e_copy_l hb hc vc nc b1 b2 b3 b4 b5 d1 d2 x1 x2 M zFU 0 (zwr (zwr H b 1 0) b 2 0) (by omega) (by rw [zFU_e]; omega) (by omega) zb ⟨by rw [zct_wr, if_neg (by omega), zct_wr, if_pos ⟨rfl, rfl⟩]; rfl, by rw [zct_wr, if_pos ⟨rfl, rfl⟩]; rfl, by omega, fun i hi => absurd hi (by omega)⟩
  refine ⟨H2, ?_, q2, q3⟩
  unfold fBar_copyShifted
  simp only [yck, hb.1, zA0, if_true, hcl, ybd_s]
  exact q1
section READG
variable {X : Nat} {H : zHp} {s : zSg} {A : Nat → Nat} {B : Nat → Nat → Nat} {K : Nat → Nat} {ow : Nat → Nat × Nat} {t : Nat}
set_option maxRecDepth 100000 in
theorem e_readG (I : IV X H s A B K ow) (ht : (t : Int) < s 0 2) (hk : s 3 t = 2 ∨ s 3 t = 5) {b : Nat} (hb : (b : Int) < wholeN s (s 4 t).toNat (s 5 t).toNat) {s1 : zSg} (r10 : s1 10 = s 10) (r11 : s1 11 = s 11) (r12 : s1 12 = s 12) (r13 : s1 13 = s 13) (r4 : s1 4 t = s 4 t) (r5 : s1 5 t = s 5 t) (r6 : s1 6 t = s 6 t) :
    ∃ H' s' m, fPart_barAsRead (A t) (b : Int) H = some (B t 0, H') ∧ gM_readBar (t : Int) (b : Int) s1 = some ((), s') ∧ m ≤ 8 ∧ 1 ≤ m ∧ zbx (B t 0) H H' ∧ zrs s1 s' ∧ RB H' (B t 0) s' m := by
  have hn := I.n
  obtain ⟨m0, ⟨a0, a1, a2, a3, a4, a5, a6, a7⟩, bo⟩ := (I.to ht).2.1 hk
  obtain ⟨b0, b1, b2, b3, b4, b5⟩ := bo
  obtain ⟨⟨p1, p2⟩, p3, ⟨p4, p5⟩, p6, -⟩ := (I.st ht).2.2.1 hk
  have hu : (((s 4 t).toNat : Nat) : Int) < s 0 2 := by omega
  have g8 := I.tg hu (c := 8) (tgk_8.mpr p3)
  have hs := (I.st hu).2.1 p3
  have hs6 := hs.2.1
  have hw := wholeN_b (v := (s 5 t).toNat) (by omega) hs
  obtain ⟨i1, i2⟩ := (whole_iff (b := b) (v := (s 5 t).toNat) (by omega) hs).mp hb
  obtain ⟨co, cv, bi⟩ := I.bar (v := (s 5 t).toNat) (b := b) hu p3 (by omega) i1
  obtain ⟨c0, c1, c2, c3, c4, c5⟩ := co
  have e5 := m_barAt (t := (s 4 t).toNat) (v := (s 5 t).toNat) (b := b) (s := s1) (by omega) (by omega) (by omega)
  rw [Int.toNat_of_nonneg p1, Int.toNat_of_nonneg p4] at e5
  generalize hq : 80 * (s 4 t).toNat + 20 * (s 5 t).toNat + b = q at *
  generalize hc : B (s 4 t).toNat (20 * (s 5 t).toNat + b) = c at *
  have hpos := b0.1
  have hcp := c0.1
  have hcl : fBar_clearNotes (B t 0) H = some ((), zwr (zwr H (B t 0) 1 0) (B t 0) 2 0) := by
    unfold fBar_clearNotes
    simp only [ypi, b2, zA0, if_true, ztg_wr]
  have zb : zbx (B t 0) H (zwr (zwr H (B t 0) 1 0) (B t 0) 2 0) := by
    refine ⟨(by repeat first | exact zst.rf | apply zst.wr), rfl, rfl, ?_, fun a k g1 g2 => ?_⟩
    · rw [zct_wr, if_neg (by omega), zct_wr, if_neg (by omega)]
    · rw [zct_wr, if_neg (by omega), zct_wr, if_neg (by omega)]
  have zs : zrs s1 (zup s1 0 16 0) := fun i j h1 h2 h3 h4 => by simp [zup, h4]
  have rb : RB (zwr (zwr H (B t 0) 1 0) (B t 0) 2 0) (B t 0) (zup s1 0 16 0) 0 := by
    refine ⟨⟨?_, ?_, by omega, fun i hi => absurd hi (by omega)⟩, rfl, fun i hi => absurd hi (by omega)⟩
    · rw [zct_wr, if_neg (by omega), zct_wr, if_pos ⟨rfl, rfl⟩]; rfl
    · rw [zct_wr, if_pos ⟨rfl, rfl⟩]; rfl
  have hN8 := bi.1
  have e6 : zct H (A t) 6 = ((B t 0 : Nat) : Int) := a7
  have bi1 : BI s1 q (s 5 (s 4 t).toNat) := by
    unfold BI
    rw [r10, r11, r12, r13]
    exact bi
  have cv1 : BarV H c (s1 13 q) (sh (s1 10) (8 * q)) (sh (s1 11) (8 * q)) (sh (s1 12) (8 * q)) := by
    rw [r10, r11, r12, r13]
    exact cv
  have r13q : s1 13 q = s 13 q := by rw [r13]
  obtain ⟨H2, s2, m2, q1, q2, q3, q4, q5, q6, q7⟩ := e_read_l (H := H) (a := A t) (b := B t 0) (c := c) (q := q) (N := (s 13 q).toNat) (me := s 5 (s 4 t).toNat) (s := s1) (t := t) b2 b3 b4 b5 a0 (by rw [e6]; exact Int.toNat_natCast _) (by rw [r6]; exact a5) c2 c3 c4 c5 ⟨by omega, b1.2.1⟩ m0.2.1 c1.2.1 ⟨m0.ne b0 (Or.inl (by omega)), m0.ne b1 (Or.inl (by omega))⟩ ⟨c0.ne b0 (Or.inr (by omega)), c0.ne b1 (Or.inl (by omega))⟩ ⟨c1.ne b0 (Or.inl (by omega)), c1.ne b1 (Or.inr (by omega))⟩ bi1 (by have := hs.1; omega) (by omega) cv1 (by omega) (by omega) (by rw [r6]; exact p6) (s 13 q).toNat zFU zFU 0 0 _ _ rfl (by rw [zFU_e]; omega) (by rw [zFU_e]; omega) (by omega) (by omega) zb zs rb rfl
  have hsum : zsum (s2 18) m2 = s 5 (s 4 t).toNat := by rw [q7, r11]; exact i2
  refine ⟨H2, s2, m2, ?_, ?_, by omega, ?_, q4, q5, q6⟩
  · have hcnd : (0 ≤ s 5 t ∧ s 5 t ≤ s 6 (s 4 t).toNat - 1) ∧ 0 ≤ (b : Int) ∧ (b : Int) < wholeN s (s 4 t).toNat (s 5 t).toNat := by omega
    have q1' := q1 (fun (x21 : Nat) (s22 : zHp) => ygr 5 6 x21 s22 fun p23 => some (p23, s22))
    unfold fPart_barAsRead
    simp only [ygr, ygi, a0, zA5, if_true, a3, Int.toNat_natCast, a4, yck, g8, e_wholeBar I hu p3, ybd_s, hcnd, and_self, hc, show ¬ c = 0 by omega, if_false, e6, b2, zA0, hcl]
    refine q1'.trans ?_
    have tA : ztg H2 (A t) = 6 := by rw [(q4.1.2.2 _ m0.2.1).1]; exact a0
    have cA : zct H2 (A t) 6 = ((B t 0 : Nat) : Int) := by rw [q4.2.2.2.2 _ _ (m0.ne b0 (Or.inl (by omega))) (m0.ne b1 (Or.inl (by omega)))]; exact e6
    simp only [ygr, tA, zA5, if_true, cA, Int.toNat_natCast]
  · unfold gM_readBar
    simp only [yrd_n (show t < 60 by omega), r4, r5, e5, ybd_s, yvl]
    exact q2
  · by_cases g : m2 = 0
    · subst g
      have : zsum (s2 18) 0 = 0 := rfl
      have := hs.1
      omega
    · omega
/-- the invariant over changes of cells that belong to no thing yet -/
theorem IV.sep {H' : zHp} {ow' : Nat → Nat × Nat} {n : Nat} (I : IV X H s A B K ow) (hn : s 0 2 ≤ (n : Int)) (h59 : n ≤ 59) (h1 : zst H H') (hf : ∀ a k, a ≤ znx H → (ow a).1 ≠ n + 1 → zct H' a k = zct H a k) (hw : ∀ a, a ≤ znx H → ow' a = ow a) : IV X H' s A B K ow' := by
  obtain ⟨F, ⟨k1, k2, k3, k4, k5, k6, k7, k8, k9, k10⟩, kt, kc, ks, ko⟩ := I
  have hX := F.2.1.1
  have fx : zfx X [] H H' := fun o k h1 h2 => hf _ _ (by omega) (by rw [ko _ (by omega)]; omega)
  have hc : zfc [] (zcx X H) (zcx X H') := fun o k a b => fx o k a b
  have rf : zfs [] s s := zfs.rf
  have how : ∀ o, o ≠ n + 1 → zown ow o H H' := fun o ho a ha hb k => hf a k ha (by rw [hb]; exact ho)
  refine ⟨F.fr h1 fx rfl, ⟨k1.fr hc rf rfl, k2.fr hc rf rfl (fun _ _ => rfl), k3.fr hc rf rfl, ?_, k5.fr hc rf rfl, k6.fr hc rf rfl, k7.fr hc rf rfl, k8.fr hc rf rfl, k9.fr hc rf rfl, k10.fr hc rf rfl⟩, fun t ht => ?_, fun c hcn => ?_, ks, fun a ha => ?_⟩
  · obtain ⟨a1, a2, a3, a4⟩ := k4
    unfold G4
    rw [hc 0 12 (by omega) rfl]
    exact ⟨a1, a2, a3, fun k hk => by rw [hc 11 k (by omega) rfl]; exact a4 k hk⟩
  · obtain ⟨to, eo⟩ := kt t ht
    have st := ks.1 t ht
    refine ⟨to.fr zts.rf h1 (how _ (by omega)) hw rfl rfl (fun _ => rfl) (fun w v hv => ((st.2.1 w).2.2.2.2.2 v hv).1.2) (fun w => (st.2.2.2.1 w).2.2.2.1.2), fun w => ?_⟩
    obtain ⟨e1, e2⟩ := eo w
    obtain ⟨⟨m0, -, -, -, m4⟩, -⟩ := to.2.2.2.1 w
    refine ⟨?_, fun j hj => ?_⟩
    · rw [m0.ct (how _ (by omega))]; exact e1
    · rw [m4.ct (how _ (by omega))]; exact e2 j hj
  · have := k4.2.2.1
    exact (kc c hcn).fr rf rfl h1 (how _ (by omega)) hw
  · rw [hw a (by omega)]
    exact ko a ha
end READG
