section EDITION2
variable {X : Nat} {s : zSg} {A : Nat → Nat} {B : Nat → Nat → Nat} {K : Nat → Nat} {n N0 : Nat}
set_option maxRecDepth 100000 in
theorem edition1 {H0 H1 : zHp} {sA : zSg} {ow0 ow : Nat → Nat × Nat} {Bn : Nat → Nat} {Sc c : Nat} {pc sc : Int} (I : IV X H1 s A B K ow) (hn : s 0 2 = (n : Int)) (h59 : n ≤ 59) (hX : X + 99 ≤ N0) (eh : EHp X H0 H1 ow0 ow n N0 Sc pc c) (eb : EB X H1 sA ow Bn n N0) (er : ERf s sA n sc pc) {t b : Nat} (ht : t < n) (hk : s 3 t = 3) (hb : (b : Int) < s 6 t) :
    ∃ (H2 : zHp) (sB : zSg) (ow2 : Nat → Nat × Nat) (Bn2 : Nat → Nat), (∀ f, fEdition_takePlate_l3 (f + 1) (N0 + 1) (A t) (b : Int) H1 = fEdition_takePlate_l3 f (N0 + 1) (A t) ((b + 1 : Nat) : Int) H2) ∧ (∀ (f : Nat) (y : Int) Q, gM_edition_l4 (f + 1) (n : Int) y (t : Int) (s 6 (s 4 t).toNat) (b : Int) sA Q = gM_edition_l4 f (n : Int) y (t : Int) (s 6 (s 4 t).toNat) ((b + 1 : Nat) : Int) sB Q) ∧
      IV X H2 s A B K ow2 ∧ EHp X H0 H2 ow0 ow2 n N0 Sc pc (c + 1) ∧ ERf s sB n sc pc ∧ EB X H2 sB ow2 Bn2 n N0 := by
  have ht' : (t : Int) < s 0 2 := by omega
  obtain ⟨p0, p1, p2, p3, p4, p5, p6, p7⟩ := I.plate ht' hk
  obtain ⟨-, ⟨pa0, pa1, pa2, pa3, pa4, pa5, pa6, pa7⟩, -⟩ := (I.to p1).2.1 p2
  obtain ⟨⟨q1, q2⟩, q3, ⟨q4, q5⟩, q6, -⟩ := (I.st p1).2.2.1 p2
  have hs6 := ((I.st (t := (s 4 (s 4 t).toNat).toNat) (by omega)).2.1 q3).2.1
  obtain ⟨v, ev⟩ : ∃ v : Nat, s 5 (s 4 t).toNat = (v : Int) := ⟨(s 5 (s 4 t).toNat).toNat, by omega⟩
  obtain ⟨fi, efi⟩ : ∃ fi : Nat, s 5 t = (fi : Int) := ⟨(s 5 t).toNat, by omega⟩
  obtain ⟨N, eN⟩ : ∃ N : Nat, s 6 t = (N : Int) := ⟨(s 6 t).toNat, by omega⟩
  obtain ⟨j, ej⟩ : ∃ j, j = 20 * v + fi + b := ⟨_, rfl⟩
  have hj : j < 80 := by omega
  obtain ⟨HB, ow2, Bn2, z, ez, run, IB, sB1, xB, uB, oB, rB, wB, bnB, bo⟩ := ed_bar I hn h59 hX eh eb hj
  obtain ⟨⟨m0, m1, m2⟩, ⟨a0, a1, a2, a3, a4, a5, a6⟩, ⟨l1, l2, l3, l4⟩, -, tb⟩ := (I.to ht').2.2.1 hk
  obtain ⟨⟨m0', m1', m2'⟩, ⟨a0', a1', a2', a3', a4', a5', a6'⟩, ⟨l1', l2', l3', l4'⟩, -, tb'⟩ := (IB.to ht').2.2.1 hk
  obtain ⟨-, ⟨pb0, pb1, pb2, pb3, pb4, pb5, pb6, pb7⟩, -⟩ := (IB.to p1).2.1 p2
  obtain ⟨t1, t2, t3⟩ := tb b hb
  obtain ⟨t1', t2', t3'⟩ := tb' b hb
  obtain ⟨⟨z1, z2⟩, nr⟩ := ((I.st ht').2.2.2.1 hk).2.2.2.2.2.2.1 b hb
  obtain ⟨m, em⟩ : ∃ m : Nat, s 23 (8 * t + b) = (m : Int) := ⟨(s 23 (8 * t + b)).toNat, by omega⟩
  rw [em] at t3' nr
  have bc0 := t2'.1
  have bc1 := t2'.2.1
  obtain ⟨bz0, bz1, bzh⟩ := id bo
  have tpos := bc0.1
  -- the copy
  obtain ⟨H2, d1, d2, d3⟩ := e_copy (tr := -s 6 (s 4 t).toNat) bo.h t2'.h t3' (fun i hi => nr i (by omega)) (by omega) (by omega) (by omega) (by omega) (by omega) (show B t b ≠ z ∧ B t b ≠ z + 1 from ⟨bc0.ne bz0 (Or.inr (by omega)), bc0.ne bz1 (Or.inr (by omega))⟩) (bc1.ne bz0 (Or.inr (by omega))) bz1.2.1 bc1.2.1
  have I2 : IV X H2 s A B K ow2 := IB.sep (n := n) (by omega) h59 d2.1 (fun q i w1 w2 => d2.2.2.2.2 q i (fun w => w2 (by rw [w, bz0.2.2])) (fun w => w2 (by rw [w, bz1.2.2]))) (fun _ _ => rfl)
  obtain ⟨h1, ⟨h2, h2'⟩, h3, h4, ⟨g1, g2, g3, g4, g5, g6, g7, g8, g9⟩, ⟨c0, c1, c2, c3, c4, c5, c6, c7, c8⟩, hm1, o1, o2⟩ := eh
  obtain ⟨r1, r2, r3, r4, r5, r6, r7, r8, r10⟩ := er
  have r1' : ∀ r, r ≠ 0 ∧ (r < 3 ∨ 6 < r) ∧ (r < 26 ∨ 29 < r) → sA r = s r := fun r hr => r1 r (by omega) (by omega) (by omega) (by omega) (by omega) (by omega) (by omega) (by omega) (by omega)
  -- cells that stand
  have zne : ∀ i, i < 5 → z ≠ N0 + 1 + i ∧ z + 1 ≠ N0 + 1 + i := fun i hi => by
    have w := wB (N0 + 1 + i) (by omega)
    rw [o1 i hi] at w
    refine ⟨fun e => ?_, fun e => ?_⟩
    · have := bz0.2.2
      rw [e, w] at this
      simp only [Prod.mk.injEq] at this
      omega
    · have := bz1.2.2
      rw [e, w] at this
      simp only [Prod.mk.injEq] at this
      omega
  have zN := zne 0 (by omega)
  have zN1 := zne 1 (by omega)
  have zN4 := zne 4 (by omega)
  have s12 : zst H1 H2 := sB1.tr d2.1
  have tH : ∀ q, q ≤ znx H1 → ztg H2 q = ztg H1 q ∧ zln H2 q = zln H1 q := fun q w => s12.2.2 q w
  have bt0 : B t b ≠ N0 + 2 := fun e => by
    have w := wB (N0 + 2) (by omega)
    have w2 := o1 1 (by omega)
    have w3 := bc0.2.2
    rw [e, w, show N0 + 2 = N0 + 1 + 1 by omega, w2] at w3
    simp only [Prod.mk.injEq] at w3
    omega
  have c2H : ∀ q i, q ≤ znx H1 → q ≠ N0 + 2 → q ≠ z → q ≠ z + 1 → zct H2 q i = zct H1 q i := fun q i w1 w2 w3 w4 => by rw [d2.2.2.2.2 q i w3 w4, oB q i w1 w2]
  have rH : ∀ i, zct H2 (N0 + 2) i = if i = j then (z : Int) else zct H1 (N0 + 2) i := fun i => by rw [d2.2.2.2.2 _ i (by omega) (by omega), rB]
  have zp := bz0.1
  have zx : X + 99 < z := bz0.1
  -- the reference
  have eb1 : zadd (fi : Int) (b : Int) = ((fi + b : Nat) : Int) := by rw [zadd_e (by omega) (by omega)]; omega
  have e8 : zadd (zmul 8 (t : Int)) (b : Int) = ((8 * t + b : Nat) : Int) := by rw [zmul_e (by omega) (by omega), zadd_e (by omega) (by omega)]; omega
  have ek : zadd (b : Int) 1 = ((b + 1 : Nat) : Int) := by rw [zadd_e (by omega) (by omega)]; omega
  have eba := m_barAt (t := n) (v := v) (b := fi + b) (s := sA) (by omega) (by omega) (by omega)
  rw [show 80 * n + 20 * v + (fi + b) = 80 * n + j by omega] at eba
  obtain ⟨y3, y4, y5, y6⟩ := r3 t (by omega)
  obtain ⟨x3, x4, x5, x6⟩ := r3 (s 4 t).toNat (by omega)
  have s20 : zup sA 29 (80 * n + j) (m : Int) 20 = s 20 := by rw [zup_o (by omega), r1' 20 (by omega)]
  have s21 : zup sA 29 (80 * n + j) (m : Int) 21 = s 21 := by rw [zup_o (by omega), r1' 21 (by omega)]
  have s22 : zup sA 29 (80 * n + j) (m : Int) 22 = s 22 := by rw [zup_o (by omega), r1' 22 (by omega)]
  obtain ⟨sB, u1, u2⟩ := m_ce_l (s := zup sA 29 (80 * n + j) (m : Int)) (m := m) (t := t) (b := b) (q := 80 * n + j) (tr := s 6 (s 4 t).toNat) (by omega) (by omega) (by omega) (by rw [zup_r]; dsimp only; rw [if_pos rfl]) (by omega) q6 (fun i hi => by rw [s20, s21, s22]; exact nr i (by omega)) (x := (n : Int)) (y := 0) m zFU 0 _ rfl (by rw [zFU_e]; omega) (by omega) ⟨fun _ _ _ _ => rfl, fun i => by rw [if_neg (by omega), if_neg (by omega), if_neg (by omega)]; exact ⟨rfl, rfl, rfl⟩⟩
  have u1y : ∀ (y : Int) Q, gM_edition_l5 zFU (n : Int) y (t : Int) (s 6 (s 4 t).toNat) (b : Int) ((80 * n + j : Nat) : Int) 0 (zup sA 29 (80 * n + j) (m : Int)) Q = Q (n : Int) y (t : Int) (s 6 (s 4 t).toNat) (b : Int) sB := fun y Q => by
    obtain ⟨sB', u1', u2'⟩ := m_ce_l (s := zup sA 29 (80 * n + j) (m : Int)) (m := m) (t := t) (b := b) (q := 80 * n + j) (tr := s 6 (s 4 t).toNat) (by omega) (by omega) (by omega) (by rw [zup_r]; dsimp only; rw [if_pos rfl]) (by omega) q6 (fun i hi => by rw [s20, s21, s22]; exact nr i (by omega)) (x := (n : Int)) (y := y) m zFU 0 _ rfl (by rw [zFU_e]; omega) (by omega) ⟨fun _ _ _ _ => rfl, fun i => by rw [if_neg (by omega), if_neg (by omega), if_neg (by omega)]; exact ⟨rfl, rfl, rfl⟩⟩
    have : sB' = sB := by
      funext r i
      by_cases a6 : r = 26
      · rw [a6, (u2'.2 i).1, (u2.2 i).1]
      · by_cases a7 : r = 27
        · rw [a7, (u2'.2 i).2.1, (u2.2 i).2.1]
        · by_cases a8 : r = 28
          · rw [a8, (u2'.2 i).2.2, (u2.2 i).2.2]
          · rw [u2'.1 r a6 a7 a8, u2.1 r a6 a7 a8]
    rw [← this]
    exact u1' Q
  clear u1
  obtain ⟨u2, u3⟩ := u2
  rw [s20, s21, s22] at u3
  have v26 : ∀ i, zup sA 29 (80 * n + j) (m : Int) 26 i = sA 26 i := fun i => by rw [zup_o (by omega)]
  have v27 : ∀ i, zup sA 29 (80 * n + j) (m : Int) 27 i = sA 27 i := fun i => by rw [zup_o (by omega)]
  have v28 : ∀ i, zup sA 29 (80 * n + j) (m : Int) 28 i = sA 28 i := fun i => by rw [zup_o (by omega)]
  have w29 : ∀ i, sB 29 i = if i = 80 * n + j then (m : Int) else sA 29 i := fun i => by rw [u2 29 (by omega) (by omega) (by omega), zup_r]
  have wo : ∀ r, r < 26 ∨ 29 < r → sB r = sA r := fun r hr => by rw [u2 r (by omega) (by omega) (by omega), zup_o (by omega)]
  refine ⟨H2, sB, ow2, Bn2, fun f => ?_, fun f y Q => ?_, I2, ?_, ?_, fun i hi => ?_⟩
  · have ev33 : zadd (zadd (zmul (v : Int) 20) (fi : Int)) (b : Int) = (j : Int) := by
      rw [zmul_e (by omega) (by omega), zadd_e (x := (v : Int) * 20) (by omega) (by omega), zadd_e (by omega) (by omega)]; omega
    have hbN : 0 ≤ (b : Int) ∧ (b : Int) < ((N : Nat) : Int) := by omega
    have hjb : 0 ≤ (j : Int) ∧ (j : Int) < ((80 : Nat) : Int) := by omega
    have en : zneg (s 6 (s 4 t).toNat) = -s 6 (s 4 t).toNat := zneg_e (by omega) (by omega)
    have tg1 : ztg HB (N0 + 1) = 3 := by rw [(sB1.2.2 _ (by omega)).1]; exact g1
    have tg2 : ztg HB (N0 + 2) = 36 := by rw [(sB1.2.2 _ (by omega)).1]; exact g2
    have lg2 : zln HB (N0 + 2) = 80 := by rw [(sB1.2.2 _ (by omega)).2]; exact g3
    have cB5 : zct HB (N0 + 1) 5 = ((N0 + 2 : Nat) : Int) := by rw [oB _ _ (by omega) (by omega)]; exact c5
    have rBj : zct HB (N0 + 2) j = (z : Int) := by rw [rB, if_pos rfl]
    have zm : zmay 36 1 = true := rfl
    rw [eN, Int.toNat_natCast] at l4 l4'
    rw [fEdition_takePlate_l3]
    rcases run with ⟨e1, e2, HN, f1, f2, f3, f4, f5⟩ | ⟨e1, e2⟩
    · simp only [yjn, yvl, ygr, ygi, yln, yar, ynw, yn0, ysr, yck, a0, zA6, if_true, a5, a3, a4, Int.toNat_natCast, l3, l4, Nat.reduceLeDiff, and_self, hbN, pa0, zA5, pa4, ev, efi, ev33, t1, g1, zA2, c5, g2, g3, hjb, e1, show (0 : Int).toNat = 0 from rfl, Nat.reduceAdd, ← e2, f1, ybd_s, f2, f3, f4, zm, true_and, f5, tg1, cB5, tg2, lg2, rBj, a0', a5', l3', l4', t1', a3', pb0, pb5, bzh.1, zA0, en, d1, ek]
      rw [if_neg (by omega), if_neg (by omega), if_pos (by omega)]
    · subst e2
      simp only [yjn, yvl, ygr, ygi, yln, yar, ynw, yn0, ysr, yck, a0, zA6, if_true, a5, a3, a4, Int.toNat_natCast, l3, l4, Nat.reduceLeDiff, and_self, hbN, pa0, zA5, pa4, ev, efi, ev33, t1, g1, zA2, c5, g2, g3, hjb, e1, true_and, pa5, bzh.1, zA0, en, d1, ybd_s, ek]
      rw [if_neg (by omega), if_neg (by omega), if_neg (by omega)]
  · have b480 : 8 * t + b < 480 := by omega
    have bq : 80 * n + j < 4800 := by omega
    have x5' : sA 5 (s 4 t).toNat = (v : Int) := by rw [x5, ev]
    have y5' : sA 5 t = (fi : Int) := by rw [y5, efi]
    have y6' : sA 6 t = (N : Int) := by rw [y6, eN]
    have e23 : sA 23 (8 * t + b) = (m : Int) := by rw [r1' 23 (by omega), em]
    have y4' : sA 4 t = (((s 4 t).toNat : Nat) : Int) := by rw [y4, p0]
    rw [gM_edition_l4]
    simp only [yrd_n (show t < 60 by omega), y6', y4', yrd_n (show (s 4 t).toNat < 60 by omega), x5', y5', eb1, eba, ybd_s, e8, yrd_n b480, e23, ywi_n bq, u1y, yvl, ek]
    rw [if_pos (by omega)]
  · refine ⟨h1.tr s12, ⟨by have := s12.1; omega, by have := d2.2.1; omega⟩, by have := d2.2.2.1; omega, fun q hq i => ?_, ⟨?_, ?_, ?_, ?_, ?_, ?_, ?_, ?_, ?_⟩, ⟨?_, ?_, ?_, ?_, ?_, ?_, ?_, ?_, ?_⟩, fun i hi => ?_, fun i hi => ?_, fun q hq => ?_⟩
    · rw [c2H q i (by omega) (by omega) (by omega) (by omega)]; exact h4 q hq i
    · rw [(tH _ (by omega)).1]; exact g1
    · rw [(tH _ (by omega)).1]; exact g2
    · rw [(tH _ (by omega)).2]; exact g3
    · rw [(tH _ (by omega)).1]; exact g4
    · rw [(tH _ (by omega)).2]; exact g5
    · rw [(tH _ (by omega)).1]; exact g6
    · rw [(tH _ (by omega)).2]; exact g7
    · rw [(tH _ (by omega)).1]; exact g8
    · rw [(tH _ (by omega)).2]; exact g9
    · rw [c2H _ _ (by omega) (by omega) (by omega) (by omega)]; exact c0
    · rw [c2H _ _ (by omega) (by omega) (by omega) (by omega)]; exact c1
    · rw [c2H _ _ (by omega) (by omega) (by omega) (by omega)]; exact c2
    · rw [c2H _ _ (by omega) (by omega) (by omega) (by omega)]; exact c3
    · rw [c2H _ _ (by omega) (by omega) (by omega) (by omega)]; exact c4
    · rw [c2H _ _ (by omega) (by omega) (by omega) (by omega)]; exact c5
    · rw [c2H _ _ (by omega) (by omega) (by omega) (by omega)]; exact c6
    · rw [c2H _ _ (by omega) (by omega) (by omega) (by omega)]; exact c7
    · rw [c2H _ _ (by omega) (by omega) (by omega) (by omega)]; exact c8
    · rw [c2H _ _ (by omega) (by omega) (by omega) (by omega)]; exact hm1 i hi
    · rw [wB _ (by omega)]; exact o1 i hi
    · rw [wB _ (by omega)]; exact o2 q hq
  · refine ⟨fun r a0 a3 a4 a5 a6 a26 a27 a28 a29 => ?_, fun i hi => ?_, fun u hu => ?_, fun i hi => ?_, fun i hi => ?_, ?_, ?_, ?_, ?_⟩
    · rw [wo r (by omega)]; exact r1 r a0 a3 a4 a5 a6 a26 a27 a28 a29
    · rw [wo 0 (by omega)]; exact r2 i hi
    · rw [wo 3 (by omega), wo 4 (by omega), wo 5 (by omega), wo 6 (by omega)]; exact r3 u hu
    · rw [w29, if_neg (by omega)]; exact r4 i hi
    · obtain ⟨f1, f2, f3⟩ := u3 i
      rw [f1, f2, f3, if_neg (by omega), if_neg (by omega), if_neg (by omega), v26, v27, v28]
      exact r5 i hi
    · rw [wo 3 (by omega)]; exact r6
    · rw [wo 4 (by omega)]; exact r7
    · rw [wo 5 (by omega)]; exact r8
    · rw [wo 0 (by omega)]; exact r10
  · by_cases e : i = j
    · rw [e]
      have n26 : ∀ k, k < m → sB 26 (8 * (80 * n + j) + k) = rpit (s 20 (64 * t + 8 * b + k)) (-s 6 (s 4 t).toNat) ∧ sB 27 (8 * (80 * n + j) + k) = s 21 (64 * t + 8 * b + k) ∧ sB 28 (8 * (80 * n + j) + k) = s 22 (64 * t + 8 * b + k) := fun k hk => by
        obtain ⟨f1, f2, f3⟩ := u3 (8 * (80 * n + j) + k)
        rw [f1, f2, f3, if_pos (by omega), if_pos (by omega), if_pos (by omega), show 8 * (80 * n + j) + k - 8 * (80 * n + j) = k by omega]
        exact ⟨rfl, rfl, rfl⟩
      have w29j : sB 29 (80 * n + j) = (m : Int) := by rw [w29, if_pos rfl]
      rw [w29j, rH, if_pos rfl, if_neg (by omega), ez]
      refine ⟨rfl, fun _ => ⟨⟨⟨bz0.1, by rw [d2.2.1]; exact bz0.2.1, bz0.2.2⟩, ⟨bz1.1, by rw [d2.2.1]; exact bz1.2.1, bz1.2.2⟩, bo.h.bx d2 bz1.2.1 (Or.inl rfl)⟩, ?_⟩, by omega, fun k hk => ?_⟩
      · obtain ⟨y1, y2, y3, y4⟩ := d3
        refine ⟨y1, ?_, y3, fun k hk => ?_⟩
        · rw [y2]
          exact zsum_eq _ fun k hk => (n26 k (by omega)).2.1.symm
        · rw [y4 k hk]
          obtain ⟨f1, f2, f3⟩ := n26 k (by omega)
          simp only [sh]
          rw [f1, f2, f3]
      · obtain ⟨f1, f2, f3⟩ := n26 k (by omega)
        rw [f1, f2, f3]
        obtain ⟨w1, w2⟩ := (e_shiftG (tr := -s 6 (s 4 t).toNat) (nr k (by omega)) (by omega) (by omega) (by omega) (by omega) (by omega) (H := H1)).2
        exact ⟨by omega, w2⟩
    · obtain ⟨y1, y2, y3, y4⟩ := eb i hi
      have n26 : ∀ k, k < 8 → sB 26 (8 * (80 * n + i) + k) = sA 26 (8 * (80 * n + i) + k) ∧ sB 27 (8 * (80 * n + i) + k) = sA 27 (8 * (80 * n + i) + k) ∧ sB 28 (8 * (80 * n + i) + k) = sA 28 (8 * (80 * n + i) + k) := fun k hk => by
        obtain ⟨f1, f2, f3⟩ := u3 (8 * (80 * n + i) + k)
        rw [f1, f2, f3, if_neg (by omega), if_neg (by omega), if_neg (by omega), v26, v27, v28]
        exact ⟨rfl, rfl, rfl⟩
      have w29i : sB 29 (80 * n + i) = sA 29 (80 * n + i) := by rw [w29, if_neg (by omega)]
      rw [w29i, rH, if_neg e, bnB i e]
      refine ⟨y1, fun w => ?_, y3, fun k hk => ?_⟩
      · obtain ⟨bi, bv⟩ := y2 w
        obtain ⟨b0, b1, b2⟩ := id bi
        have ne : ∀ q sb, My X H1 ow q (n + 1) sb → 10 ≤ sb → sb ≠ 10 + 2 * j → sb ≠ 11 + 2 * j → q ≠ N0 + 2 ∧ q ≠ z ∧ q ≠ z + 1 := fun q sb mq s10 s1 s2 => by
          have wq := (wB q mq.2.1).trans mq.2.2
          refine ⟨fun e => ?_, fun e => ?_, fun e => ?_⟩
          · have := o1 1 (by omega)
            rw [show N0 + 1 + 1 = N0 + 2 by omega, ← e, mq.2.2] at this
            simp only [Prod.mk.injEq] at this
            omega
          · rw [e, bz0.2.2] at wq
            simp only [Prod.mk.injEq] at wq
            omega
          · rw [e, bz1.2.2] at wq
            simp only [Prod.mk.injEq] at wq
            omega
        obtain ⟨a1, a2, a3⟩ := ne _ _ b0 (by omega) (by omega) (by omega)
        obtain ⟨a4, a5, a6⟩ := ne _ _ b1 (by omega) (by omega) (by omega)
        exact ⟨bi.fc s12 (c2H _ _ b0.2.1 a1 a2 a3) wB, bv.fc (fun k => c2H _ k b0.2.1 a1 a2 a3) (fun k => c2H _ k b1.2.1 a4 a5 a6) rfl (fun k hk => (n26 k hk).1) (fun k hk => (n26 k hk).2.1) (fun k hk => (n26 k hk).2.2)⟩
      · obtain ⟨f1, f2, f3⟩ := n26 k (by omega)
        rw [f1, f2, f3]
        exact y4 k hk
end EDITION2
