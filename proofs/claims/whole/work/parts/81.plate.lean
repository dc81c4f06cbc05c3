/-! A NEW PLATE, bar by bar -/
def CPr (s s1 : zSg) (ba i : Nat) : Prop := (∀ r, r ≠ 20 → r ≠ 21 → r ≠ 22 → s1 r = s r) ∧ ∀ j, s1 20 j = (if ba ≤ j ∧ j < ba + i then s 17 (j - ba) else s 20 j) ∧ s1 21 j = (if ba ≤ j ∧ j < ba + i then s 18 (j - ba) else s 21 j) ∧ s1 22 j = (if ba ≤ j ∧ j < ba + i then s 19 (j - ba) else s 22 j)
theorem ite_up {ba i j : Nat} {f g : Nat → Int} (p : Nat) (hp : p = ba + i) : (if j = p then f i else if ba ≤ j ∧ j < ba + i then f (j - ba) else g j) = if ba ≤ j ∧ j < ba + (i + 1) then f (j - ba) else g j := by
  by_cases e : j = p
  · rw [if_pos e, if_pos (by omega), show j - ba = i by omega]
  · rw [if_neg e]
    by_cases g : ba ≤ j ∧ j < ba + i
    · rw [if_pos g, if_pos (by omega)]
    · rw [if_neg g, if_neg (by omega)]
set_option maxRecDepth 100000 in
theorem m_cp_l {s : zSg} {m n k : Nat} (hn : n < 60) (hk : k < 8) (hm : s 0 16 = (m : Int)) (m8 : m ≤ 8) {x y z : Int} : ∀ (d f i : Nat) (s1 : zSg), m - i = d → d < f → i ≤ m → CPr s s1 (64 * n + 8 * k) i → ∃ s', (∀ Q, gM_plate_l7 f x y z (n : Int) (k : Int) (i : Int) s1 Q = Q x y z (n : Int) (k : Int) s') ∧ CPr s s' (64 * n + 8 * k) m := by
  intro d
  induction d with
  | zero =>
    intro f i s1 h1 h2 h3 c
    obtain ⟨f, rfl⟩ : ∃ f', f = f' + 1 := ⟨f - 1, by omega⟩
    obtain rfl : i = m := by omega
    refine ⟨s1, fun Q => ?_, c⟩
    have e16 : s1 0 16 = (i : Int) := by rw [c.1 0 (by omega) (by omega) (by omega)]; exact hm
    rw [gM_plate_l7, e16, if_neg (by omega)]
  | succ d ih =>
    intro f i s1 h1 h2 h3 c
    obtain ⟨f, rfl⟩ : ∃ f', f = f' + 1 := ⟨f - 1, by omega⟩
    have e16 : s1 0 16 = (m : Int) := by rw [c.1 0 (by omega) (by omega) (by omega)]; exact hm
    have e2 : zadd (zadd (zmul 64 (n : Int)) (zmul 8 (k : Int))) (i : Int) = ((64 * n + 8 * k + i : Nat) : Int) := by
      rw [zmul_e (by omega) (by omega), zmul_e (by omega) (by omega), zadd_e (x := 64 * (n : Int)) (by omega) (by omega), zadd_e (by omega) (by omega)]; omega
    have e3 : zadd (i : Int) 1 = ((i + 1 : Nat) : Int) := by rw [zadd_e (by omega) (by omega)]; omega
    have b8 : i < 8 := by omega
    have b38 : 64 * n + 8 * k + i < 3840 := by omega
    generalize hp : 64 * n + 8 * k + i = p at *
    obtain ⟨c1, c2⟩ := c
    obtain ⟨s', q1, q2⟩ := ih f (i + 1) (zup (zup (zup s1 20 p (s1 17 i)) 21 p (s1 18 i)) 22 p (s1 19 i)) (by omega) (by omega) (by omega) (by
      refine ⟨fun r r1 r2 r3 => ?_, fun j => ?_⟩
      · rw [zup_o r3, zup_o r2, zup_o r1]; exact c1 r r1 r2 r3
      · obtain ⟨d1, d2, d3⟩ := c2 j
        have f1 : zup (zup (zup s1 20 p (s1 17 i)) 21 p (s1 18 i)) 22 p (s1 19 i) 20 j = if j = p then s1 17 i else s1 20 j := by rw [zup_o (by omega), zup_o (by omega), zup_r]
        have f2 : zup (zup (zup s1 20 p (s1 17 i)) 21 p (s1 18 i)) 22 p (s1 19 i) 21 j = if j = p then s1 18 i else s1 21 j := by rw [zup_o (by omega), zup_r, zup_o (by omega)]
        have f3 : zup (zup (zup s1 20 p (s1 17 i)) 21 p (s1 18 i)) 22 p (s1 19 i) 22 j = if j = p then s1 19 i else s1 22 j := by rw [zup_r, zup_o (by omega), zup_o (by omega)]
        rw [f1, f2, f3, d1, d2, d3, c1 17 (by omega) (by omega) (by omega), c1 18 (by omega) (by omega) (by omega), c1 19 (by omega) (by omega) (by omega)]
        exact ⟨ite_up p hp.symm, ite_up p hp.symm, ite_up p hp.symm⟩)
    refine ⟨s', fun Q => ?_, q2⟩
    rw [← q1 Q, gM_plate_l7, e16, if_pos (by omega)]
    simp only [yvl, e2, e3, yrd_n b8, ywi_n b38]
    rfl
section PLATE
variable {X : Nat} {s : zSg} {A : Nat → Nat} {B : Nat → Nat → Nat} {K : Nat → Nat} {ow : Nat → Nat × Nat} {n p N0 Nn a k : Nat}
def plO (ow : Nat → Nat × Nat) (N0 n : Nat) : Nat → Nat × Nat := fun q => if q ≤ N0 then ow q else if q = N0 + 1 then (n + 1, 0) else if q = N0 + 2 then (n + 1, 1) else if q = N0 + 3 then (n + 1, 2) else (n + 1, q - N0 + 6)
theorem plO_le {q : Nat} (h : (plO ow N0 n q).1 ≠ n + 1) : q ≤ N0 := by
  by_cases g : q ≤ N0
  · exact g
  · exfalso
    apply h
    unfold plO
    rw [if_neg g]
    split
    · rfl
    · split
      · rfl
      · split
        · rfl
        · rfl
theorem plO_gt {q : Nat} (h : N0 < q) : (plO ow N0 n q).1 = n + 1 := by
  by_cases g : (plO ow N0 n q).1 = n + 1
  · exact g
  · have := plO_le g; omega
def PRf (s sA : zSg) (n p a Nn : Nat) : Prop := (∀ r, r ≠ 0 → r ≠ 3 → r ≠ 4 → r ≠ 5 → r ≠ 6 → r ≠ 17 → r ≠ 18 → r ≠ 19 → r ≠ 20 → r ≠ 21 → r ≠ 22 → r ≠ 23 → sA r = s r) ∧ (∀ j, j ≠ 2 → j ≠ 16 → sA 0 j = s 0 j) ∧ (∀ u, u ≠ n → sA 3 u = s 3 u ∧ sA 4 u = s 4 u ∧ sA 5 u = s 5 u ∧ sA 6 u = s 6 u) ∧
  (∀ j, j / 8 ≠ n → sA 23 j = s 23 j) ∧ (∀ j, j / 64 ≠ n → sA 20 j = s 20 j ∧ sA 21 j = s 21 j ∧ sA 22 j = s 22 j) ∧ sA 3 n = 3 ∧ sA 4 n = (p : Int) ∧ sA 5 n = (a : Int) ∧ sA 6 n = (Nn : Int) ∧ sA 0 2 = ((n + 1 : Nat) : Int)
def PBd (H : zHp) (sA : zSg) (n N0 k : Nat) : Prop := ∀ j, j < k → zct H (N0 + 3) j = ((N0 + 4 + 2 * j : Nat) : Int) ∧ BarH H (N0 + 4 + 2 * j) ∧ BarV H (N0 + 4 + 2 * j) (sA 23 (8 * n + j)) (sh (sA 20) (64 * n + 8 * j)) (sh (sA 21) (64 * n + 8 * j)) (sh (sA 22) (64 * n + 8 * j)) ∧ (1 ≤ sA 23 (8 * n + j) ∧ sA 23 (8 * n + j) ≤ 8) ∧
  ∀ i : Nat, (i : Int) < sA 23 (8 * n + j) → NR (-11) 72 (sA 20 (64 * n + 8 * j + i)) (sA 21 (64 * n + 8 * j + i)) (sA 22 (64 * n + 8 * j + i))
def PHp (X : Nat) (H0 H : zHp) (n N0 Ap a Nn k : Nat) : Prop := zst H0 H ∧ znx H = N0 + 3 + 2 * k ∧ zus H = zus H0 + 10 + Nn + 11 * k ∧ (∀ q, q ≤ X + 99 → ∀ j, zct H q j = zct H0 q j) ∧ (ztg H (N0 + 1) = 7 ∧ ztg H (N0 + 2) = 30 ∧ zln H (N0 + 2) = 4 ∧ ztg H (N0 + 3) = 36 ∧ zln H (N0 + 3) = Nn) ∧
  (zct H (N0 + 1) 0 = 3 ∧ zct H (N0 + 1) 1 = (n : Int) ∧ zct H (N0 + 1) 2 = (Ap : Int) ∧ zct H (N0 + 1) 3 = (a : Int) ∧ zct H (N0 + 1) 4 = ((N0 + 3 : Nat) : Int) ∧ zct H (N0 + 1) 5 = ((N0 + 2 : Nat) : Int))
set_option maxRecDepth 100000 in
theorem plate1 {H0 H1 : zHp} {sA : zSg} (I : IV X H1 s A B K (plO ow N0 n)) (hn : s 0 2 = (n : Int)) (h59 : n ≤ 59) (hX : X + 99 ≤ N0) (hp : p < n) (hk : s 3 p = 2 ∨ s 3 p = 5) (hb : ((a + k : Nat) : Int) < wholeN s (s 4 p).toNat (s 5 p).toNat) (k8 : k < 8) (kN : k < Nn) (N8 : Nn ≤ 8) (a20 : a ≤ 20)
    (ph : PHp X H0 H1 n N0 (A p) a Nn k) (pr : PRf s sA n p a Nn) (pb : PBd H1 sA n N0 k) :
    ∃ H2 sB, (∀ f Q, fPlate_init_l1 (f + 1) (N0 + 1) (A p) (a : Int) (k : Int) H1 Q = fPlate_init_l1 f (N0 + 1) (A p) (a : Int) ((k + 1 : Nat) : Int) H2 Q) ∧ (∀ f, gM_plate_l6 (f + 1) (p : Int) (a : Int) ((a + Nn - 1 : Nat) : Int) (n : Int) (k : Int) sA = gM_plate_l6 f (p : Int) (a : Int) ((a + Nn - 1 : Nat) : Int) (n : Int) ((k + 1 : Nat) : Int) sB) ∧
      IV X H2 s A B K (plO ow N0 n) ∧ PHp X H0 H2 n N0 (A p) a Nn (k + 1) ∧ PRf s sB n p a Nn ∧ PBd H2 sB n N0 (k + 1) := by
  obtain ⟨h1, h2, h3, h4, ⟨g1, g2, g3, g4, g5⟩, c0, c1, c2, c3, c4, c5⟩ := ph
  obtain ⟨r1, r2, r3, r4, r5, r6, r7, r8, r9, r10⟩ := pr
  have hp' : (p : Int) < s 0 2 := by omega
  -- the new bar's cells
  obtain ⟨z, hz⟩ : ∃ z, z = N0 + 4 + 2 * k := ⟨_, rfl⟩
  have ez : znx H1 + 1 = z := by omega
  have nb0 := nb_c (H := H1)
  have nb1 := nb_t1 (H := H1)
  have nb2 := nb_t2 (H := H1)
  have nb3 := nb_l2 (H := H1)
  have nbs := nb_st (H := H1)
  have nbo := fun {a k : Nat} h => nb_old (H := H1) (a := a) (k := k) h
  have nbx := nb_nx (H := H1)
  have nbu := nb_us (H := H1)
  have nbr := nb_run (H := H1)
  rw [ez] at nb0 nb1 nb2 nb3 nbr
  generalize hHN : nb H1 = HN at *
  have tN3 : ztg HN (N0 + 3) = 36 := by rw [(nbs.2.2 _ (by omega)).1]; exact g4
  have lN3 : zln HN (N0 + 3) = Nn := by rw [(nbs.2.2 _ (by omega)).2]; exact g5
  -- the bar in its row
  have sB1 : zst H1 (zwr HN (N0 + 3) k (z : Int)) := nbs.wr _ _ _
  have oB : ∀ q i, q ≤ znx H1 → q ≠ N0 + 3 → zct (zwr HN (N0 + 3) k (z : Int)) q i = zct H1 q i := fun q i w1 w2 => by rw [zct_wr, if_neg (fun w => w2 w.1)]; exact nbo w1
  have bB : BarH (zwr HN (N0 + 3) k (z : Int)) z := ⟨nb1, by rw [zct_wr, if_neg (by omega)]; exact nb0.1, nb2, nb3⟩
  have rB : ∀ i, zct (zwr HN (N0 + 3) k (z : Int)) (N0 + 3) i = if i = k then (z : Int) else zct H1 (N0 + 3) i := fun i => by
    rw [zct_wr]
    by_cases e : i = k
    · rw [if_pos ⟨rfl, e⟩, if_pos e]
    · rw [if_neg (fun w => e w.2), if_neg e]; exact nbo (by omega)
  have xB : znx (zwr HN (N0 + 3) k (z : Int)) = znx H1 + 2 := nbx
  have uB : zus (zwr HN (N0 + 3) k (z : Int)) = zus H1 + 11 := nbu
  have IB : IV X (zwr HN (N0 + 3) k (z : Int)) s A B K (plO ow N0 n) := I.sep (n := n) (by omega) h59 sB1 (fun q i w1 w2 => oB q i w1 (by have := plO_le w2; omega)) (fun _ _ => rfl)
  have wN : ∀ (f : Nat) (Q : Nat → zHp → Option (Unit × zHp)), fPlate_init_l1 (f + 1) (N0 + 1) (A p) (a : Int) (k : Int) H1 Q = (yck 5 (A p) (zwr HN (N0 + 3) k (z : Int)) <| ybd (fPart_barAsRead (A p) (zadd (a : Int) (k : Int)) (zwr HN (N0 + 3) k (z : Int))) fun p30 s31 => if p30 = 0 then fPlate_init_l1 f (N0 + 1) (A p) (a : Int) (zadd (k : Int) 1) s31 Q else ygr 6 4 (N0 + 1) s31 fun p32 => yar p32 (k : Int) s31 fun p33 => yck 0 p33 s31 <| ybd (fBar_copyShifted p33 p30 0 s31) fun _ s34 => fPlate_init_l1 f (N0 + 1) (A p) (a : Int) (zadd (k : Int) 1) s34 Q) := fun f Q => by
    have hkb : 0 ≤ (k : Int) ∧ (k : Int) < ((Nn : Nat) : Int) := by omega
    have zm : zmay 36 1 = true := rfl
    rw [fPlate_init_l1]
    simp only [yjn, yvl, ygr, yln, ynw, yn0, ysr, g1, zA6, if_true, c4, Int.toNat_natCast, g4, g5, Nat.reduceLeDiff, and_self, Nat.reduceAdd, ez, nbr, ybd_s, tN3, nb1, zm, lN3, hkb, true_and]
    rw [if_pos (by omega)]
  generalize zwr HN (N0 + 3) k (z : Int) = HB at *
  -- the reading
  obtain ⟨HC, s3, m, q1, q2, q3, q3', q4, q5, q6⟩ := e_readG IB hp' hk hb (s1 := sA) (r1 10 (by omega) (by omega) (by omega) (by omega) (by omega) (by omega) (by omega) (by omega) (by omega) (by omega) (by omega) (by omega)) (r1 11 (by omega) (by omega) (by omega) (by omega) (by omega) (by omega) (by omega) (by omega) (by omega) (by omega) (by omega) (by omega)) (r1 12 (by omega) (by omega) (by omega) (by omega) (by omega) (by omega) (by omega) (by omega) (by omega) (by omega) (by omega) (by omega)) (r1 13 (by omega) (by omega) (by omega) (by omega) (by omega) (by omega) (by omega) (by omega) (by omega) (by omega) (by omega) (by omega)) (r3 p (by omega)).2.1 (r3 p (by omega)).2.2.1 (r3 p (by omega)).2.2.2
  have IC : IV X HC s A B K (plO ow N0 n) := IB.read hp' hk q4 zrs.rf
  have pt := ((IC.to hp').2.1 hk).2.2
  have pb0 := pt.1
  have pb1 := pt.2.1
  have pl0 : B p 0 ≤ N0 := plO_le (by rw [pb0.2.2]; show p + 1 ≠ n + 1; omega)
  have pl1 : B p 0 + 1 ≤ N0 := plO_le (by rw [pb1.2.2]; show p + 1 ≠ n + 1; omega)
  have px := pb0.1
  have xC : znx HC = znx HB := q4.2.1
  have uC : zus HC = zus HB := q4.2.2.1
  have bC : BarH HC z := bB.bx q4 (by omega) (Or.inr (by omega))
  -- the copy
  obtain ⟨HD, d1, d2, d3⟩ := e_copy (tr := 0) bC pt.h q6.1 q6.2.2 (by omega) (by omega) (by omega) (by omega) (by omega) (show B p 0 ≠ z ∧ B p 0 ≠ z + 1 by omega) (show B p 0 + 1 ≠ z by omega) (by omega) (by omega)
  have ID : IV X HD s A B K (plO ow N0 n) := IC.sep (n := n) (by omega) h59 d2.1 (fun q i w1 w2 => d2.2.2.2.2 q i (by have := plO_le w2; omega) (by have := plO_le w2; omega)) (fun _ _ => rfl)
  have xD : znx HD = znx HC := d2.2.1
  have uD : zus HD = zus HC := d2.2.2.1
  have sD : zst H1 HD := (sB1.tr q4.1).tr d2.1
  have oD : ∀ q i, q ≤ znx H1 → q ≠ N0 + 3 → q ≠ B p 0 → q ≠ B p 0 + 1 → zct HD q i = zct H1 q i := fun q i w1 w2 w3 w4 => by
    rw [d2.2.2.2.2 q i (by omega) (by omega), q4.2.2.2.2 q i w3 w4, oB q i w1 w2]
  have rD : ∀ i, zct HD (N0 + 3) i = if i = k then (z : Int) else zct H1 (N0 + 3) i := fun i => by
    rw [d2.2.2.2.2 _ i (by omega) (by omega), q4.2.2.2.2 _ i (by omega) (by omega), rB]
  have rC : ∀ i, zct HC (N0 + 3) i = if i = k then (z : Int) else zct H1 (N0 + 3) i := fun i => by
    rw [q4.2.2.2.2 _ i (by omega) (by omega), rB]
  have tD : ∀ q, q ≤ znx H1 → ztg HD q = ztg H1 q ∧ zln HD q = zln H1 q := fun q w => sD.2.2 q w
  have sC : zst H1 HC := sB1.tr q4.1
  -- the reference
  have e8 : zadd (zmul 8 (n : Int)) (k : Int) = ((8 * n + k : Nat) : Int) := by rw [zmul_e (by omega) (by omega), zadd_e (by omega) (by omega)]; omega
  have ek : zadd (k : Int) 1 = ((k + 1 : Nat) : Int) := by rw [zadd_e (by omega) (by omega)]; omega
  have eak : zadd (a : Int) (k : Int) = ((a + k : Nat) : Int) := by rw [zadd_e (by omega) (by omega)]; omega
  have m16 : s3 0 16 = (m : Int) := q6.2.1
  obtain ⟨sB, u1, u2⟩ := m_cp_l (s := zup s3 23 (8 * n + k) (m : Int)) (m := m) (n := n) (k := k) (by omega) k8 m16 q3 (x := (p : Int)) (y := (a : Int)) (z := ((a + Nn - 1 : Nat) : Int)) m zFU 0 _ rfl (by rw [zFU_e]; omega) (by omega) ⟨fun _ _ _ _ => rfl, fun j => by rw [if_neg (by omega), if_neg (by omega), if_neg (by omega)]; exact ⟨rfl, rfl, rfl⟩⟩
  obtain ⟨u2, u3⟩ := u2
  have v17 : ∀ j, zup s3 23 (8 * n + k) (m : Int) 17 j = s3 17 j := fun _ => rfl
  have v18 : ∀ j, zup s3 23 (8 * n + k) (m : Int) 18 j = s3 18 j := fun _ => rfl
  have v19 : ∀ j, zup s3 23 (8 * n + k) (m : Int) 19 j = s3 19 j := fun _ => rfl
  have v20 : ∀ j, zup s3 23 (8 * n + k) (m : Int) 20 j = sA 20 j := fun j => by rw [zup_o (by omega), q5.e (by omega) (by omega) (by omega) (by omega)]
  have v21 : ∀ j, zup s3 23 (8 * n + k) (m : Int) 21 j = sA 21 j := fun j => by rw [zup_o (by omega), q5.e (by omega) (by omega) (by omega) (by omega)]
  have v22 : ∀ j, zup s3 23 (8 * n + k) (m : Int) 22 j = sA 22 j := fun j => by rw [zup_o (by omega), q5.e (by omega) (by omega) (by omega) (by omega)]
  have w23 : ∀ j, sB 23 j = if j = 8 * n + k then (m : Int) else sA 23 j := fun j => by
    rw [u2 23 (by omega) (by omega) (by omega), zup_r, q5.e (k := 23) (by omega) (by omega) (by omega) (by omega)]
  have wo : ∀ r, r ≠ 0 → r ≠ 17 → r ≠ 18 → r ≠ 19 → r ≠ 20 → r ≠ 21 → r ≠ 22 → r ≠ 23 → sB r = sA r := fun r a0 a1 a2 a3 a4 a5 a6 a7 => by rw [u2 r a4 a5 a6, zup_o a7, q5.e a0 a1 a2 a3]
  have w0 : ∀ j, j ≠ 16 → sB 0 j = sA 0 j := fun j hj => by
    rw [u2 0 (by omega) (by omega) (by omega), zup_o (by omega)]
    exact q5 0 j (by omega) (by omega) (by omega) (fun w => hj w.2)
  refine ⟨HD, sB, fun f Q => ?_, fun f => ?_, ID, ?_, ?_, fun j hj => ?_⟩
  · have g5' : zisA 5 (ztg HB (A p)) = true := IB.tg hp' (c := 5) (tgk_5.mpr hk)
    have tC1 : ztg HC (N0 + 1) = 7 := by rw [(sC.2.2 _ (by omega)).1]; exact g1
    have tC3 : ztg HC (N0 + 3) = 36 := by rw [(sC.2.2 _ (by omega)).1]; exact g4
    have lC3 : zln HC (N0 + 3) = Nn := by rw [(sC.2.2 _ (by omega)).2]; exact g5
    have cC4 : zct HC (N0 + 1) 4 = ((N0 + 3 : Nat) : Int) := by rw [q4.2.2.2.2 _ 4 (by omega) (by omega), oB _ _ (by omega) (by omega)]; exact c4
    have hkb : 0 ≤ (k : Int) ∧ (k : Int) < ((Nn : Nat) : Int) := by omega
    rw [wN]
    simp only [yck, g5', if_true, eak, q1, ybd_s, show ¬ B p 0 = 0 by omega, if_false, ygr, tC1, zA6, cC4, Int.toNat_natCast, yar, tC3, lC3, Nat.reduceLeDiff, and_self, hkb, rC, bC.1, zA0, d1, ek]
  · rw [gM_plate_l6, zsub_e (by omega) (by omega), if_neg (by omega), eak, q2, ybd_s, e8, ywi_n (by omega), m16]
    have := u1 (fun (x39 : Int) (x40 : Int) (x41 : Int) (x42 : Int) (x43 : Int) (s44 : zSg) => yvl (zadd x43 1) fun v45 => gM_plate_l6 f x39 x40 x41 x42 v45 s44)
    refine this.trans ?_
    simp only [yvl, ek]
  · refine ⟨h1.tr sD, by omega, by omega, fun q hq j => ?_, ⟨?_, ?_, ?_, ?_, ?_⟩, ?_, ?_, ?_, ?_, ?_, ?_⟩
    · rw [oD q j (by omega) (by omega) (by omega) (by omega)]; exact h4 q hq j
    · rw [(tD _ (by omega)).1]; exact g1
    · rw [(tD _ (by omega)).1]; exact g2
    · rw [(tD _ (by omega)).2]; exact g3
    · rw [(tD _ (by omega)).1]; exact g4
    · rw [(tD _ (by omega)).2]; exact g5
    · rw [oD _ _ (by omega) (by omega) (by omega) (by omega)]; exact c0
    · rw [oD _ _ (by omega) (by omega) (by omega) (by omega)]; exact c1
    · rw [oD _ _ (by omega) (by omega) (by omega) (by omega)]; exact c2
    · rw [oD _ _ (by omega) (by omega) (by omega) (by omega)]; exact c3
    · rw [oD _ _ (by omega) (by omega) (by omega) (by omega)]; exact c4
    · rw [oD _ _ (by omega) (by omega) (by omega) (by omega)]; exact c5
  · refine ⟨fun r a0 a1 a2 a3 a4 a5 a6 a7 a8 a9 a10 a11 => ?_, fun j a1 a2 => ?_, fun u hu => ?_, fun j hj => ?_, fun j hj => ?_, ?_, ?_, ?_, ?_, ?_⟩
    · rw [wo r a0 a5 a6 a7 a8 a9 a10 a11]; exact r1 r a0 a1 a2 a3 a4 a5 a6 a7 a8 a9 a10 a11
    · rw [w0 j a2]; exact r2 j a1 a2
    · rw [wo 3 (by omega) (by omega) (by omega) (by omega) (by omega) (by omega) (by omega) (by omega), wo 4 (by omega) (by omega) (by omega) (by omega) (by omega) (by omega) (by omega) (by omega), wo 5 (by omega) (by omega) (by omega) (by omega) (by omega) (by omega) (by omega) (by omega), wo 6 (by omega) (by omega) (by omega) (by omega) (by omega) (by omega) (by omega) (by omega)]
      exact r3 u hu
    · rw [w23, if_neg (by omega)]; exact r4 j hj
    · obtain ⟨x1, x2, x3⟩ := u3 j
      rw [x1, x2, x3, if_neg (by omega), if_neg (by omega), if_neg (by omega), v20, v21, v22]
      exact r5 j hj
    · rw [wo 3 (by omega) (by omega) (by omega) (by omega) (by omega) (by omega) (by omega) (by omega)]; exact r6
    · rw [wo 4 (by omega) (by omega) (by omega) (by omega) (by omega) (by omega) (by omega) (by omega)]; exact r7
    · rw [wo 5 (by omega) (by omega) (by omega) (by omega) (by omega) (by omega) (by omega) (by omega)]; exact r8
    · rw [wo 6 (by omega) (by omega) (by omega) (by omega) (by omega) (by omega) (by omega) (by omega)]; exact r9
    · rw [w0 2 (by omega)]; exact r10
  · by_cases e : j = k
    · subst e
      have n20 : ∀ i, i < m → sB 20 (64 * n + 8 * j + i) = s3 17 i ∧ sB 21 (64 * n + 8 * j + i) = s3 18 i ∧ sB 22 (64 * n + 8 * j + i) = s3 19 i := fun i hi => by
        obtain ⟨x1, x2, x3⟩ := u3 (64 * n + 8 * j + i)
        rw [x1, x2, x3, if_pos (by omega), if_pos (by omega), if_pos (by omega), show 64 * n + 8 * j + i - (64 * n + 8 * j) = i by omega]
        exact ⟨v17 i, v18 i, v19 i⟩
      rw [w23, if_pos rfl, rD, if_pos rfl, ← hz]
      refine ⟨rfl, bC.bx d2 (by omega) (Or.inl rfl), ?_, by omega, fun i hi => ?_⟩
      · obtain ⟨y1, y2, y3, y4⟩ := d3
        refine ⟨y1, ?_, y3, fun i hi => ?_⟩
        · rw [y2]
          exact zsum_eq _ fun i hi => (n20 i (by omega)).2.1.symm
        · rw [y4 i hi]
          obtain ⟨x1, x2, x3⟩ := n20 i (by omega)
          simp only [sh]
          rw [x1, x2, x3]
          congr 1
          unfold rpit
          split
          · rename_i w; exact w.symm
          · omega
      · obtain ⟨x1, x2, x3⟩ := n20 i (by omega)
        rw [x1, x2, x3]
        exact q6.2.2 i (by omega)
    · obtain ⟨y1, y2, y3, y4, y5⟩ := pb j (by omega)
      have n20 : ∀ i, i < 8 → sB 20 (64 * n + 8 * j + i) = sA 20 (64 * n + 8 * j + i) ∧ sB 21 (64 * n + 8 * j + i) = sA 21 (64 * n + 8 * j + i) ∧ sB 22 (64 * n + 8 * j + i) = sA 22 (64 * n + 8 * j + i) := fun i hi => by
        obtain ⟨x1, x2, x3⟩ := u3 (64 * n + 8 * j + i)
        rw [x1, x2, x3, if_neg (by omega), if_neg (by omega), if_neg (by omega)]
        exact ⟨v20 _, v21 _, v22 _⟩
      rw [w23, if_neg (by omega), rD, if_neg e]
      refine ⟨y1, ⟨?_, ?_, ?_, ?_⟩, ?_, y4, fun i hi => ?_⟩
      · rw [(tD _ (by omega)).1]; exact y2.1
      · rw [oD _ _ (by omega) (by omega) (by omega) (by omega)]; exact y2.2.1
      · rw [(tD _ (by omega)).1]; exact y2.2.2.1
      · rw [(tD _ (by omega)).2]; exact y2.2.2.2
      · exact y3.fc (fun i => oD _ i (by omega) (by omega) (by omega) (by omega)) (fun i => oD _ i (by omega) (by omega) (by omega) (by omega)) rfl (fun i hi => (n20 i hi).1) (fun i hi => (n20 i hi).2.1) (fun i hi => (n20 i hi).2.2)
      · obtain ⟨x1, x2, x3⟩ := n20 i (by omega)
        rw [x1, x2, x3]
        exact y5 i hi
end PLATE
