section PLATE2
variable {X : Nat} {s : zSg} {A : Nat → Nat} {B : Nat → Nat → Nat} {K : Nat → Nat} {ow : Nat → Nat × Nat} {n p N0 Nn a : Nat}
theorem plate_l {H0 : zHp} (hn : s 0 2 = (n : Int)) (h59 : n ≤ 59) (hX : X + 99 ≤ N0) (hp : p < n) (hk : s 3 p = 2 ∨ s 3 p = 5) (hb : ((a + Nn : Nat) : Int) ≤ wholeN s (s 4 p).toNat (s 5 p).toNat) (N1 : 1 ≤ Nn) (N8 : Nn ≤ 8) (a20 : a ≤ 20) :
    ∀ (d f1 f2 k : Nat) (H1 : zHp) (sA : zSg), Nn - k = d → d < f1 → d < f2 → k ≤ Nn → IV X H1 s A B K (plO ow N0 n) → PHp X H0 H1 n N0 (A p) a Nn k → PRf s sA n p a Nn → PBd H1 sA n N0 k →
    ∃ H2 sB, (∀ Q, fPlate_init_l1 f1 (N0 + 1) (A p) (a : Int) (k : Int) H1 Q = Q (N0 + 1) H2) ∧ gM_plate_l6 f2 (p : Int) (a : Int) ((a + Nn - 1 : Nat) : Int) (n : Int) (k : Int) sA = some ((n : Int), sB) ∧ IV X H2 s A B K (plO ow N0 n) ∧ PHp X H0 H2 n N0 (A p) a Nn Nn ∧ PRf s sB n p a Nn ∧ PBd H2 sB n N0 Nn := by
  intro d
  induction d with
  | zero =>
    intro f1 f2 k H1 sA h1 h2 h3 h4 I ph pr pb
    obtain ⟨f1, rfl⟩ : ∃ f', f1 = f' + 1 := ⟨f1 - 1, by omega⟩
    obtain ⟨f2, rfl⟩ : ∃ f', f2 = f' + 1 := ⟨f2 - 1, by omega⟩
    obtain rfl : k = Nn := by omega
    refine ⟨H1, sA, fun Q => ?_, ?_, I, ph, pr, pb⟩
    · obtain ⟨-, -, -, -, ⟨g1, g2, g3, g4, g5⟩, c0, c1, c2, c3, c4, c5⟩ := ph
      rw [fPlate_init_l1]
      simp only [yjn, ygr, yln, g1, zA6, if_true, c4, Int.toNat_natCast, g4, g5, Nat.reduceLeDiff, and_self]
      rw [if_neg (by omega)]
    · rw [gM_plate_l6, zsub_e (by omega) (by omega), if_pos (by omega)]
  | succ d ih =>
    intro f1 f2 k H1 sA h1 h2 h3 h4 I ph pr pb
    obtain ⟨f1, rfl⟩ : ∃ f', f1 = f' + 1 := ⟨f1 - 1, by omega⟩
    obtain ⟨f2, rfl⟩ : ∃ f', f2 = f' + 1 := ⟨f2 - 1, by omega⟩
    obtain ⟨H2, sB, q1, q2, q3, q4, q5, q6⟩ := plate1 I hn h59 hX hp hk (k := k) (a := a) (Nn := Nn) (by omega) (by omega) (by omega) N8 a20 ph pr pb
    obtain ⟨H3, sC, j1, j2, j3⟩ := ih f1 f2 (k + 1) H2 sB (by omega) (by omega) (by omega) (by omega) q3 q4 q5 q6
    exact ⟨H3, sC, fun Q => (q1 f1 Q).trans (j1 Q), (q2 f2).trans j2, j3⟩
def plA (H : zHp) (n : Nat) : zHp := zwr (zwr (zal H 7 6 fun _ => 0) (znx H + 1) 0 3) (znx H + 1) 1 (n : Int)
def plB (H : zHp) (n Ap a : Nat) : zHp := zwr (zwr (zwr (zal (plA H n) 30 4 fun _ => 0) (znx H + 1) 5 ((znx H + 2 : Nat) : Int)) (znx H + 1) 2 (Ap : Int)) (znx H + 1) 3 (a : Int)
def plC (H : zHp) (n Ap a Nn : Nat) : zHp := zwr (zal (plB H n Ap a) 36 Nn fun _ => 0) (znx H + 1) 4 ((znx H + 3 : Nat) : Int)
theorem plC_run {H : zHp} {Ap : Nat} {b : Int} (hb : b - (a : Int) + 1 = (Nn : Int)) (N8 : Nn ≤ 8) (a20 : a ≤ 20) : fPlate_init (znx H + 1) (n : Int) Ap (a : Int) b (zal H 7 6 fun _ => 0) = fPlate_init_l1 zFU (znx H + 1) Ap (a : Int) 0 (plC H n Ap a Nn) (fun (x35 : Nat) (s36 : zHp) => ygr 6 5 x35 s36 fun p37 => ybd (fJArrays_fill p37 (-1) s36) fun _ s38 => some ((), s38)) := by
  have t1 : ztg (zal H 7 6 fun _ => 0) (znx H + 1) = 7 := by rw [ztg_al, if_pos rfl]
  have t2 : ztg (zal (plA H n) 30 4 fun _ => 0) (znx H + 1) = 7 := by
    rw [ztg_al, if_neg (show ¬ znx H + 1 = znx (plA H n) + 1 from fun w => by have : znx (plA H n) = znx H + 1 := rfl; omega)]; exact t1
  have t3 : ztg (zal (plB H n Ap a) 36 Nn fun _ => 0) (znx H + 1) = 7 := by
    rw [ztg_al, if_neg (show ¬ znx H + 1 = znx (plB H n Ap a) + 1 from fun w => by have : znx (plB H n Ap a) = znx H + 2 := rfl; omega)]; exact t2
  have ec : zmax 0 (zmin (zadd (zsub b (a : Int)) 1) 8) = (Nn : Int) := by
    rw [zsub_e (by omega) (by omega), zadd_e (by omega) (by omega)]
    unfold zmin zmax
    split <;> split <;> omega
  have eA : zwr (zwr (zal H 7 6 fun _ => 0) (znx H + 1) 0 3) (znx H + 1) 1 (n : Int) = plA H n := rfl
  have eB : zwr (zwr (zwr (zal (plA H n) 30 4 fun _ => 0) (znx H + 1) 5 ((znx (plA H n) + 1 : Nat) : Int)) (znx H + 1) 2 (Ap : Int)) (znx H + 1) 3 (a : Int) = plB H n Ap a := rfl
  have eC : zwr (zal (plB H n Ap a) 36 Nn fun _ => 0) (znx H + 1) 4 ((znx (plB H n Ap a) + 1 : Nat) : Int) = plC H n Ap a Nn := rfl
  unfold fPlate_init fThing_init
  simp only [yn0, yna, ypi, ypr, ybd_s, show 0 < znx H + 1 by omega, if_true, t1, ztg_wr, show zisA 20 7 = true from rfl, zA6, eA, show ((0 : Int) ≤ 4 ∧ (4 : Int) ≤ 100000) by omega, and_self, show (4 : Int).toNat = 4 from rfl, t2, eB, ec, show ((0 : Int) ≤ (Nn : Int) ∧ (Nn : Int) ≤ 100000) by omega, Int.toNat_natCast, t3, eC]
theorem plC_h {H : zHp} {Ap : Nat} (hX : X + 99 ≤ znx H) : PHp X H (plC H n Ap a Nn) n (znx H) Ap a Nn 0 ∧ ∀ q k, q ≤ znx H → zct (plC H n Ap a Nn) q k = zct H q k := by
  have sA1 : zst H (plA H n) := ((zst.rf.al _ _ _).wr _ _ _).wr _ _ _
  have sB1 : zst H (plB H n Ap a) := (((sA1.al _ _ _).wr _ _ _).wr _ _ _).wr _ _ _
  have sC1 : zst H (plC H n Ap a Nn) := (sB1.al _ _ _).wr _ _ _
  have old : ∀ q k, q ≤ znx H → zct (plC H n Ap a Nn) q k = zct H q k := fun q k hq => by
    have xA : znx (plA H n) = znx H + 1 := rfl
    have xB : znx (plB H n Ap a) = znx H + 2 := rfl
    unfold plC
    rw [zct_wr, if_neg (by omega), zct_al, if_neg (by omega)]
    unfold plB
    rw [zct_wr, if_neg (by omega), zct_wr, if_neg (by omega), zct_wr, if_neg (by omega), zct_al, if_neg (by omega)]
    unfold plA
    rw [zct_wr, if_neg (by omega), zct_wr, if_neg (by omega), zct_al, if_neg (by omega)]
  have xA : znx (plA H n) = znx H + 1 := rfl
  have xB : znx (plB H n Ap a) = znx H + 2 := rfl
  refine ⟨⟨sC1, rfl, ?_, fun q hq j => old q j (by omega), ⟨?_, ?_, ?_, ?_, ?_⟩, ?_, ?_, ?_, ?_, ?_, ?_⟩, old⟩
  · show zus H + 6 + 4 + Nn = _
    omega
  · show ztg (zal (plB H n Ap a) 36 Nn fun _ => 0) (znx H + 1) = 7
    rw [ztg_al, if_neg (by omega)]
    show ztg (zal (plA H n) 30 4 fun _ => 0) (znx H + 1) = 7
    rw [ztg_al, if_neg (by omega)]
    show ztg (zal H 7 6 fun _ => 0) (znx H + 1) = 7
    rw [ztg_al, if_pos rfl]
  · show ztg (zal (plB H n Ap a) 36 Nn fun _ => 0) (znx H + 2) = 30
    rw [ztg_al, if_neg (by omega)]
    show ztg (zal (plA H n) 30 4 fun _ => 0) (znx H + 2) = 30
    rw [ztg_al, if_pos (by omega)]
  · show zln (zal (plB H n Ap a) 36 Nn fun _ => 0) (znx H + 2) = 4
    rw [zln_al, if_neg (by omega)]
    show zln (zal (plA H n) 30 4 fun _ => 0) (znx H + 2) = 4
    rw [zln_al, if_pos (by omega)]
  · show ztg (zal (plB H n Ap a) 36 Nn fun _ => 0) (znx H + 3) = 36
    rw [ztg_al, if_pos (by omega)]
  · show zln (zal (plB H n Ap a) 36 Nn fun _ => 0) (znx H + 3) = Nn
    rw [zln_al, if_pos (by omega)]
  all_goals
    unfold plC
    simp only [zct_wr, zct_al, xB]
    try unfold plB
    try simp only [zct_wr, zct_al, xA]
    try simp [plA, zct_wr, zct_al]
theorem kp_x0 {H1 : zHp} {q : Nat} : zfx X [10] H1 (kpH X H1 q n) := fun o k h1 h2 => by
  rw [kp_c]
  by_cases e : X + o = X ∧ k = 4
  · have : o = 0 := by omega
    subst this
    rw [e.2] at h2
    cases (show true = false from h2)
  · rw [if_neg e]
    by_cases e2 : X + o = X + 2 ∧ k = n
    · have : o = 2 := by omega
      subst this
      cases (show true = false from h2)
    · rw [if_neg e2]
theorem PRf.ch {sB : zSg} (h : PRf s sB n p a Nn) : NCh n s sB ∧ zfs [10, 11] s sB := by
  obtain ⟨r1, r2, r3, r4, r5, r6, r7, r8, r9, r10⟩ := h
  have r1' : ∀ r, r ≠ 0 ∧ (r < 3 ∨ 6 < r) ∧ (r < 17 ∨ 23 < r) → sB r = s r := fun r hr => r1 r (by omega) (by omega) (by omega) (by omega) (by omega) (by omega) (by omega) (by omega) (by omega) (by omega) (by omega) (by omega)
  refine ⟨⟨fun k hk u hu => ?_, fun j hj => ?_, fun j hj => r4 j hj, fun j hj => r5 j hj, fun j hj => ?_, fun j hj => ?_⟩, fun k j hkj => ?_⟩
  · obtain ⟨x3, x4, x5, x6⟩ := r3 u hu
    rcases hk with rfl | rfl | rfl | rfl | rfl | rfl | rfl | rfl | rfl
    · exact x3
    · exact x4
    · exact x5
    · exact x6
    all_goals rw [r1' _ (by omega)]
  · rw [r1' 14 (by omega), r1' 75 (by omega)]; exact ⟨rfl, rfl⟩
  · rw [r1' 13 (by omega), r1' 29 (by omega)]; exact ⟨rfl, rfl⟩
  · rw [r1' 10 (by omega), r1' 11 (by omega), r1' 12 (by omega), r1' 26 (by omega), r1' 27 (by omega), r1' 28 (by omega)]; exact ⟨rfl, rfl, rfl, rfl, rfl, rfl⟩
  · by_cases k0 : k = 0
    · subst k0
      refine r2 j (fun w => ?_) (fun w => ?_)
      · subst w; cases (show true = false from hkj)
      · subst w; cases (show true = false from hkj)
    · have hk : ∀ q, [10, 11].contains (rgs.getD q 99) = true → k ≠ q := fun q hq w => by
        subst w
        unfold rg at hkj
        rw [if_neg k0, hq] at hkj
        cases hkj
      rw [r1 k k0 (hk _ rfl) (hk _ rfl) (hk _ rfl) (hk _ rfl) (hk _ rfl) (hk _ rfl) (hk _ rfl) (hk _ rfl) (hk _ rfl) (hk _ rfl) (hk _ rfl)]
set_option maxRecDepth 100000 in
theorem IV.newplate {H0 H2 : zHp} {sB : zSg} (I0 : IV X H0 s A B K ow) (I : IV X H2 s A B K (plO ow (znx H0) n)) (hn : s 0 2 = (n : Int)) (h59 : n ≤ 59) (hp : p < n) (hk : s 3 p = 2 ∨ s 3 p = 5) (hb : ((a + Nn : Nat) : Int) ≤ wholeN s (s 4 p).toNat (s 5 p).toNat) (N1 : 1 ≤ Nn) (N8 : Nn ≤ 8)
    (ph : PHp X H0 H2 n (znx H0) (A p) a Nn Nn) (pr : PRf s sB n p a Nn) (pb : PBd H2 sB n (znx H0) Nn) : KD X H0 (kpH X (zfil H2 (znx H0 + 2) 0 4 (-1)) (znx H0 + 1) n) sB := by
  have F := I.1
  have hX0 := I0.1.2.1.1
  obtain ⟨i1, i2, i3⟩ := I.n0 (n := n)
  obtain ⟨sn1, sn2, sn3⟩ := i2 hn (by omega)
  obtain ⟨h1, h2, h3, h4, ⟨g1, g2, g3, g4, g5⟩, c0, c1, c2, c3, c4, c5⟩ := ph
  obtain ⟨Nc, Z⟩ := pr.ch
  obtain ⟨r1, r2, r3, r4, r5, r6, r7, r8, r9, r10⟩ := pr
  have hp' : (p : Int) < s 0 2 := by omega
  obtain ⟨⟨p1, p2⟩, p3, ⟨p4, p5⟩, p6, -⟩ := (I.st hp').2.2.1 hk
  have hs := (I.st (t := (s 4 p).toNat) (by omega)).2.1 p3
  have hs6 := hs.2.1
  have hw := wholeN_b (v := (s 5 p).toNat) (by omega) hs
  have wi := fun (b : Nat) (hb : (b : Int) < wholeN s (s 4 p).toNat (s 5 p).toNat) => (whole_iff (b := b) (v := (s 5 p).toNat) (by omega) hs).mp hb
  generalize hN0 : znx H0 = N0 at *
  have sF : zst H2 (zfil H2 (N0 + 2) 0 4 (-1)) := zst.rf.fil _ _ _ _
  have oF : ∀ q k, q ≠ N0 + 2 → zct (zfil H2 (N0 + 2) 0 4 (-1)) q k = zct H2 q k := fun q k w => by rw [zct_fil, if_neg (fun e => w e.1)]
  have mF : ∀ k, k < 4 → zct (zfil H2 (N0 + 2) 0 4 (-1)) (N0 + 2) k = -1 := fun k w => by rw [zct_fil, if_pos ⟨rfl, by omega, w⟩]
  have xF : znx (zfil H2 (N0 + 2) 0 4 (-1)) = znx H2 := rfl
  have uF : zus (zfil H2 (N0 + 2) 0 4 (-1)) = zus H2 := rfl
  have IF : IV X (zfil H2 (N0 + 2) 0 4 (-1)) s A B K (plO ow N0 n) := I.sep (n := n) (by omega) h59 sF (fun q i w1 w2 => oF q i (by have := plO_le w2; omega)) (fun _ _ => rfl)
  generalize zfil H2 (N0 + 2) 0 4 (-1) = H3 at *
  have kst : zst H3 (kpH X H3 (N0 + 1) n) := (zst.rf.wr _ _ _).wr _ _ _
  have kc : ∀ q k, X + 99 < q → zct (kpH X H3 (N0 + 1) n) q k = zct H3 q k := fun q k h => by rw [kp_c, if_neg (by omega), if_neg (by omega)]
  have kx : znx (kpH X H3 (N0 + 1) n) = znx H3 := rfl
  have ku : zus (kpH X H3 (N0 + 1) n) = zus H3 := rfl
  have kt : ∀ q, ztg (kpH X H3 (N0 + 1) n) q = ztg H3 q ∧ zln (kpH X H3 (N0 + 1) n) q = zln H3 q := fun q => ⟨rfl, rfl⟩
  have e1 : ∀ r, r ≠ 0 ∧ (r < 3 ∨ 6 < r) ∧ (r < 17 ∨ 23 < r) → sB r = s r := fun r hr => r1 r (by omega) (by omega) (by omega) (by omega) (by omega) (by omega) (by omega) (by omega) (by omega) (by omega) (by omega) (by omega)
  have e08 : sB 0 8 = s 0 8 := r2 8 (by omega) (by omega)
  have e024 : sB 0 24 = s 0 24 := r2 24 (by omega) (by omega)
  obtain ⟨y3, y4, y5, y6⟩ := r3 p (by omega)
  obtain ⟨w3, w4, w5, w6⟩ := r3 (s 4 p).toNat (by omega)
  have ep : ((p : Int)).toNat = p := Int.toNat_natCast p
  have eN : ((Nn : Int)).toNat = Nn := Int.toNat_natCast Nn
  have si : SI sB := I.2.2.2.2.1.add Nc hn r10 e08 e024 (e1 25 (by omega)) i1 ⟨by omega, fun w => absurd w (by omega), fun w => absurd w (by omega), fun _ => by
      unfold SIl
      rw [r7, r8, r9, ep, eN, y3, y4, y5, w5, e1 14 (by omega), e1 11 (by omega), e1 13 (by omega), e1 75 (by omega)]
      refine ⟨by omega, hk, by omega, by omega, by omega, fun b hb => ?_, fun k hk => ?_, fun k hk => ?_⟩
      · exact wi b (by omega)
      · obtain ⟨-, -, -, z4, z5⟩ := pb k (by omega)
        exact ⟨z4, z5⟩
      · rw [(sn1 k hk).2]
        have : 0 < 2 ^ Nn := Nat.pow_pos (by omega)
        have pwc : ((2 ^ Nn : Nat) : Int) = 2 ^ Nn := by simp
        omega, fun w => absurd w (by omega), fun w => absurd w (by omega)⟩ (fun _ j hj => by rw [e1 29 (by omega)]; exact sn2 j hj) (fun _ _ v hv => by rw [e1 14 (by omega)]; exact (sn1 v hv).1)
  let A' : Nat → Nat := fun w => if w = n then N0 + 1 else A w
  let B' : Nat → Nat → Nat := fun w j => if w = n then N0 + 4 + 2 * j else B w j
  have A1 : A' n = N0 + 1 := if_pos rfl
  have A2 : A' p = A p := if_neg (by omega)
  have B1 : ∀ j, B' n j = N0 + 4 + 2 * j := fun j => if_pos rfl
  have o1 : plO ow N0 n (N0 + 1) = (n + 1, 0) := by
    unfold plO
    rw [if_neg (by omega), if_pos rfl]
  have o2 : plO ow N0 n (N0 + 2) = (n + 1, 1) := by
    unfold plO
    rw [if_neg (by omega), if_neg (by omega), if_pos rfl]
  have o3 : plO ow N0 n (N0 + 3) = (n + 1, 2) := by
    unfold plO
    rw [if_neg (by omega), if_neg (by omega), if_neg (by omega), if_pos rfl]
  have o4 : ∀ q, N0 + 3 < q → plO ow N0 n q = (n + 1, q - N0 + 6) := fun q hq => by
    unfold plO
    rw [if_neg (by omega), if_neg (by omega), if_neg (by omega), if_neg (by omega)]
  have t2 : ∀ q, q ≤ znx H2 → ztg H3 q = ztg H2 q ∧ zln H3 q = zln H2 q := fun q hq => sF.2.2 q hq
  have iv : IV X (kpH X H3 (N0 + 1) n) sB A' B' K (plO ow N0 n) := by
    refine IF.add (gs := [11]) (x := n) hn h59 kst kp_x0 ?_ (fun k => ?_) ?_ Z Nc r10 (fun w hw => if_neg hw) (fun w hw _ j => if_neg hw) (fun _ _ => rfl) ?_ (fun w => absurd w (by omega)) (fun w => absurd w (by omega)) (fun w _ _ h => by omega) si (Or.inr rfl) (Nat.le_refl _)
    · rw [kp_c, if_pos ⟨rfl, rfl⟩]
    · rw [kp_c, if_neg (by omega), A1]
      by_cases e : k = n
      · rw [if_pos ⟨rfl, e⟩, if_pos e]
      · rw [if_neg (fun w => e w.2), if_neg e]
    · refine fun q h1 h2 h3 k => ?_
      rw [kp_c, if_neg (by omega), if_neg (by omega)]
    · refine ⟨fun w => absurd w (by omega), fun w => absurd w (by omega), fun _ => ?_, fun w => absurd w (by omega), fun w => absurd w (by omega)⟩
      unfold TOl My
      rw [A1, r6, r7, r8, r9, ep, eN, A2, show N0 + 1 + 1 = N0 + 2 from rfl, show N0 + 1 + 2 = N0 + 3 from rfl, o1, o2, o3, kx, xF, h2]
      simp only [(kt _).1, (kt _).2]
      rw [(t2 _ (by omega)).1, (t2 _ (by omega)).1, (t2 _ (by omega)).2, (t2 _ (by omega)).1, (t2 _ (by omega)).2]
      rw [kc _ _ (by omega), kc _ _ (by omega), kc _ _ (by omega), kc _ _ (by omega), kc _ _ (by omega), kc _ _ (by omega), oF _ _ (by omega), oF _ _ (by omega), oF _ _ (by omega), oF _ _ (by omega), oF _ _ (by omega), oF _ _ (by omega)]
      refine ⟨⟨⟨by omega, by omega, by trivial⟩, ⟨by omega, by omega, by trivial⟩, ⟨by omega, by omega, by trivial⟩⟩, ⟨g1, c0, c1, c2, c3, c4, c5⟩, ⟨g2, g3, g4, g5⟩, fun k hk => ?_, fun k hk => ?_⟩
      · rw [kc _ _ (by omega), mF k hk, e1 75 (by omega), (sn1 k hk).2]
      · obtain ⟨z1, z2, z3, z4, z5⟩ := pb k (by omega)
        rw [B1, kc _ _ (by omega), oF _ _ (by omega)]
        refine ⟨z1, ⟨⟨by omega, by rw [kx, xF, h2]; omega, by rw [o4 _ (by omega)]; congr 1; omega⟩, ⟨by omega, by rw [kx, xF, h2]; omega, by rw [o4 _ (by omega)]; congr 1; omega⟩, ?_, ?_, ?_, ?_⟩, ?_⟩
        · rw [(kt _).1, (t2 _ (by omega)).1]; exact z2.1
        · rw [kc _ _ (by omega), oF _ _ (by omega)]; exact z2.2.1
        · rw [(kt _).1, (t2 _ (by omega)).1]; exact z2.2.2.1
        · rw [(kt _).2, (t2 _ (by omega)).2]; exact z2.2.2.2
        · exact z3.fc (fun i => by rw [kc _ _ (by omega), oF _ _ (by omega)]) (fun i => by rw [kc _ _ (by omega), oF _ _ (by omega)]) rfl (fun _ _ => rfl) (fun _ _ => rfl) (fun _ _ => rfl)
  refine ⟨(h1.tr sF).tr kst, by omega, by omega, fun q hq1 hq2 k => ?_, A', B', K, plO ow N0 n, iv⟩
  rw [kp_c, if_neg (by omega), if_neg (by omega), oF _ _ (by omega)]
  exact h4 q hq2 k
end PLATE2
