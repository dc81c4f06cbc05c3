section EDITION4
variable {X : Nat} {s : zSg} {A : Nat → Nat} {B : Nat → Nat → Nat} {K : Nat → Nat} {n : Nat}
theorem errN_0 {s : zSg} {e : Nat} : ∀ m, (∀ i, i < m → ¬ (s 3 i = 7 ∧ s 4 i = (e : Int))) → errN s e m = 0
  | 0, _ => rfl
  | m + 1, h => by
    show errN s e m + (if s 3 m = 7 ∧ s 4 m = (e : Int) then 1 else 0) = 0
    rw [errN_0 m (fun i hi => h i (by omega)), if_neg (h m (by omega))]
    rfl
theorem zln_n' {H : zHp} {t n q : Nat} {f : Nat → Int} (h : q ≤ znx H) : zln (zal H t n f) q = zln H q := by rw [zln_al, if_neg (by omega)]
theorem IV.empty {H : zHp} {ow : Nat → Nat × Nat} (I : IV X H s A B K ow) : IV X (zwr H X 7 0) (zup s 0 24 0) A B K ow := by
  have e0 : ∀ j, j ≠ 24 → zup s 0 24 0 0 j = s 0 j := fun j hj => by simp [zup, hj]
  have e24 : zup s 0 24 0 0 24 = 0 := by simp [zup]
  have eo : ∀ k, k ≠ 0 → zup s 0 24 0 k = s k := fun k h1 => zup_o h1
  have h4 : zfs [2] s (zup s 0 24 0) := (by repeat first | exact zfs.rf | refine zfs.up0 ?_ rfl | refine zfs.up ?_ (by decide) rfl)
  refine I.g2 (by repeat first | exact zst.rf | apply zst.wr) (by repeat first | exact zfx.rf | refine zfx.wr0 ?_ rfl | refine zfx.wr ?_ rfl) (by repeat first | exact zfd.rf | refine zfd.wr0 ?_ | refine zfd.wr ?_ (by omega)) h4 ?_ ?_
  · refine ⟨?_, by omega, by omega, fun k hk => absurd hk (by omega)⟩
    rw [e24]
    show zct (zwr H X 7 0) X 7 = 0
    rw [zct_wr, if_pos ⟨rfl, rfl⟩]
  · obtain ⟨k1, k2, k3, k4⟩ := I.2.2.2.2.1
    generalize zup s 0 24 0 = s' at *
    unfold SI
    rw [e0 2 (by omega), e24, eo 3 (by omega), eo 29 (by omega), eo 14 (by omega)]
    refine ⟨fun t ht => ?_, fun t h1 h2 => ?_, k3, fun k hk => absurd hk (by omega)⟩
    · obtain ⟨q0, q1, q2, q3, q4, q5⟩ := k1 t ht
      unfold SIt SIs SIp SIl SIe SIr BI
      rw [e0 8 (by omega), eo 3 (by omega), eo 4 (by omega), eo 5 (by omega), eo 6 (by omega), eo 7 (by omega), eo 10 (by omega), eo 11 (by omega), eo 12 (by omega), eo 13 (by omega), eo 14 (by omega), eo 20 (by omega), eo 21 (by omega), eo 22 (by omega), eo 23 (by omega), eo 26 (by omega), eo 27 (by omega), eo 28 (by omega), eo 29 (by omega), eo 30 (by omega), eo 31 (by omega), eo 32 (by omega), eo 64 (by omega), eo 75 (by omega)]
      exact ⟨q0, q1, q2, q3, q4, q5⟩
    · unfold SIn
      rw [eo 14 (by omega), eo 75 (by omega), eo 29 (by omega), eo 64 (by omega)]
      exact k2 t h1 h2
set_option maxRecDepth 100000 in
theorem IV.newedition {H0 H2 : zHp} {sB : zSg} {ow0 ow : Nat → Nat × Nat} {Bn : Nat → Nat} {P u : Nat} (I0 : IV X H0 s A B K ow0) (I : IV X H2 s A B K ow) (hn : s 0 2 = (n : Int)) (h59 : n ≤ 59) (hu : u < n) (hk : s 3 u = 1 ∨ s 3 u = 6) (hP : 1 ≤ P ∧ P ≤ 12) (eh : EHp X H0 H2 ow0 ow n (znx H0) (A u) (P : Int) (8 * P)) (eb : EB X H2 sB ow Bn n (znx H0)) (er : ERf s sB n (u : Int) (P : Int)) :
    KD X H0 (kpH X (zwr H2 X 7 0) (znx H0 + 1) n) (zup sB 0 24 0) := by
  have hX0 := I0.1.2.1.1
  have Ib := I.empty
  obtain ⟨i1, i2, i3⟩ := Ib.n0 (n := n)
  have Is := I.2.2.2.2.1
  obtain ⟨h1, ⟨h2, h2'⟩, h3, h4, ⟨g1, g2, g3, g4, g5, g6, g7, g8, g9⟩, ⟨c0, c1, c2, c3, c4, c5, c6, c7, c8⟩, hm1, o1, o2⟩ := eh
  obtain ⟨r1, r2, r3, r4, r5, r6, r7, r8, r10⟩ := er
  have b0 : ∀ j, j ≠ 24 → zup s 0 24 0 0 j = s 0 j := fun j hj => by simp [zup, hj]
  have b24 : zup s 0 24 0 0 24 = 0 := by simp [zup]
  have bo : ∀ k, k ≠ 0 → zup s 0 24 0 k = s k := fun k h1 => zup_o h1
  have f0 : ∀ j, j ≠ 24 → zup sB 0 24 0 0 j = sB 0 j := fun j hj => by simp [zup, hj]
  have f24 : zup sB 0 24 0 0 24 = 0 := by simp [zup]
  have fo : ∀ k, k ≠ 0 → zup sB 0 24 0 k = sB k := fun k h1 => zup_o h1
  obtain ⟨sn1, sn2, sn3⟩ := i2 (by rw [b0 2 (by omega)]; exact hn) (by omega)
  generalize zup s 0 24 0 = sb at *
  generalize zup sB 0 24 0 = sF at *
  rw [bo 14 (by omega), bo 75 (by omega)] at sn1
  have r1' : ∀ r, r ≠ 0 ∧ (r < 3 ∨ 6 < r) ∧ (r < 26 ∨ 29 < r) → sF r = sb r := fun r hr => by rw [fo r (by omega), bo r (by omega), r1 r (by omega) (by omega) (by omega) (by omega) (by omega) (by omega) (by omega) (by omega) (by omega)]
  have rr : ∀ w, w ≠ n → sF 3 w = s 3 w ∧ sF 4 w = s 4 w ∧ sF 5 w = s 5 w ∧ sF 6 w = s 6 w := fun w hw => by rw [fo 3 (by omega), fo 4 (by omega), fo 5 (by omega), fo 6 (by omega)]; exact r3 w hw
  have x3 : sF 3 n = 4 := by rw [fo 3 (by omega)]; exact r6
  have x4 : sF 4 n = (u : Int) := by rw [fo 4 (by omega)]; exact r7
  have x5 : sF 5 n = (P : Int) := by rw [fo 5 (by omega)]; exact r8
  have x02 : sF 0 2 = ((n + 1 : Nat) : Int) := by rw [f0 2 (by omega)]; exact r10
  have Nc : NCh n sb sF := by
    refine ⟨fun k hk w hw => ?_, fun j hj => ?_, fun j hj => ?_, fun j hj => ?_, fun j hj => ?_, fun j hj => ?_⟩
    · obtain ⟨y3, y4, y5, y6⟩ := rr w hw
      rcases hk with rfl | rfl | rfl | rfl | rfl | rfl | rfl | rfl | rfl
      · rw [y3, bo 3 (by omega)]
      · rw [y4, bo 4 (by omega)]
      · rw [y5, bo 5 (by omega)]
      · rw [y6, bo 6 (by omega)]
      all_goals rw [r1' _ (by omega)]
    · rw [r1' 14 (by omega), r1' 75 (by omega)]; exact ⟨rfl, rfl⟩
    · rw [r1' 23 (by omega)]
    · rw [r1' 20 (by omega), r1' 21 (by omega), r1' 22 (by omega)]; exact ⟨rfl, rfl, rfl⟩
    · rw [r1' 13 (by omega), fo 29 (by omega), bo 29 (by omega), r4 j hj]; exact ⟨rfl, rfl⟩
    · obtain ⟨y1, y2, y3⟩ := r5 j hj
      rw [r1' 10 (by omega), r1' 11 (by omega), r1' 12 (by omega), fo 26 (by omega), bo 26 (by omega), fo 27 (by omega), bo 27 (by omega), fo 28 (by omega), bo 28 (by omega)]
      exact ⟨rfl, rfl, rfl, y1, y2, y3⟩
  have Z : zfs [10] sb sF := fun k j hkj => by
    by_cases k0 : k = 0
    · subst k0
      by_cases j24 : j = 24
      · rw [j24, f24, b24]
      · rw [f0 j j24, b0 j j24]
        refine r2 j (fun w => ?_)
        subst w; cases (show true = false from hkj)
    · have hk : ∀ q, [10].contains (rgs.getD q 99) = true → k ≠ q := fun q hq w => by
        subst w
        unfold rg at hkj
        rw [if_neg k0, hq] at hkj
        cases hkj
      rw [fo k k0, bo k k0, r1 k k0 (hk _ rfl) (hk _ rfl) (hk _ rfl) (hk _ rfl) (hk _ rfl) (hk _ rfl) (hk _ rfl) (hk _ rfl)]
  have eu : ((u : Int)).toNat = u := Int.toNat_natCast u
  obtain ⟨y3, y4, y5, y6⟩ := rr u (by omega)
  have si : SI sF := Ib.2.2.2.2.1.add Nc (by rw [b0 2 (by omega)]; exact hn) x02 (by rw [f0 8 (by omega), b0 8 (by omega), r2 8 (by omega)]) (by rw [f24, b24]) (r1' 25 (by omega)) (fun k hk => absurd hk (by rw [b24]; omega)) ⟨by omega, fun w => absurd w (by omega), fun w => absurd w (by omega), fun w => absurd w (by omega), fun _ => by
      unfold SIe
      rw [x4, x5, eu, y3, fo 26 (by omega), fo 27 (by omega), fo 28 (by omega), fo 29 (by omega)]
      refine ⟨by omega, hk, by omega, fun j hj => ?_⟩
      obtain ⟨-, -, z3, z4⟩ := eb j hj
      exact ⟨z3, z4⟩, fun w => absurd w (by omega)⟩ (fun w => absurd x3 w) (fun _ _ v hv => by rw [r1' 14 (by omega), bo 14 (by omega)]; exact (sn1 v hv).1)
  generalize hN0 : znx H0 = N0 at *
  have sX : zst H2 (zwr H2 X 7 0) := zst.rf.wr _ _ _
  have oX : ∀ q k, q ≠ X → zct (zwr H2 X 7 0) q k = zct H2 q k := fun q k w => by rw [zct_wr, if_neg (fun e => w e.1)]
  have xX : znx (zwr H2 X 7 0) = znx H2 := rfl
  have uX : zus (zwr H2 X 7 0) = zus H2 := rfl
  have aX : ∀ q k, q ≤ X + 99 → X + 36 < q ∨ q < X → zct (zwr H2 X 7 0) q k = zct H0 q k := fun q k w1 w2 => by rw [oX _ _ (by omega)]; exact h4 q w1 k
  have tX : ∀ q, ztg (zwr H2 X 7 0) q = ztg H2 q ∧ zln (zwr H2 X 7 0) q = zln H2 q := fun q => ⟨rfl, rfl⟩
  generalize zwr H2 X 7 0 = H3 at *
  have kst : zst H3 (kpH X H3 (N0 + 1) n) := (zst.rf.wr _ _ _).wr _ _ _
  have kc : ∀ q k, X + 99 < q → zct (kpH X H3 (N0 + 1) n) q k = zct H2 q k := fun q k h => by rw [kp_c, if_neg (by omega), if_neg (by omega), oX _ _ (by omega)]
  have kx : znx (kpH X H3 (N0 + 1) n) = znx H2 := xX
  have ku : zus (kpH X H3 (N0 + 1) n) = zus H2 := uX
  have kt : ∀ q, ztg (kpH X H3 (N0 + 1) n) q = ztg H2 q ∧ zln (kpH X H3 (N0 + 1) n) q = zln H2 q := fun q => tX q
  let A' : Nat → Nat := fun w => if w = n then N0 + 1 else A w
  let B' : Nat → Nat → Nat := fun w j => if w = n then Bn j else B w j
  have A1 : A' n = N0 + 1 := if_pos rfl
  have A2 : A' u = A u := if_neg (by omega)
  have B1 : ∀ j, B' n j = Bn j := fun j => if_pos rfl
  have sg2 : zst H2 (kpH X H3 (N0 + 1) n) := sX.tr kst
  have ow0' := o1 0 (by omega)
  have ow1' := o1 1 (by omega)
  have ow2' := o1 2 (by omega)
  have ow3' := o1 3 (by omega)
  have ow4' := o1 4 (by omega)
  have e11 : N0 + 1 + 1 = N0 + 2 := rfl
  have e12 : N0 + 1 + 2 = N0 + 3 := rfl
  have e13 : N0 + 1 + 3 = N0 + 4 := rfl
  have e14 : N0 + 1 + 4 = N0 + 5 := rfl
  have e10 : N0 + 1 + 0 = N0 + 1 := rfl
  rw [e10] at ow0'
  rw [e11] at ow1'
  rw [e12] at ow2'
  rw [e13] at ow3'
  rw [e14] at ow4'
  have iv : IV X (kpH X H3 (N0 + 1) n) sF A' B' K ow := by
    refine Ib.add (gs := []) (x := n) (by rw [b0 2 (by omega)]; exact hn) h59 kst kp_x0 ?_ (fun k => ?_) ?_ Z Nc x02 (fun w hw => if_neg hw) (fun w hw _ j => if_neg hw) (fun _ _ => rfl) ?_ (fun _ => ⟨?_, fun j hj => ?_⟩) (fun w => absurd w (by omega)) (fun w _ _ h => by omega) si (Or.inl rfl) (Nat.le_refl _)
    · rw [kp_c, if_pos ⟨rfl, rfl⟩]
    · rw [kp_c, if_neg (by omega), A1]
      by_cases e : k = n
      · rw [if_pos ⟨rfl, e⟩, if_pos e]
      · rw [if_neg (fun w => e w.2), if_neg e]
    · refine fun q h1 h2 h3 k => ?_
      rw [kp_c, if_neg (by omega), if_neg (by omega)]
    · refine ⟨fun w => absurd w (by omega), fun w => absurd w (by omega), fun w => absurd w (by omega), fun _ => ?_, fun w => absurd w (by omega)⟩
      unfold TOe My
      rw [A1, x3, x4, x5, eu, A2, e11, e12, e13, e14, ow0', ow1', ow2', ow3', ow4', kx, fo 29 (by omega), fo 26 (by omega), fo 27 (by omega), fo 28 (by omega)]
      simp only [(kt _).1, (kt _).2]
      rw [kc _ _ (by omega), kc _ _ (by omega), kc _ _ (by omega), kc _ _ (by omega), kc _ _ (by omega), kc _ _ (by omega), kc _ _ (by omega), kc _ _ (by omega)]
      refine ⟨⟨⟨by omega, by omega, by trivial⟩, ⟨by omega, by omega, by trivial⟩, ⟨by omega, by omega, by trivial⟩, ⟨by omega, by omega, by trivial⟩, ⟨by omega, by omega, by trivial⟩⟩, ⟨g1, c0, c1, c2, c3, c5, c6⟩, Or.inl ⟨c7, c8⟩, ⟨g2, g3, g4, g5, g6, g7, g8, g9⟩, fun j hj => ?_⟩
      obtain ⟨z1, z2, -, -⟩ := eb j hj
      rw [B1, kc _ _ (by omega)]
      refine ⟨z1, fun w => ?_⟩
      obtain ⟨w1, w2⟩ := z2 w
      have w0 := w1.1.1
      exact ⟨w1.fc sg2 (kc _ _ (by omega)) (fun _ _ => rfl), w2.fc (fun i => kc _ i (by omega)) (fun i => kc _ i (by omega)) rfl (fun _ _ => rfl) (fun _ _ => rfl) (fun _ _ => rfl)⟩
    · rw [A1, kc _ _ (by omega), c4]
      symm
      refine errN_0 _ fun i hi w => ?_
      by_cases e : i = n
      · rw [e, x3] at w
        omega
      · obtain ⟨q3, q4, -⟩ := rr i e
        rw [q3, q4] at w
        have := ((Is.1 i (by omega)).2.2.2.2.2 w.1).1
        omega
    · rw [A1, kc _ _ (by omega), e14]
      exact Or.inl (hm1 j hj)
  refine ⟨h1.tr sg2, by omega, by omega, fun q hq1 hq2 k => ?_, A', B', K, ow, iv⟩
  rw [kp_c, if_neg (by omega), if_neg (by omega)]
  exact aX q k hq2 (by omega)
set_option maxRecDepth 100000 in
theorem k_edition {H : zHp} {ow : Nat → Nat × Nat} (I : IV X H s A B K ow) : wX (fH_edition X H) fun x H' => wX (gM_edition s) fun w s' => w = x ∧ KD X H H' s' := by
  have F := I.1
  have hX := F.2.1.1
  have hn := I.n
  have q1 : zct H X 4 = s 0 2 := I.2.1.2.2.2.2.2.2.2.2.2.1
  obtain ⟨g7, g8, g9, g10⟩ := I.2.1.2.1
  have g7 : zct H X 7 = s 0 24 := g7
  unfold fH_edition gM_edition
  simp only [wX_s, wX_bd, wX_vl, wX_jn, wX_ite, wX_dv, wX_n0, wX_rb, wX_rc, wX_ry, wX_gi, wX_gr, wX_pi, wX_pz, wX_pr, wX_ai, wX_ab, wX_ar, wX_si, wX_sz, wX_sb, wX_sr, wX_ln, wX_nw, wX_na, wX_nm, wX_io, wX_ck, wX_cp, wX_cl, wX_ca, wX_sv, wX_sc, wX_rd, wX_wi, wX_wz, wX_wb, ft0 F, zA10, true_and, g7, fp0_6 F, ft3 F, fl3 F, q1]
  by_cases h : s 0 24 = 0
  · simp only [h, if_true]
    (first | exact KD.rf I | exact ⟨trivial, KD.rf I⟩ | exact ⟨rfl, KD.rf I⟩)
  · obtain ⟨g11, g12⟩ := g10 0 (by omega)
    have g11 : zct H (X + 3) 0 = ((A (s 25 0).toNat : Nat) : Int) := g11
    obtain ⟨w1, w2⟩ := I.2.2.2.2.1.2.2.2 0 (by omega)
    obtain ⟨t, et⟩ : ∃ t : Nat, s 25 0 = (t : Int) := ⟨(s 25 0).toNat, by omega⟩
    rw [et, Int.toNat_natCast] at g11 w2
    have ht : (t : Int) < s 0 2 := by omega
    have hp := I.pos ht
    obtain ⟨P, eP⟩ : ∃ P : Nat, s 0 24 = (P : Int) := ⟨(s 0 24).toNat, by omega⟩
    have c12 : 0 ≤ (0 : Int) ∧ (0 : Int) < ((12 : Nat) : Int) := by omega
    simp only [h, if_false, Nat.reduceLeDiff, and_self, c12, true_and, show (0 : Int).toNat = 0 from rfl, g11, Int.toNat_natCast, show ¬ A t = 0 by omega]
    by_cases h5 : s 0 2 < 60
    · obtain ⟨n, en⟩ : ∃ n : Nat, s 0 2 = (n : Int) := ⟨(s 0 2).toNat, by omega⟩
      obtain ⟨p0, p1, p2, p3, p4, p5, p6, p7⟩ := I.plate ht w2
      obtain ⟨⟨m0, m1, m2⟩, ⟨a0, a1, a2, a3, a4, a5, a6⟩, -⟩ := (I.to ht).2.2.1 w2
      obtain ⟨-, ⟨pa0, pa1, pa2, pa3, pa4, pa5, pa6, pa7⟩, -⟩ := (I.to p1).2.1 p2
      obtain ⟨⟨v1, v2⟩, v3, ⟨v4, v5⟩, v6, -⟩ := (I.st p1).2.2.1 p2
      have hpp := I.pos p1
      obtain ⟨u, eu⟩ : ∃ u : Nat, s 4 (s 4 t).toNat = (u : Int) := ⟨(s 4 (s 4 t).toNat).toNat, by omega⟩
      rw [eu, Int.toNat_natCast] at pa3 v3
      have sc := m_scoreOf (s := s) (t := t) (by omega) (fun _ => by omega) (by omega) (by omega) (by omega)
      rw [if_pos (Or.inl w2), eu] at sc
      have ma := m_add (s := s) (a := 4) (b := (u : Int)) (c := (P : Int)) (d := 0) en (by omega)
      obtain ⟨r3, r4, r5, r6, r0⟩ := adS_r (s := s) (n := n) (a := 4) (b := (u : Int)) (c := (P : Int)) (d := 0)
      have Sst := (I.2.2.2.2.1.2.1 n (by omega) (by omega)).2.1
      have er : ERf s (adS s n 4 (u : Int) (P : Int) 0) n (u : Int) (P : Int) := ⟨fun r w0 w3 w4 w5 w6 _ _ _ _ => adS_o w3 w4 w5 w6 w0, fun j w2 => adS_0 w2, fun u hu => ⟨adS_u hu (by omega), adS_u hu (by omega), adS_u hu (by omega), adS_u hu (by omega)⟩, fun j _ => by rw [adS_o (by omega) (by omega) (by omega) (by omega) (by omega)], fun j _ => by rw [adS_o (k := 26) (by omega) (by omega) (by omega) (by omega) (by omega), adS_o (k := 27) (by omega) (by omega) (by omega) (by omega) (by omega), adS_o (k := 28) (by omega) (by omega) (by omega) (by omega) (by omega)]; exact ⟨rfl, rfl, rfl⟩, r3, r4, r5, r0⟩
      have run := ed_run (H := H) (n := n) (Sc := A u) (pc := (P : Int)) (by omega)
      obtain ⟨z1, z2, z3, z4, z5, z6, z7, z8, z9⟩ := ed_g (H := H) (n := n) (Sc := A u) (pc := (P : Int))
      let ow1 : Nat → Nat × Nat := fun q => if q ≤ znx H then ow q else (n + 1, q - znx H - 1)
      have IC : IV X (ed7 H n (A u) (P : Int)) s A B K ow1 := I.sep (n := n) (by omega) (by omega) ed_st (fun q i w1 _ => ed_old w1) (fun q w => if_pos w)
      have eh : EHp X H (ed7 H n (A u) (P : Int)) ow ow1 n (znx H) (A u) (P : Int) (8 * 0) := by
        refine ⟨ed_st, ⟨Nat.le_refl _, Nat.le_refl _⟩, ?_, fun q hq j => ed_old (by omega), ⟨z1, z2, z3, z4, z5, z6, z7, z8, z9⟩, ed_a, fun j hj => ?_, fun i hi => ?_, fun q hq => if_pos hq⟩
        · show zus H + 12 + 80 + 21 + 21 + n ≤ _
          omega
        · unfold ed7
          rw [zct_fil, if_pos ⟨rfl, by omega, hj⟩]
        · show (if znx H + 1 + i ≤ znx H then _ else _) = _
          rw [if_neg (by omega)]
          congr 1
          omega
      have eb : EB X (ed7 H n (A u) (P : Int)) (adS s n 4 (u : Int) (P : Int) 0) ow1 (fun _ => 0) n (znx H) := fun j hj => by
        have e29 : adS s n 4 (u : Int) (P : Int) 0 29 (80 * n + j) = -1 := by
          rw [adS_o (by omega) (by omega) (by omega) (by omega) (by omega)]
          exact Sst j hj
        rw [e29]
        exact ⟨ed_b, fun w => absurd w (by omega), by omega, fun i hi => absurd hi (by omega)⟩
      obtain ⟨H2, sB, ow2, Bn2, j1, j2, j3, j4, j5, j6⟩ := edition_l (H0 := H) (ow0 := ow) (Sc := A u) (sc := (u : Int)) (P := P) en (by omega) hX eP P zFU zFU 0 _ _ ow1 (fun _ => 0) rfl (by rw [zFU_e]; omega) (by rw [zFU_e]; omega) (by omega) IC eh eb er
      have kd := IV.newedition I j3 en (by omega) (by omega) v3 (by omega) j4 j5 j6
      have F2 := j3.1
      obtain ⟨h1, ⟨h2, h2'⟩, h3, h4, ⟨y1, -⟩, ⟨c0, c1, -⟩, -⟩ := j4
      have kp : fH_keep X (znx H + 1) (zwr H2 X 7 0) = some ((n : Int), kpH X (zwr H2 X 7 0) (znx H + 1) n) := by
        refine e_keep (ft0 j3.empty.1) ?_ ?_ (ft2 j3.empty.1) (fl2 j3.empty.1) (by omega) (by omega) ?_ ?_
        · rw [zct_wr, if_neg (by omega), h4 _ (by omega), q1, en]
        · rw [zct_wr, if_neg (by omega), h4 _ (by omega)]; exact fp0_3 F
        · show zisA 20 (ztg H2 (znx H + 1)) = true
          rw [y1]; rfl
        · rw [zct_wr, if_neg (by omega)]; exact c1
      have h5' : ((n : Nat) : Int) < 60 := by omega
      have j1' : ∀ Q, fH_edition_l4 zFU X (znx H + 1) 0 (ed7 H n (A u) (P : Int)) Q = Q X (znx H + 1) H2 := j1
      have j2' : ∀ Q, gM_edition_l3 zFU (n : Int) 0 (adS s n 4 (u : Int) (P : Int) 0) Q = Q (n : Int) sB := j2
      simp only [en, h5', if_true, show ¬ ((n : Nat) : Int) = 60 by omega, if_false, Nat.reduceAdd, ztg_n (show X ≤ znx H by omega), zct_n (show X ≤ znx H by omega), ztg_n (show X + 3 ≤ znx H by omega), zct_n (show X + 3 ≤ znx H by omega), zln_n' (show X + 3 ≤ znx H by omega), ft0 F, zA10, q1, g7, eP, fp0_6 F, ft3 F, fl3 F, g11, true_and, Int.toNat_natCast, Nat.reduceLeDiff, and_self, c12, show (0 : Int).toNat = 0 from rfl, ztg_n (show A t ≤ znx H by omega), zct_n (show A t ≤ znx H by omega), a0, zA6, a3, ztg_n (show A (s 4 t).toNat ≤ znx H by omega), zct_n (show A (s 4 t).toNat ≤ znx H by omega), pa0, zA5, pa3, show 0 < znx H + 1 by omega, run, wX_s, j1', j2', wX_s, wX_bd, wX_vl, wX_jn, wX_ite, wX_dv, wX_n0, wX_rb, wX_rc, wX_ry, wX_gi, wX_gr, wX_pi, wX_pz, wX_pr, wX_ai, wX_ab, wX_ar, wX_si, wX_sz, wX_sb, wX_sr, wX_ln, wX_nw, wX_na, wX_nm, wX_io, wX_ck, wX_cp, wX_cl, wX_ca, wX_sv, wX_sc, wX_rd, wX_wi, wX_wz, wX_wb, ft0 F2, ztg_wr, kp, et, sc, ma]
      (first | exact (kd) | exact ⟨trivial, (kd)⟩ | exact ⟨rfl, (kd)⟩ | (refine ⟨by omega, ?_⟩; exact (kd)))
    · simp only [h5, if_false, show s 0 2 = 60 by omega, if_true]
      (first | exact KD.rf I | exact ⟨trivial, KD.rf I⟩ | exact ⟨rfl, KD.rf I⟩)
end EDITION4
