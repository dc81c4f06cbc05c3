/-! A NOTE on a plate mended -/
section MEND
variable {X : Nat} {H : zHp} {s : zSg} {A : Nat → Nat} {B : Nat → Nat → Nat} {K : Nat → Nat} {ow : Nat → Nat × Nat} {t : Nat}
theorem SI.s20 (si : SI s) (ht : (t : Int) < s 0 2) {j : Nat} (hj : j < 64) {v : Int} (hv : 1 ≤ v ∧ v ≤ 72) : SI (zup s 20 (64 * t + j) v) := by
  obtain ⟨k1, k2, k3, k4⟩ := si
  have e20 : ∀ i, zup s 20 (64 * t + j) v 20 i = if i = 64 * t + j then v else s 20 i := fun i => by simp [zup]
  have eo : ∀ k, k ≠ 20 → zup s 20 (64 * t + j) v k = s k := fun k h1 => funext fun i => by simp [zup, h1]
  generalize zup s 20 (64 * t + j) v = s' at *
  unfold SI
  rw [eo 0 (by omega), eo 3 (by omega), eo 29 (by omega), eo 14 (by omega), eo 25 (by omega)]
  refine ⟨fun u hu => ?_, fun u h1 h2 => ?_, k3, k4⟩
  · obtain ⟨q0, q1, q2, q3, q4, q5⟩ := k1 u hu
    unfold SIt SIs SIp SIl SIe SIr BI
    rw [eo 0 (by omega), eo 3 (by omega), eo 4 (by omega), eo 5 (by omega), eo 6 (by omega), eo 7 (by omega), eo 10 (by omega), eo 11 (by omega), eo 12 (by omega), eo 13 (by omega), eo 14 (by omega), eo 75 (by omega), eo 21 (by omega), eo 22 (by omega), eo 23 (by omega), eo 26 (by omega), eo 27 (by omega), eo 28 (by omega), eo 29 (by omega), eo 30 (by omega), eo 31 (by omega), eo 32 (by omega), eo 64 (by omega)]
    refine ⟨q0, q1, q2, fun w => ?_, q4, q5⟩
    obtain ⟨p1, p2, p3, p4, p5, p6, p7, p8⟩ := q3 w
    refine ⟨p1, p2, p3, p4, p5, p6, fun k hk => ?_, p8⟩
    obtain ⟨c1, c2⟩ := p7 k hk
    refine ⟨c1, fun i hi => ?_⟩
    obtain ⟨d1, d2⟩ := c2 i hi
    refine ⟨?_, d2⟩
    rw [e20]
    split
    · exact Or.inr (by omega)
    · exact d1
  · unfold SIn
    rw [eo 14 (by omega), eo 64 (by omega), eo 29 (by omega), eo 75 (by omega)]
    exact k2 u h1 h2
theorem IV.s20 (I : IV X H s A B K ow) (ht : (t : Int) < s 0 2) (hk : s 3 t = 3) {N m : Nat} (hN : (N : Int) < s 6 t) (hm : (m : Int) < s 23 (8 * t + N)) {p : Int} (hp : 1 ≤ p ∧ p ≤ 72) :
    IV X (zwr H (B t N + 1) m (ncode p (s 21 (64 * t + 8 * N + m)) (s 22 (64 * t + 8 * N + m)))) (zup s 20 (64 * t + 8 * N + m) p) A B K ow := by
  have hn := I.n
  have sl := (I.st ht).2.2.2.1 hk
  have n8 := sl.2.2.2.1.2
  have m8 := (sl.2.2.2.2.2.2.1 N hN).1.2
  have si := I.2.2.2.2.1.s20 ht (j := 8 * N + m) (by omega) hp
  rw [← Nat.add_assoc] at si
  have to := (I.to ht).2.2.1 hk
  have e20 : ∀ i, zup s 20 (64 * t + 8 * N + m) p 20 i = if i = 64 * t + 8 * N + m then p else s 20 i := fun i => by simp [zup]
  have eo : ∀ k, k ≠ 20 → zup s 20 (64 * t + 8 * N + m) p k = s k := fun k h1 => funext fun i => by simp [zup, h1]
  have h1 : zst H (zwr H (B t N + 1) m (ncode p (s 21 (64 * t + 8 * N + m)) (s 22 (64 * t + 8 * N + m)))) := zst.rf.wr _ _ _
  have hx : ∀ a k, a ≠ B t N + 1 → zct (zwr H (B t N + 1) m (ncode p (s 21 (64 * t + 8 * N + m)) (s 22 (64 * t + 8 * N + m)))) a k = zct H a k := fun a k h => by rw [zct_wr, if_neg (fun w => h w.1)]
  have hr : ∀ k, zct (zwr H (B t N + 1) m (ncode p (s 21 (64 * t + 8 * N + m)) (s 22 (64 * t + 8 * N + m)))) (B t N + 1) k = if k = m then ncode p (s 21 (64 * t + 8 * N + m)) (s 22 (64 * t + 8 * N + m)) else zct H (B t N + 1) k := fun k => by
    rw [zct_wr]
    by_cases e : k = m
    · rw [if_pos ⟨rfl, e⟩, if_pos e]
    · rw [if_neg (fun w => e w.2), if_neg e]
  generalize zup s 20 (64 * t + 8 * N + m) p = s' at *
  generalize zwr H (B t N + 1) m (ncode p (s 21 (64 * t + 8 * N + m)) (s 22 (64 * t + 8 * N + m))) = H' at *
  obtain ⟨⟨m0, m1, m2⟩, ⟨a0, a1, a2, a3, a4, a5, a6⟩, l, mk, tb⟩ := to
  obtain ⟨-, bo, -⟩ := tb N hN
  obtain ⟨n0, n1, -⟩ := id bo
  refine I.ch (gs := []) (t := t) h1 ?_ ?_ ?_ (fun u hu _ => ?_) (by rw [eo 0 (by omega)]) (eo 3 (by omega)) (eo 4 (by omega)) (eo 26 (by omega)) (eo 27 (by omega)) (eo 28 (by omega)) (eo 29 (by omega)) (fun _ _ _ => rfl) (fun _ _ => rfl) ?_ ?_ si rfl rfl rfl rfl rfl rfl rfl rfl rfl rfl (Or.inl rfl) (by omega)
  · intro o k ho _
    have := n0.1
    exact hx _ _ (by omega)
  · refine zfd.of fun a k ha hp => hx a k (fun e => hp ?_)
    rw [e]; exact ⟨n1.1, by rw [n1.2.2]⟩
  · intro k j hkj
    have : k ≠ 20 := by
      rintro rfl; cases (show true = false from hkj)
    rw [eo k this]
  · refine ⟨fun k hk => by rw [eo k (by omega)], fun v hv => ⟨by rw [eo 14 (by omega)], by rw [eo 75 (by omega)]⟩, fun j hj => by rw [eo 23 (by omega)], fun k hk j hj => ?_, fun k hk j hj => by rw [eo k (by omega)], fun k hk j hj => by rw [eo k (by omega)]⟩
    rcases hk with rfl | rfl | rfl
    · rw [e20, if_neg (by omega)]
    · rw [eo 21 (by omega)]
    · rw [eo 22 (by omega)]
  · have k3 : s' 3 t = s 3 t := by rw [eo 3 (by omega)]
    refine ⟨fun w => ?_, fun w => ?_, fun w => ?_, fun w => ?_, fun w => ?_⟩
    · rw [k3] at w; omega
    · rw [k3] at w; omega
    · unfold TOl
      rw [eo 3 (by omega), eo 4 (by omega), eo 5 (by omega), eo 6 (by omega), eo 75 (by omega), eo 21 (by omega), eo 22 (by omega), eo 23 (by omega)]
      have hA : ∀ k, zct H' (A t) k = zct H (A t) k := fun k => hx _ _ (m0.ne n1 (Or.inl (by omega)))
      have hA1 : ∀ k, zct H' (A t + 1) k = zct H (A t + 1) k := fun k => hx _ _ (m1.ne n1 (Or.inl (by omega)))
      have hA2 : ∀ k, zct H' (A t + 2) k = zct H (A t + 2) k := fun k => hx _ _ (m2.ne n1 (Or.inl (by omega)))
      simp only [hA, hA1, hA2, (h1.2.2 _ m0.2.1).1, (h1.2.2 _ m1.2.1).1, (h1.2.2 _ m1.2.1).2, (h1.2.2 _ m2.2.1).1, (h1.2.2 _ m2.2.1).2]
      refine ⟨⟨m0.fr h1 (fun _ _ => rfl), m1.fr h1 (fun _ _ => rfl), m2.fr h1 (fun _ _ => rfl)⟩, ⟨a0, a1, a2, a3, a4, a5, a6⟩, l, mk, fun k hk2 => ?_⟩
      obtain ⟨d1, d2, d3⟩ := tb k hk2
      have x0 := d2.1
      have x1 := d2.2.1
      have g0 : ∀ j, zct H' (B t k) j = zct H (B t k) j := fun j => hx _ _ (x0.ne n1 (Or.inl (by omega)))
      refine ⟨d1, d2.fc h1 (g0 0) (fun _ _ => rfl), ?_⟩
      by_cases hne : k = N
      · subst hne
        obtain ⟨y1, y2, y3, y4⟩ := d3
        refine ⟨by rw [g0]; exact y1, by rw [g0]; exact y2, y3, fun i hi => ?_⟩
        rw [hr]
        simp only [sh]
        rw [e20]
        by_cases ei : i = m
        · rw [if_pos ei, if_pos (by omega), ei]
        · rw [if_neg ei, if_neg (by omega)]
          exact y4 i hi
      · have g1 : ∀ j, zct H' (B t k + 1) j = zct H (B t k + 1) j := fun j => hx _ _ (x1.ne n1 (Or.inl (by omega)))
        refine d3.fc g0 g1 rfl (fun i hi => ?_) (fun _ _ => rfl) (fun _ _ => rfl)
        simp only [sh]
        rw [e20, if_neg (by omega)]
    · rw [k3] at w; omega
    · rw [k3] at w; omega
  · intro w
    rw [eo 3 (by omega)] at w
    omega
theorem e_cutBar (I : IV X H s A B K ow) (ht : (t : Int) < s 0 2) (hk : s 3 t = 3) {b : Int} (hb : zR32 b) : fPlate_cutBar (A t) b H = some (if s 5 t ≤ b ∧ b ≤ s 5 t + s 6 t - 1 then B t (b - s 5 t).toNat else 0, H) := by
  obtain ⟨p0, p1, p2, p3, p4, p5, p6, p7⟩ := I.plate ht hk
  obtain ⟨-, ⟨a0, a1, a2, a3, a4, a5, a6⟩, ⟨l1, l2, l3, l4⟩, -, tb⟩ := (I.to ht).2.2.1 hk
  have h1 := hb.1
  have h2 := hb.2
  obtain ⟨N, eN⟩ : ∃ N : Nat, s 6 t = (N : Int) := ⟨(s 6 t).toNat, by omega⟩
  rw [eN, Int.toNat_natCast] at l4
  unfold fPlate_cutBar
  simp only [ygi, ygr, yln, yar, a0, zA6, if_true, a4, a5, Int.toNat_natCast, l3, l4, Nat.reduceLeDiff, and_self, true_and]
  by_cases g : b < s 5 t
  · rw [if_pos g, if_neg (by omega)]
  · have e : zsub b (s 5 t) = b - s 5 t := zsub_e (by omega) (by omega)
    rw [if_neg g, e]
    by_cases g2 : b - s 5 t < (N : Int)
    · obtain ⟨c1, -⟩ := tb (b - s 5 t).toNat (by omega)
      rw [if_pos g2, if_pos (by omega), if_pos (by omega), c1, Int.toNat_natCast]
    · rw [if_neg g2, if_neg (by omega)]
set_option maxRecDepth 100000 in
theorem k_mend (I : IV X H s A B K ow) {t b i p : Int} (hb : zR32 b) : wX (fH_mend X t b i p H) fun x H' => wX (gM_mend t b i p s) fun w s' => w = x ∧ KD X H H' s' := by
  have F := I.1
  have hn := I.n
  unfold fH_mend gM_mend fH_repitched
  simp only [wX_s, wX_bd, wX_vl, wX_jn, wX_ite, wX_dv, wX_n0, wX_rb, wX_rc, wX_ry, wX_gi, wX_gr, wX_pi, wX_pz, wX_pr, wX_ai, wX_ab, wX_ar, wX_si, wX_sz, wX_sb, wX_sr, wX_ln, wX_nw, wX_na, wX_nm, wX_io, wX_ck, wX_cp, wX_cl, wX_ca, wX_sv, wX_sc, wX_rd, wX_wi, wX_wz, wX_wb, e_plateAt I, e_lacking I, mi_isThing I, e_in, e_within, i01, ft0 F, zA10, true_and]
  by_cases h : 0 ≤ t ∧ t ≤ s 0 2 - 1
  · have ht : ((t.toNat : Nat) : Int) < s 0 2 := by omega
    have et : ((t.toNat : Nat) : Int) = t := by omega
    have hp := I.pos ht
    have hb0 : 0 ≤ t ∧ t < ((60 : Nat) : Int) := by omega
    simp only [h, and_self, true_and, if_true, not_true, if_false, hb0]
    by_cases hk : s 3 t.toNat = 3
    · obtain ⟨p0, p1, p2, p3, p4, p5, p6, p7⟩ := I.plate ht hk
      obtain ⟨m, ⟨a0, a1, a2, a3, a4, a5, a6⟩, ⟨l1, l2, l3, l4⟩, mk, tb⟩ := (I.to ht).2.2.1 hk
      have sl := (I.st ht).2.2.2.1 hk
      have e1 : zsub (zadd (s 5 t.toNat) (s 6 t.toNat)) 1 = s 5 t.toNat + s 6 t.toNat - 1 := by rw [zadd_e (by omega) (by omega), zsub_e (by omega) (by omega)]
      simp only [hk, if_true, if_false, show ¬ A t.toNat = 0 by omega, a0, zA6, true_and, e_cutBar I ht hk hb, wX_s, e1]
      by_cases h2 : s 5 t.toNat ≤ b ∧ b ≤ s 5 t.toNat + s 6 t.toNat - 1
      · have hk2 : (((b - s 5 t.toNat).toNat : Nat) : Int) < s 6 t.toNat := by omega
        obtain ⟨-, bo, bv⟩ := tb _ hk2
        obtain ⟨n0, n1, t1, t2, t3, t4⟩ := id bo
        obtain ⟨v1, v2, v3, v4⟩ := bv
        obtain ⟨z1, z2⟩ := sl.2.2.2.2.2.2.1 _ hk2
        have e2 : zsub b (s 5 t.toNat) = (((b - s 5 t.toNat).toNat : Nat) : Int) := by rw [zsub_e (by omega) (by omega)]; omega
        have I20 := fun m hm => I.s20 ht hk (N := (b - s 5 t.toNat).toNat) (m := m) (p := p) hk2 hm
        generalize (b - s 5 t.toNat).toNat = k at *
        have e3 : zadd (zmul 8 t) ((k : Nat) : Int) = ((8 * t.toNat + k : Nat) : Int) := by rw [zmul_e (by omega) (by omega), zadd_e (by omega) (by omega)]; omega
        have hb3 : 0 ≤ ((8 * t.toNat + k : Nat) : Int) ∧ ((8 * t.toNat + k : Nat) : Int) < ((480 : Nat) : Int) := by omega
        have e4 : zsub (s 23 (8 * t.toNat + k)) 1 = s 23 (8 * t.toNat + k) - 1 := zsub_e (by omega) (by omega)
        have hz : ¬ B t.toNat k = 0 := by have := n0.1; omega
        simp only [h2, and_self, not_true, if_true, if_false, hz, t1, zA0, true_and, e_hasNote t1 v1 z1.2, wX_s, i01, e2, e3, hb3, Int.toNat_natCast, e4]
        by_cases h6 : 0 ≤ i ∧ i < s 23 (8 * t.toNat + k)
        · have h7 : 0 ≤ i ∧ i ≤ s 23 (8 * t.toNat + k) - 1 := by omega
          obtain ⟨nr1, nr2, nr3, nr4⟩ := z2 i.toNat (by omega)
          have e7 : zadd (zadd (zmul 64 t) (zmul 8 ((k : Nat) : Int))) i = ((64 * t.toNat + 8 * k + i.toNat : Nat) : Int) := by rw [zmul_e (by omega) (by omega), zmul_e (by omega) (by omega), zadd_e (x := 64 * t) (by omega) (by omega), zadd_e (by omega) (by omega)]; omega
          have hj : 0 ≤ ((64 * t.toNat + 8 * k + i.toNat : Nat) : Int) ∧ ((64 * t.toNat + 8 * k + i.toNat : Nat) : Int) < ((3840 : Nat) : Int) := by omega
          have e8 : zct H (B t.toNat k + 1) i.toNat = ncode (s 20 (64 * t.toNat + 8 * k + i.toNat)) (s 21 (64 * t.toNat + 8 * k + i.toNat)) (s 22 (64 * t.toNat + 8 * k + i.toNat)) := v4 i.toNat (by omega)
          have hi8 : 0 ≤ i ∧ i < ((8 : Nat) : Int) := by omega
          have I20 := I20 i.toNat (by omega)
          generalize hq : 64 * t.toNat + 8 * k + i.toNat = q at *
          have hnp : s 20 q = -1000 ∨ (-99 ≤ s 20 q ∧ s 20 q ≤ 1000) := by omega
          simp only [h6, h7, and_self, not_true, if_true, if_false, e7, hj, Int.toNat_natCast, true_and, t2, t3, t4, hi8, e8, e_isRest ⟨nr2, nr3⟩ nr4 hnp, e_pitchOf ⟨nr2, nr3⟩ nr4 hnp, wX_s, i01]
          by_cases h8 : 1 ≤ p ∧ p ≤ 72
          · simp only [h8, and_self, not_true, if_true, if_false]
            by_cases h9 : s 20 q = -1000
            · simp only [h9, if_true, if_false, not_true, t1, t3, t4, zA0, true_or, true_and]
              (first | exact (KD.rf I) | exact ⟨trivial, (KD.rf I)⟩ | exact ⟨rfl, (KD.rf I)⟩ | (refine ⟨by omega, ?_⟩; exact (KD.rf I)))
            · have iv := I20 h8
              have hq3 : -99 ≤ p ∧ p ≤ 1000 := by omega
              simp only [h9, if_true, if_false, not_false_iff, e_withPitch ⟨nr2, nr3⟩ nr4 hnp hq3, wX_s, true_and, t1, t3, t4, zA0, true_or, hi8, and_self]
              (first | exact (⟨zst.rf.wr _ _ _, by show znx H ≤ znx H + 300; omega, by show zus H ≤ zus H + 4000; omega, fun a _ ha k => by rw [zct_wr, if_neg (by have := n0.1; omega)], _, _, _, _, iv⟩) | exact ⟨trivial, (⟨zst.rf.wr _ _ _, by show znx H ≤ znx H + 300; omega, by show zus H ≤ zus H + 4000; omega, fun a _ ha k => by rw [zct_wr, if_neg (by have := n0.1; omega)], _, _, _, _, iv⟩)⟩ | exact ⟨rfl, (⟨zst.rf.wr _ _ _, by show znx H ≤ znx H + 300; omega, by show zus H ≤ zus H + 4000; omega, fun a _ ha k => by rw [zct_wr, if_neg (by have := n0.1; omega)], _, _, _, _, iv⟩)⟩ | (refine ⟨by omega, ?_⟩; exact (⟨zst.rf.wr _ _ _, by show znx H ≤ znx H + 300; omega, by show zus H ≤ zus H + 4000; omega, fun a _ ha k => by rw [zct_wr, if_neg (by have := n0.1; omega)], _, _, _, _, iv⟩)))
          · simp only [h8, if_true, not_false_iff]
            (first | exact (KD.rf I) | exact ⟨trivial, (KD.rf I)⟩ | exact ⟨rfl, (KD.rf I)⟩ | (refine ⟨by omega, ?_⟩; exact (KD.rf I)))
        · have h7 : ¬ (0 ≤ i ∧ i ≤ s 23 (8 * t.toNat + k) - 1) := by omega
          simp only [h6, h7, if_true, not_false_iff, if_false]
          (first | exact (KD.rf I) | exact ⟨trivial, (KD.rf I)⟩ | exact ⟨rfl, (KD.rf I)⟩ | (refine ⟨by omega, ?_⟩; exact (KD.rf I)))
      · simp only [h2, if_true, not_false_iff, if_false]
        (first | exact (KD.rf I) | exact ⟨trivial, (KD.rf I)⟩ | exact ⟨rfl, (KD.rf I)⟩ | (refine ⟨by omega, ?_⟩; exact (KD.rf I)))
    · simp only [hk, if_false, if_true]
      (first | exact KD.rf I | exact ⟨trivial, KD.rf I⟩ | exact ⟨rfl, KD.rf I⟩)
  · simp only [h, false_and, if_false, if_true, not_false_iff]
    (first | exact KD.rf I | exact ⟨trivial, KD.rf I⟩ | exact ⟨rfl, KD.rf I⟩)
end MEND
