/-! A PITCH altered -/
section ALTER
variable {X : Nat} {H H' : zHp} {s : zSg} {A : Nat → Nat} {B : Nat → Nat → Nat} {K : Nat → Nat} {ow : Nat → Nat × Nat} {t v : Nat}
theorem IV.pitch (I : IV X H s A B K ow) (ht : (t : Int) < s 0 2) (hk : s 3 t = 1 ∨ s 3 t = 6) (hv : (v : Int) ≤ s 6 t - 1) {N m : Nat} (hN : (N : Int) < s 14 (4 * t + v)) (hm : (m : Int) < s 13 (80 * t + 20 * v + N)) {p : Int} (hp : 1 ≤ p ∧ p ≤ 60) :
    IV X (zwr H (B t (20 * v + N) + 1) m (ncode p (s 11 (8 * (80 * t + 20 * v + N) + m)) (s 12 (8 * (80 * t + 20 * v + N) + m)))) (zup s 10 (8 * (80 * t + 20 * v + N) + m) p) A B K ow := by
  have hn60 := I.n
  have hto := (I.to ht).1 hk
  have hs := (I.st ht).2.1 hk
  have hs6 := hs.2.1
  have hv4 : v < 4 := by omega
  have hN20 := ((hs.2.2.2.2.2 v hv4).1).2
  have hbi := ((hs.2.2.2.2.2 v hv4).2.2 N hN).1
  have hm8 := hbi.1.2
  obtain ⟨⟨m0, m1, m2⟩, q, r, w, bb⟩ := id hto
  obtain ⟨do_, dv_, di_⟩ := I.bar (b := N) ht hk hv4 hN
  have e10 : ∀ j, zup s 10 (8 * (80 * t + 20 * v + N) + m) p 10 j = if j = 8 * (80 * t + 20 * v + N) + m then p else s 10 j := fun j => by simp [zup]
  have eo : ∀ k, k ≠ 10 → zup s 10 (8 * (80 * t + 20 * v + N) + m) p k = s k := fun k h1 => funext fun j => by simp [zup, h1]
  have hx : ∀ a k, a ≠ B t (20 * v + N) + 1 → zct (zwr H (B t (20 * v + N) + 1) m (ncode p (s 11 (8 * (80 * t + 20 * v + N) + m)) (s 12 (8 * (80 * t + 20 * v + N) + m)))) a k = zct H a k := fun a k h => by rw [zct_wr, if_neg (fun w => h w.1)]
  have hr : ∀ k, zct (zwr H (B t (20 * v + N) + 1) m (ncode p (s 11 (8 * (80 * t + 20 * v + N) + m)) (s 12 (8 * (80 * t + 20 * v + N) + m)))) (B t (20 * v + N) + 1) k = if k = m then ncode p (s 11 (8 * (80 * t + 20 * v + N) + m)) (s 12 (8 * (80 * t + 20 * v + N) + m)) else zct H (B t (20 * v + N) + 1) k := fun k => by
    rw [zct_wr]
    by_cases e : k = m
    · rw [if_pos ⟨rfl, e⟩, if_pos e]
    · rw [if_neg (fun w => e w.2), if_neg e]
  have h1 : zst H (zwr H (B t (20 * v + N) + 1) m (ncode p (s 11 (8 * (80 * t + 20 * v + N) + m)) (s 12 (8 * (80 * t + 20 * v + N) + m)))) := zst.rf.wr _ _ _
  generalize zwr H (B t (20 * v + N) + 1) m (ncode p (s 11 (8 * (80 * t + 20 * v + N) + m)) (s 12 (8 * (80 * t + 20 * v + N) + m))) = H' at *
  generalize zup s 10 (8 * (80 * t + 20 * v + N) + m) p = s' at *
  have far : ∀ v' b : Nat, b < 20 → v' < 4 → ¬ (v' = v ∧ b = N) → s' 13 (80 * t + 20 * v' + b) = s 13 (80 * t + 20 * v' + b) ∧ ∀ i, i < 8 → s' 10 (8 * (80 * t + 20 * v' + b) + i) = s 10 (8 * (80 * t + 20 * v' + b) + i) ∧ s' 11 (8 * (80 * t + 20 * v' + b) + i) = s 11 (8 * (80 * t + 20 * v' + b) + i) ∧ s' 12 (8 * (80 * t + 20 * v' + b) + i) = s 12 (8 * (80 * t + 20 * v' + b) + i) := fun v' b hb hv' hne => by
    refine ⟨by rw [eo 13 (by omega)], fun i hi => ?_⟩
    rw [e10, eo 11 (by omega), eo 12 (by omega), if_neg (by omega)]
    exact ⟨rfl, rfl, rfl⟩
  have sch : SCh s s' t := by
    refine ⟨fun k h1 h2 h3 h4 h5 => eo k h1, fun j hj => by rw [eo 13 (by omega)], fun j hj => ?_, fun j hj => by rw [eo 14 (by omega)], fun v' hv' b hb he => ?_⟩
    · rw [e10, eo 11 (by omega), eo 12 (by omega), if_neg (by omega)]
      exact ⟨rfl, rfl, rfl⟩
    · rw [eo 14 (by omega), eo 11 (by omega), eo 13 (by omega)]
      exact ⟨hb, he⟩
  have new : SIs s' t := by
    obtain ⟨r1, r2, r3, r4, r5, r6⟩ := hs
    unfold SIs
    rw [eo 0 (by omega), eo 3 (by omega), eo 4 (by omega), eo 5 (by omega), eo 6 (by omega), eo 7 (by omega), eo 14 (by omega), eo 11 (by omega), eo 13 (by omega)]
    refine ⟨r1, r2, r3, r4, r5, fun v' hv' => ?_⟩
    obtain ⟨p1, p2, p3⟩ := r6 v' hv'
    refine ⟨p1, p2, fun b hb => ?_⟩
    obtain ⟨⟨c1, c2, c3, c4⟩, c5⟩ := p3 b hb
    refine ⟨?_, c5⟩
    unfold BI
    rw [eo 11 (by omega), eo 13 (by omega), eo 12 (by omega)]
    refine ⟨c1, fun i hi => ?_, c3, c4⟩
    obtain ⟨d1, d2⟩ := c2 i hi
    refine ⟨?_, d2⟩
    rw [e10]
    split
    · exact Or.inr hp
    · exact d1
  obtain ⟨n0, n1, -⟩ := id do_
  refine I.ch (gs := []) (t := t) h1 ?_ ?_ ?_ (fun u hu _ => sch.zts hu) ?_ (eo 3 (by omega)) (eo 4 (by omega)) (eo 26 (by omega)) (eo 27 (by omega)) (eo 28 (by omega)) (eo 29 (by omega)) (fun _ _ _ => rfl) (fun _ _ => rfl) ?_ ?_ (I.2.2.2.2.1.sc ht hn60.2 hk sch new) rfl rfl rfl rfl rfl rfl rfl rfl rfl rfl (Or.inl rfl) (by omega)
  · intro o k ho _
    have := n0.1
    exact hx _ _ (by omega)
  · refine zfd.of fun a k ha hp => hx a k (fun e => hp ?_)
    rw [e]; exact ⟨n1.1, by rw [n1.2.2]⟩
  · intro k j hkj
    have : k ≠ 10 := by
      rintro rfl; cases (show true = false from hkj)
    rw [eo k this]
  · rw [eo 0 (by omega)]
  · have k3 : s' 3 t = s 3 t := by rw [eo 3 (by omega)]
    refine ⟨fun _ => ?_, fun w => ?_, fun w => ?_, fun w => ?_, fun w => ?_⟩
    · unfold TOs
      rw [eo 3 (by omega), eo 4 (by omega), eo 5 (by omega), eo 6 (by omega), eo 7 (by omega), eo 14 (by omega)]
      have hA : ∀ k, zct H' (A t) k = zct H (A t) k := fun k => hx _ _ (m0.ne n1 (Or.inl (by omega)))
      have hA1 : ∀ k, zct H' (A t + 1) k = zct H (A t + 1) k := fun k => hx _ _ (m1.ne n1 (Or.inl (by omega)))
      have hA2 : ∀ k, zct H' (A t + 2) k = zct H (A t + 2) k := fun k => hx _ _ (m2.ne n1 (Or.inl (by omega)))
      simp only [hA, hA1, hA2, (h1.2.2 _ m0.2.1).1, (h1.2.2 _ m1.2.1).1, (h1.2.2 _ m1.2.1).2, (h1.2.2 _ m2.2.1).1, (h1.2.2 _ m2.2.1).2]
      refine ⟨⟨m0.fr h1 (fun _ _ => rfl), m1.fr h1 (fun _ _ => rfl), m2.fr h1 (fun _ _ => rfl)⟩, q, r, w, fun v' hv' => ?_⟩
      obtain ⟨c1, c2⟩ := bb v' hv'
      refine ⟨c1, fun b hb => ?_⟩
      have hb20 := ((hs.2.2.2.2.2 v' hv').1).2
      obtain ⟨d1, d2, d3⟩ := c2 b hb
      have x0 := d2.1
      have x1 := d2.2.1
      have g0 : ∀ k, zct H' (B t (20 * v' + b)) k = zct H (B t (20 * v' + b)) k := fun k => hx _ _ (x0.ne n1 (Or.inl (by omega)))
      refine ⟨d1, d2.fc h1 (g0 0) (fun _ _ => rfl), ?_⟩
      by_cases hne : v' = v ∧ b = N
      · obtain ⟨rfl, rfl⟩ := hne
        rw [eo 13 (by omega), eo 11 (by omega), eo 12 (by omega)]
        obtain ⟨y1, y2, y3, y4⟩ := d3
        refine ⟨by rw [g0]; exact y1, by rw [g0]; exact y2, y3, fun i hi => ?_⟩
        rw [hr]
        simp only [sh]
        rw [e10]
        by_cases ei : i = m
        · rw [if_pos ei, if_pos (by omega), ei]
        · rw [if_neg ei, if_neg (by omega)]
          exact y4 i hi
      · obtain ⟨f1, f2⟩ := far v' b (by omega) hv' hne
        have g1 : ∀ k, zct H' (B t (20 * v' + b) + 1) k = zct H (B t (20 * v' + b) + 1) k := fun k => hx _ _ (x1.ne n1 (Or.inl (by omega)))
        exact d3.fc g0 g1 f1 (fun i hi => (f2 i hi).1) (fun i hi => (f2 i hi).2.1) (fun i hi => (f2 i hi).2.2)
    · rw [k3] at w; omega
    · rw [k3] at w; omega
    · rw [k3] at w; omega
    · rw [k3] at w; omega
  · intro w
    rw [eo 3 (by omega)] at w
    omega
theorem e_isRest {p l t : Int} (hl : 1 ≤ l ∧ l ≤ 12) (ht : t = 0 ∨ t = 1) (hp : p = -1000 ∨ (-99 ≤ p ∧ p ≤ 1000)) {H : zHp} : fH_isRest (ncode p l t) H = some (if p = -1000 then 1 else 0, H) := by
  unfold fH_isRest ncode
  by_cases h : p = -1000
  · rw [if_pos h, if_pos h, if_pos (by omega)]
  · rw [if_neg h, if_neg h, if_neg (by omega)]
theorem e_pitchOf {p l t : Int} (hl : 1 ≤ l ∧ l ≤ 12) (ht : t = 0 ∨ t = 1) (hp : p = -1000 ∨ (-99 ≤ p ∧ p ≤ 1000)) {H : zHp} : fH_pitchOf (ncode p l t) H = some (if p = -1000 then 0 else p, H) := by
  unfold fH_pitchOf
  rw [e_isRest hl ht hp, ybd_s]
  by_cases h : p = -1000
  · rw [if_pos h, if_neg (by omega), if_pos h]
  · rw [if_neg h, if_pos rfl, if_neg h]
    unfold ncode
    rw [if_neg h, zdiv_e ⟨by omega, by omega⟩ (by omega) (by omega) (by omega), show (1000 * (p + 100) + 2 * l + t) / 1000 = p + 100 by omega, zsub_e (by omega) (by omega), show p + 100 - 100 = p by omega]
theorem e_withPitch {p l t q : Int} (hl : 1 ≤ l ∧ l ≤ 12) (ht : t = 0 ∨ t = 1) (hp : p = -1000 ∨ (-99 ≤ p ∧ p ≤ 1000)) (hq : -99 ≤ q ∧ q ≤ 1000) {H : zHp} : fH_withPitch (ncode p l t) q H = some (ncode q l t, H) := by
  unfold fH_withPitch
  have hc : 0 ≤ ncode p l t ∧ ncode p l t < 1200000 ∧ ncode p l t % 1000 = 2 * l + t := by
    unfold ncode
    split <;> omega
  rw [zrem_e ⟨by omega, by omega⟩ hc.1 (by omega) (by omega), hc.2.2, zadd_e (x := q) (by omega) (by omega), zmul_e (by omega) (by omega), zadd_e (by omega) (by omega)]
  unfold ncode
  rw [if_neg (by omega), show 1000 * (q + 100) + (2 * l + t) = 1000 * (q + 100) + 2 * l + t by omega]
theorem e_hasNote {b : Nat} {i m : Int} {H : zHp} (h1 : ztg H b = 1) (h2 : zct H b 1 = m) (h3 : m ≤ 8) : fBar_hasNote b i H = some (if 0 ≤ i ∧ i < m then 1 else 0, H) := by
  unfold fBar_hasNote
  simp only [ygi, h1, zA0, if_true, h2]
  repeat' split
  all_goals first
    | rfl
    | (exfalso; omega)
set_option maxRecDepth 20000 in
theorem k_alter (I : IV X H s A B K ow) {t v b i p : Int} : wX (fH_alter X t v b i p H) fun x H' => wX (gM_alter t v b i p s) fun w s' => w = x ∧ KD X H H' s' := by
  have F := I.1
  have hn := I.n
  unfold fH_alter gM_alter fH_repitched
  simp only [wX_s, wX_bd, wX_vl, wX_jn, wX_ite, wX_dv, wX_n0, wX_rb, wX_rc, wX_ry, wX_gi, wX_gr, wX_pi, wX_pz, wX_pr, wX_ai, wX_ab, wX_ar, wX_si, wX_sz, wX_sb, wX_sr, wX_ln, wX_nw, wX_na, wX_nm, wX_io, wX_ck, wX_cp, wX_cl, wX_ca, wX_sv, wX_sc, wX_rd, wX_wi, wX_wz, wX_wb, e_scoreAt I, e_lacking I, mi_isThing I, e_in, e_within, i01, ft0 F, zA10, true_and]
  by_cases h : 0 ≤ t ∧ t ≤ s 0 2 - 1
  · have ht : ((t.toNat : Nat) : Int) < s 0 2 := by omega
    have hp := I.pos ht
    simp only [h, and_self, true_and, if_true, not_true, if_false, mi_isMusic I h, wX_s, i01]
    by_cases hk : s 3 t.toNat = 1 ∨ s 3 t.toNat = 6
    · have hs := (I.st ht).2.1 hk
      have hs6 := hs.2.1
      have e1 : zsub (s 6 t.toNat) 1 = s 6 t.toNat - 1 := zsub_e (by omega) (by omega)
      obtain ⟨-, hg, -, -⟩ := I.hd ht
      have hb0 : 0 ≤ t ∧ t < ((60 : Nat) : Int) := by omega
      simp only [hk, if_true, not_true, if_false, show ¬ A t.toNat = 0 by omega, e_wholeBar I ht hk, wX_s, i01, e1, hg, tgk_8.mpr hk, true_and, hb0]
      by_cases h2 : 0 ≤ v ∧ v ≤ s 6 t.toNat - 1
      · have e3 := m_whole (t := t.toNat) (v := v.toNat) (s := s) (by omega) (by omega) hs
        rw [show ((v.toNat : Nat) : Int) = v by omega, show ((t.toNat : Nat) : Int) = t by omega] at e3
        have hw := wholeN_b (v := v.toNat) (by omega) hs
        have e4 : zsub (wholeN s t.toNat v.toNat) 1 = wholeN s t.toNat v.toNat - 1 := zsub_e (by omega) (by omega)
        simp only [h2, and_self, not_true, if_false, e3, wX_s, true_and, e4]
        by_cases h3 : 0 ≤ b ∧ b ≤ wholeN s t.toNat v.toNat - 1
        · have h4 : 0 ≤ b ∧ b < wholeN s t.toNat v.toNat := by omega
          have h5 : ((b.toNat : Nat) : Int) < s 14 (4 * t.toNat + v.toNat) := by omega
          obtain ⟨bo, bv, bi⟩ := I.bar (v := v.toNat) (b := b.toNat) ht hk (by omega) h5
          obtain ⟨n0, n1, t1, t2, t3, t4⟩ := id bo
          obtain ⟨v1, v2, v3, v4⟩ := bv
          have e5 := m_barAt (t := t.toNat) (v := v.toNat) (b := b.toNat) (s := s) (by omega) (by omega) (by omega)
          rw [show ((v.toNat : Nat) : Int) = v by omega, show ((t.toNat : Nat) : Int) = t by omega, show ((b.toNat : Nat) : Int) = b by omega] at e5
          have hpos := n0.1
          have hz : ¬ B t.toNat (20 * v.toNat + b.toNat) = 0 := by omega
          generalize hq : 80 * t.toNat + 20 * v.toNat + b.toNat = q at *
          have hq2 : 0 ≤ ((q : Nat) : Int) ∧ ((q : Nat) : Int) < ((4800 : Nat) : Int) := by omega
          have hm8 := bi.1
          have e6 : zsub (s 13 q) 1 = s 13 q - 1 := zsub_e (by omega) (by omega)
          simp only [h3, h4, and_self, not_true, if_true, if_false, hz, e5, e_hasNote t1 v1 bi.1.2, wX_s, i01, t1, zA0, true_and, hq2, Int.toNat_natCast, e6]
          by_cases h6 : 0 ≤ i ∧ i < s 13 q
          · have h7 : 0 ≤ i ∧ i ≤ s 13 q - 1 := by omega
            obtain ⟨nr1, nr2, nr3, nr4⟩ := bi.2.1 i.toNat (by omega)
            have e7 : zadd (zmul 8 (q : Int)) i = ((8 * q + i.toNat : Nat) : Int) := by rw [zmul_e (by omega) (by omega), zadd_e (by omega) (by omega)]; omega
            have hj : 0 ≤ ((8 * q + i.toNat : Nat) : Int) ∧ ((8 * q + i.toNat : Nat) : Int) < ((38400 : Nat) : Int) := by omega
            have e8 : zct H (B t.toNat (20 * v.toNat + b.toNat) + 1) i.toNat = ncode (s 10 (8 * q + i.toNat)) (s 11 (8 * q + i.toNat)) (s 12 (8 * q + i.toNat)) := v4 i.toNat (by omega)
            have hi8 : 0 ≤ i ∧ i < ((8 : Nat) : Int) := by omega
            have hnp : s 10 (8 * q + i.toNat) = -1000 ∨ (-99 ≤ s 10 (8 * q + i.toNat) ∧ s 10 (8 * q + i.toNat) ≤ 1000) := by omega
            simp only [h6, h7, and_self, not_true, if_true, if_false, e7, hj, Int.toNat_natCast, true_and, t2, t3, t4, hi8, e8, e_isRest ⟨nr2, nr3⟩ nr4 hnp, e_pitchOf ⟨nr2, nr3⟩ nr4 hnp, wX_s, i01]
            by_cases h8 : 1 ≤ p ∧ p ≤ 60
            · simp only [h8, and_self, not_true, if_true, if_false]
              by_cases h9 : s 10 (8 * q + i.toNat) = -1000
              · simp only [h9, if_true, if_false, not_true, t1, t3, t4, zA0, true_or, true_and]
                (repeat first | exact (KD.rf I) | refine ⟨by omega, ?_⟩)
              · have iv := I.pitch (v := v.toNat) (N := b.toNat) (m := i.toNat) ht hk (by omega) h5 (by rw [hq]; omega) h8
                rw [hq] at iv
                have hq3 : -99 ≤ p ∧ p ≤ 1000 := by omega
                simp only [h9, if_true, if_false, not_false_iff, e_withPitch ⟨nr2, nr3⟩ nr4 hnp hq3, wX_s, true_and, t1, t3, t4, zA0, true_or, hi8, and_self]
                (repeat first | exact (⟨zst.rf.wr _ _ _, by show znx H ≤ znx H + 300; omega, by show zus H ≤ zus H + 4000; omega, fun a _ ha k => by rw [zct_wr, if_neg (by omega)], _, _, _, _, iv⟩) | refine ⟨by omega, ?_⟩)
            · simp only [h8, if_true, not_false_iff]
              (repeat first | exact (KD.rf I) | refine ⟨by omega, ?_⟩)
          · have h7 : ¬ (0 ≤ i ∧ i ≤ s 13 q - 1) := by omega
            simp only [h6, h7, if_true, not_false_iff, if_false]
            (repeat first | exact (KD.rf I) | refine ⟨by omega, ?_⟩)
        · have h4 : ¬ (0 ≤ b ∧ b < wholeN s t.toNat v.toNat) := by omega
          simp only [h3, h4, if_true, not_false_iff, if_false]
          (repeat first | exact (KD.rf I) | refine ⟨by omega, ?_⟩)
      · simp only [h2, false_and, not_false_iff, if_true, if_false]
        (repeat first | exact (KD.rf I) | refine ⟨by omega, ?_⟩)
    · simp only [hk, if_false, if_true, not_false_iff]
      (first | exact KD.rf I | exact ⟨trivial, KD.rf I⟩ | exact ⟨rfl, KD.rf I⟩)
  · simp only [h, false_and, if_false, if_true, not_false_iff]
    (first | exact KD.rf I | exact ⟨trivial, KD.rf I⟩ | exact ⟨rfl, KD.rf I⟩)
end ALTER
