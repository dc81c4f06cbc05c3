section PRESS
variable {X : Nat} {H : zHp} {s : zSg} {A : Nat → Nat} {B : Nat → Nat → Nat} {K : Nat → Nat} {ow : Nat → Nat × Nat}
theorem SI.press {u m : Nat} (si : SI s) (hm : s 0 24 = (m : Int)) (hu : (u : Int) < s 0 2) (hk : s 3 u = 3) : SI (zup (zup s 25 m (u : Int)) 0 24 ((m + 1 : Nat) : Int)) := by
  obtain ⟨k1, k2, k3, k4⟩ := si
  have e25 : ∀ j, zup (zup s 25 m (u : Int)) 0 24 ((m + 1 : Nat) : Int) 25 j = if j = m then (u : Int) else s 25 j := fun j => by simp [zup]
  have e0 : ∀ j, zup (zup s 25 m (u : Int)) 0 24 ((m + 1 : Nat) : Int) 0 j = if j = 24 then ((m + 1 : Nat) : Int) else s 0 j := fun j => by simp [zup]
  have eo : ∀ k, k ≠ 25 → k ≠ 0 → zup (zup s 25 m (u : Int)) 0 24 ((m + 1 : Nat) : Int) k = s k := fun k h1 h2 => funext fun j => by simp [zup, h1, h2]
  generalize zup (zup s 25 m (u : Int)) 0 24 ((m + 1 : Nat) : Int) = s' at *
  have e02 : s' 0 2 = s 0 2 := by rw [e0, if_neg (by omega)]
  have e08 : s' 0 8 = s 0 8 := by rw [e0, if_neg (by omega)]
  have e24 : s' 0 24 = ((m + 1 : Nat) : Int) := by rw [e0, if_pos rfl]
  unfold SI
  rw [e02, e24, eo 3 (by omega) (by omega), eo 29 (by omega) (by omega), eo 14 (by omega) (by omega)]
  refine ⟨fun t ht => ?_, fun t h1 h2 => ?_, k3, fun k hk' => ?_⟩
  · obtain ⟨q0, q1, q2, q3, q4, q5⟩ := k1 t ht
    unfold SIt SIs SIp SIl SIe SIr BI
    rw [e08, eo 3 (by omega) (by omega), eo 4 (by omega) (by omega), eo 5 (by omega) (by omega), eo 6 (by omega) (by omega), eo 7 (by omega) (by omega), eo 10 (by omega) (by omega), eo 11 (by omega) (by omega), eo 12 (by omega) (by omega), eo 13 (by omega) (by omega), eo 14 (by omega) (by omega), eo 20 (by omega) (by omega), eo 21 (by omega) (by omega), eo 22 (by omega) (by omega), eo 23 (by omega) (by omega), eo 26 (by omega) (by omega), eo 27 (by omega) (by omega), eo 28 (by omega) (by omega), eo 29 (by omega) (by omega), eo 30 (by omega) (by omega), eo 31 (by omega) (by omega), eo 32 (by omega) (by omega), eo 64 (by omega) (by omega), eo 75 (by omega) (by omega)]
    exact ⟨q0, q1, q2, q3, q4, q5⟩
  · unfold SIn
    rw [eo 14 (by omega) (by omega), eo 75 (by omega) (by omega), eo 29 (by omega) (by omega), eo 64 (by omega) (by omega)]
    exact k2 t h1 h2
  · rw [e25]
    by_cases e : k = m
    · rw [if_pos e, Int.toNat_natCast]
      exact ⟨hu, hk⟩
    · rw [if_neg e]
      exact k4 k (by omega)
theorem IV.press (I : IV X H s A B K ow) {u m : Nat} (hm : s 0 24 = (m : Int)) (h11 : m ≤ 11) (hu : (u : Int) < s 0 2) (hk : s 3 u = 3) : KD X H (zwr (zwr H (X + 3) m ((A u : Nat) : Int)) X 7 ((m + 1 : Nat) : Int)) (zup (zup s 25 m (u : Int)) 0 24 ((m + 1 : Nat) : Int)) := by
  have hX := I.1.2.1.1
  have si := I.2.2.2.2.1.press hm hu hk
  have h1 : zst H (zwr (zwr H (X + 3) m ((A u : Nat) : Int)) X 7 ((m + 1 : Nat) : Int)) := (by repeat first | exact zst.rf | apply zst.wr)
  have h2 : zfx X [2] H (zwr (zwr H (X + 3) m ((A u : Nat) : Int)) X 7 ((m + 1 : Nat) : Int)) := (by repeat first | exact zfx.rf | refine zfx.wr0 ?_ rfl | refine zfx.wr ?_ rfl)
  have h3 : zfd X (fun _ => False) H (zwr (zwr H (X + 3) m ((A u : Nat) : Int)) X 7 ((m + 1 : Nat) : Int)) := (by repeat first | exact zfd.rf | refine zfd.wr0 ?_ | refine zfd.wr ?_ (by omega))
  have h4 : zfs [2] s (zup (zup s 25 m (u : Int)) 0 24 ((m + 1 : Nat) : Int)) := (by repeat first | exact zfs.rf | refine zfs.up0 ?_ rfl | refine zfs.up ?_ (by decide) rfl)
  have g2 : G2 (zcx X (zwr (zwr H (X + 3) m ((A u : Nat) : Int)) X 7 ((m + 1 : Nat) : Int))) (zup (zup s 25 m (u : Int)) 0 24 ((m + 1 : Nat) : Int)) A := by
    obtain ⟨a1, a2, a3, a4⟩ := I.2.1.2.1
    rw [zcx_wr0, zcx_wr]
    refine ⟨by simp [zup], by simp [zup]; omega, by simp [zup]; omega, fun k hk' => ?_⟩
    have hk2 : (k : Int) < ((m + 1 : Nat) : Int) := by simpa [zup] using hk'
    by_cases e : k = m
    · subst e
      simp [zup]
    · have := a4 k (by omega)
      simp [zup, e]
      exact this
  refine ⟨h1, by show znx H ≤ _; omega, by show zus H ≤ _; omega, fun a h5 h6 k => h3 a h5 (by omega) (fun q => q) k, A, B, K, ow, ?_⟩
  generalize zwr (zwr H (X + 3) m ((A u : Nat) : Int)) X 7 ((m + 1 : Nat) : Int) = H' at *
  generalize zup (zup s 25 m (u : Int)) 0 24 ((m + 1 : Nat) : Int) = s' at *
  obtain ⟨F, ⟨k1, k2, k3, k4, k5, k6, k7, k8, k9, k10⟩, kt, kc, ks, ko⟩ := I
  have hc : zfc [2] (zcx X H) (zcx X H') := fun o k a b => h2 o k a b
  have n2 : s' 0 2 = s 0 2 := h4 0 2 rfl
  have n44 : s' 0 44 = s 0 44 := h4 0 44 rfl
  have how : ∀ o, o ≠ 0 → zown ow o H H' := fun o ho a ha hb k => by
    have hx : ¬ a ≤ X + 99 := fun q => ho (by rw [← hb]; exact ko a q)
    exact h3 a (Or.inr (by omega)) ha (fun q => q) k
  refine ⟨F.fr h1 h2 rfl, ⟨k1.fr hc h4 rfl, g2, k3.fr hc h4 rfl, ?_, k5.fr hc h4 rfl, k6.fr hc h4 rfl, k7.fr hc h4 rfl, k8.fr hc h4 rfl, k9.fr hc h4 rfl, k10.fr hc h4 rfl⟩, fun t ht => ?_, fun c hcn => ?_, si, ko⟩
  · obtain ⟨a1, a2, a3, a4⟩ := k4
    unfold G4
    rw [hc 0 12 (by omega) rfl, n44]
    exact ⟨a1, a2, a3, fun k hk => by rw [hc 11 k (by omega) rfl]; exact a4 k hk⟩
  · rw [n2] at ht ⊢
    obtain ⟨to, eo⟩ := kt t ht
    have hz : zts t s s' := zts.of h4 rfl
    have st := ks.1 t ht
    refine ⟨to.fr hz h1 (how _ (by omega)) (fun _ _ => rfl) rfl rfl (fun _ => rfl) (fun w v hv => ((st.2.1 w).2.2.2.2.2 v hv).1.2) (fun w => (st.2.2.2.1 w).2.2.2.1.2), fun w => ?_⟩
    rw [hz.1 3 (by simp)] at w
    obtain ⟨e1, e2⟩ := eo w
    obtain ⟨⟨m0, -, -, -, m4⟩, -⟩ := to.2.2.2.1 w
    refine ⟨?_, fun j hj => ?_⟩
    · rw [m0.ct (how _ (by omega)), e1]
      exact (errN_eq _ fun i _ => ⟨h4 3 i rfl, h4 4 i rfl⟩).symm
    · rw [m4.ct (how _ (by omega)), edist_eq (funext fun j => h4 26 j rfl) (funext fun j => h4 27 j rfl) (funext fun j => h4 28 j rfl) (funext fun j => h4 29 j rfl)]
      exact e2 j hj
  · rw [n44] at hcn
    exact (kc c hcn).fr h4 rfl h1 (how _ (by omega)) (fun _ _ => rfl)
/-- two plates are of one score as the class and the reference see it -/
theorem IV.inj (I : IV X H s A B K ow) {u v : Nat} (hu : (u : Int) < s 0 2) (hv : (v : Int) < s 0 2) : A u = A v ↔ u = v := by
  refine ⟨fun h => ?_, fun h => by rw [h]⟩
  have a := (I.hd hu).1.2.2
  have b := (I.hd hv).1.2.2
  rw [h] at a
  have c := a.symm.trans b
  simp only [Prod.mk.injEq] at c
  omega
theorem k_press (I : IV X H s A B K ow) {t : Int} : wX (fH_press X t H) fun x H' => wX (gM_press t s) fun w s' => w = x ∧ KD X H H' s' := by
  have F := I.1
  have hX := F.2.1.1
  have hn := I.n
  obtain ⟨a1, a2, a3, a4⟩ := I.2.1.2.1
  have q7 : zct H X 7 = s 0 24 := a1
  unfold fH_press gM_press
  simp only [wX_s, wX_bd, wX_vl, wX_jn, wX_ite, wX_dv, wX_n0, wX_rb, wX_rc, wX_ry, wX_gi, wX_gr, wX_pi, wX_pz, wX_pr, wX_ai, wX_ab, wX_ar, wX_si, wX_sz, wX_sb, wX_sr, wX_ln, wX_nw, wX_na, wX_nm, wX_io, wX_ck, wX_cp, wX_cl, wX_ca, wX_sv, wX_sc, wX_rd, wX_wi, wX_wz, wX_wb, e_plateAt I, e_lacking I, mi_isThing I, i01, ft0 F, zA10, true_and, q7, fp0_6 F]
  by_cases h : 0 ≤ t ∧ t ≤ s 0 2 - 1
  · have ht : ((t.toNat : Nat) : Int) < s 0 2 := by omega
    have et : ((t.toNat : Nat) : Int) = t := by omega
    have hp := I.pos ht
    have hb0 : 0 ≤ t ∧ t < ((60 : Nat) : Int) := by omega
    simp only [h, and_self, true_and, if_true, not_true, if_false, hb0]
    by_cases hk : s 3 t.toNat = 3
    · obtain ⟨m, hm⟩ : ∃ m : Nat, s 0 24 = (m : Int) := ⟨(s 0 24).toNat, by omega⟩
      obtain ⟨-, ⟨b0, -, -, b2, -⟩, -⟩ := (I.to ht).2.2.1 hk
      obtain ⟨⟨p1, p2⟩, p3, -⟩ := (I.st ht).2.2.2.1 hk
      obtain ⟨-, ⟨c0, -, -, c2, -⟩, -⟩ := (I.to (t := (s 4 t.toNat).toNat) (by omega)).2.1 p3
      obtain ⟨⟨x1, x2⟩, x3, -⟩ := (I.st (t := (s 4 t.toNat).toNat) (by omega)).2.2.1 p3
      -- the press itself
      have go : wX (if ((m : Nat) : Int) < 12 then ysr (X + 3) (m : Int) (A t.toNat) H fun s10 => ygi 10 7 X s10 fun v11 => ypi 10 7 X (zadd v11 1) s10 fun s12 => ygi 10 7 X s12 fun v13 => some (v13, s12) else some ((-4), H)) fun x H' => wX (if ((m : Nat) : Int) = 12 then some ((-4), s) else ywi 12 25 (m : Int) t s fun s7 => yvl (zup s7 0 24 (zadd (s7 0 24) 1)) fun s8 => some (s8 0 24, s8)) fun w s' => w = x ∧ KD X H H' s' := by
        by_cases h12 : m = 12
        · rw [if_neg (by omega), if_pos (by omega), wX_s, wX_s]
          exact ⟨rfl, KD.rf I⟩
        · have iv := I.press hm (by omega) ht hk
          rw [et] at iv
          have zm : zmay 34 7 = true := rfl
          have e1 : zadd (m : Int) 1 = ((m + 1 : Nat) : Int) := by rw [zadd_e (by omega) (by omega)]; omega
          have e2 : zct (zwr H (X + 3) m ((A t.toNat : Nat) : Int)) X 7 = (m : Int) := by rw [zct_wr, if_neg (by omega), q7, hm]
          have e3 : ∀ v : Int, zup s 25 m v 0 24 = (m : Int) := fun v => hm
          have b : 0 ≤ (m : Int) ∧ (m : Int) < ((12 : Nat) : Int) := by omega
          rw [if_pos (by omega), if_neg (by omega)]
          simp only [wX_s, wX_bd, wX_vl, wX_jn, wX_ite, wX_dv, wX_n0, wX_rb, wX_rc, wX_ry, wX_gi, wX_gr, wX_pi, wX_pz, wX_pr, wX_ai, wX_ab, wX_ar, wX_si, wX_sz, wX_sb, wX_sr, wX_ln, wX_nw, wX_na, wX_nm, wX_io, wX_ck, wX_cp, wX_cl, wX_ca, wX_sv, wX_sc, wX_rd, wX_wi, wX_wz, wX_wb, ft3 F, fl3 F, b0, zm, b, and_self, true_and, Int.toNat_natCast, ztg_wr, ft0 F, zA10, e2, e1, e3]
          refine ⟨?_, iv⟩
          simp [zup, zct_wr]
      simp only [hk, if_true, if_false, show ¬ A t.toNat = 0 by omega, hm]
      by_cases h0 : 0 < m
      · have g := a4 0 (by omega)
        have g' : zct H (X + 3) 0 = ((A (s 25 0).toNat : Nat) : Int) := g.1
        obtain ⟨y1, y2⟩ := I.2.2.2.2.1.2.2.2 0 (by omega)
        have y1' : (((s 25 0).toNat : Nat) : Int) < s 0 2 := by have := g.2; omega
        have hp2 := I.pos y1'
        obtain ⟨-, ⟨d0, -, -, d2, -⟩, -⟩ := (I.to y1').2.2.1 y2
        obtain ⟨⟨r1, r2⟩, r3, -⟩ := (I.st y1').2.2.2.1 y2
        obtain ⟨-, ⟨f0, -, -, f2, -⟩, -⟩ := (I.to (t := (s 4 (s 25 0).toNat).toNat) (by omega)).2.1 r3
        obtain ⟨⟨z1, z2⟩, z3, -⟩ := (I.st (t := (s 4 (s 25 0).toNat).toNat) (by omega)).2.2.1 r3
        have so1 := m_scoreOf (t := t.toNat) (s := s) (by omega) (fun _ => by omega) (by omega) (by omega) (by omega)
        have so2 := m_scoreOf (t := (s 25 0).toNat) (s := s) (by omega) (fun _ => by omega) (by omega) (by omega) (by omega)
        rw [et, if_pos (Or.inl hk)] at so1
        rw [Int.toNat_of_nonneg g.2, if_pos (Or.inl y2)] at so2
        have ij := I.inj (u := (s 4 (s 4 (s 25 0).toNat).toNat).toNat) (v := (s 4 (s 4 t.toNat).toNat).toNat) (by omega) (by omega)
        have bb : (0 : Int) ≤ 0 ∧ (0 : Int) < ((12 : Nat) : Int) := by omega
        simp only [show (0 : Int) < (m : Int) by omega, if_true, ft3 F, fl3 F, bb, and_self, true_and, Int.toNat_zero, g', Int.toNat_natCast, show ¬ A (s 25 0).toNat = 0 by omega, if_false, d0, zA6, d2, f0, zA5, f2, b0, b2, c0, c2, so1, so2, wX_s, ij]
        by_cases hsame : s 4 (s 4 (s 25 0).toNat).toNat = s 4 (s 4 t.toNat).toNat
        · rw [if_pos (by omega)]
          simp only [if_pos hsame]
          simp only [wX_s, wX_bd, wX_vl, wX_jn, wX_ite, wX_dv, wX_n0, wX_rb, wX_rc, wX_ry, wX_gi, wX_gr, wX_pi, wX_pz, wX_pr, wX_ai, wX_ab, wX_ar, wX_si, wX_sz, wX_sb, wX_sr, wX_ln, wX_nw, wX_na, wX_nm, wX_io, wX_ck, wX_cp, wX_cl, wX_ca, wX_sv, wX_sc, wX_rd, wX_wi, wX_wz, wX_wb, ft0 F, zA10, true_and, q7, hm, fp0_6 F, ft3 F, fl3 F, b0, Int.toNat_natCast, Nat.reduceLeDiff, and_self] at go ⊢
          exact go
        · rw [if_neg (by omega)]
          simp only [if_neg hsame, Nat.reduceLeDiff, and_self, true_and]
          (repeat first | exact (KD.rf I) | refine ⟨by omega, ?_⟩)
      · simp only [show ¬ (0 : Int) < (m : Int) by omega, if_false]
        simp only [wX_s, wX_bd, wX_vl, wX_jn, wX_ite, wX_dv, wX_n0, wX_rb, wX_rc, wX_ry, wX_gi, wX_gr, wX_pi, wX_pz, wX_pr, wX_ai, wX_ab, wX_ar, wX_si, wX_sz, wX_sb, wX_sr, wX_ln, wX_nw, wX_na, wX_nm, wX_io, wX_ck, wX_cp, wX_cl, wX_ca, wX_sv, wX_sc, wX_rd, wX_wi, wX_wz, wX_wb, ft0 F, zA10, true_and, q7, hm, fp0_6 F, ft3 F, fl3 F, b0, Int.toNat_natCast, Nat.reduceLeDiff, and_self] at go ⊢
        exact go
    · simp only [hk, if_false, if_true]
      (first | exact KD.rf I | exact ⟨trivial, KD.rf I⟩ | exact ⟨rfl, KD.rf I⟩)
  · simp only [h, false_and, if_false, if_true, not_false_iff]
    (first | exact KD.rf I | exact ⟨trivial, KD.rf I⟩ | exact ⟨rfl, KD.rf I⟩)
end PRESS
