/-! THE PLAIN CALLS -/
theorem zcx_wr {X o k : Nat} {v : Int} {H : zHp} : zcx X (zwr H (X + o) k v) = zup (zcx X H) o k v := funext fun o' => funext fun k' => by
  show (if X + o' = X + o ∧ k' = k then v else zct H (X + o') k') = if o' = o ∧ k' = k then v else zct H (X + o') k'
  by_cases e : o' = o
  · subst e; simp
  · rw [if_neg (by omega), if_neg (fun q => e q.1)]
theorem zcx_wr0 {X k : Nat} {v : Int} {H : zHp} : zcx X (zwr H X k v) = zup (zcx X H) 0 k v := zcx_wr (o := 0)
section SIMPLE
variable {X : Nat} {H : zHp} {s : zSg} {A : Nat → Nat} {B : Nat → Nat → Nat} {K : Nat → Nat} {ow : Nat → Nat × Nat}
theorem k_pass (I : IV X H s A B K ow) {a : Int} (ha : zR32 a) : wX (fH_pass X a H) fun v H' => wX (gM_pass a s) fun w s' => w = v ∧ KD X H H' s' := by
  have F := I.1
  obtain ⟨q1, q2, q3, q4, q5, q6, q7, q8⟩ := I.2.1.1
  have q1' : zct H X 0 = s 0 1 := q1
  unfold fH_pass gM_pass
  simp only [wX_s, wX_bd, wX_vl, wX_jn, wX_ite, wX_dv, wX_n0, wX_rb, wX_rc, wX_ry, wX_gi, wX_gr, wX_pi, wX_pz, wX_pr, wX_ai, wX_ab, wX_ar, wX_si, wX_sz, wX_sb, wX_sr, wX_ln, wX_nw, wX_na, wX_nm, wX_io, wX_ck, wX_cp, wX_cl, wX_ca, wX_sv, wX_sc, wX_rd, wX_wi, wX_wz, wX_wb, e_within, e_in, ybd_s, i01, ft0 F, zA10, true_and, q1']
  by_cases h : 1 ≤ a ∧ a ≤ 400
  · have e : zadd (s 0 1) a = s 0 1 + a := zadd_e (by omega) (by omega)
    simp only [h, and_self, not_true, if_false, e, true_and]
    by_cases h2 : 9999 < s 0 1 + a
    · simp only [h2, if_true]
      (first | exact KD.rf I | exact ⟨trivial, KD.rf I⟩ | exact ⟨rfl, KD.rf I⟩)
    · simp only [h2, if_false, zct_wr, ztg_wr, ft0 F, zA10, true_and, and_self, if_true]
      refine ⟨by simp [zup], KD.fx (gs := [1]) I (by repeat first | exact zst.rf | apply zst.wr) rfl rfl (by repeat first | exact zfx.rf | refine zfx.wr0 ?_ rfl | refine zfx.wr ?_ rfl) (by repeat first | exact zfd.rf | refine zfd.wr0 ?_ | refine zfd.wr ?_ (by omega)) (by repeat first | exact zfs.rf | refine zfs.up0 ?_ rfl | refine zfs.up ?_ (by decide) rfl) rfl rfl rfl rfl (Int.le_refl _) (Or.inr ?_) (Or.inl rfl) (Or.inl rfl) (Or.inl rfl) (Or.inl rfl) (Or.inl rfl) (Or.inl rfl)⟩
      rw [zcx_wr0]
      exact ⟨rfl, by show 0 ≤ s 0 1 + a; omega, by show s 0 1 + a ≤ 9999; omega, q4, q5, q6, q7, q8⟩
  · simp only [h, not_false_iff, if_true]
    (first | exact KD.rf I | exact ⟨trivial, KD.rf I⟩ | exact ⟨rfl, KD.rf I⟩)
theorem k_author (I : IV X H s A B K ow) : wX (fH_author X H) fun v H' => wX (gM_author s) fun w s' => w = v ∧ KD X H H' s' := by
  have F := I.1
  obtain ⟨q1, q2, q3, q4, q5, q6, q7, q8⟩ := I.2.1.1
  have q4' : zct H X 2 = s 0 8 := q4
  unfold fH_author gM_author
  simp only [wX_s, wX_bd, wX_vl, wX_jn, wX_ite, wX_dv, wX_n0, wX_rb, wX_rc, wX_ry, wX_gi, wX_gr, wX_pi, wX_pz, wX_pr, wX_ai, wX_ab, wX_ar, wX_si, wX_sz, wX_sb, wX_sr, wX_ln, wX_nw, wX_na, wX_nm, wX_io, wX_ck, wX_cp, wX_cl, wX_ca, wX_sv, wX_sc, wX_rd, wX_wi, wX_wz, wX_wb, ft0 F, fp0_1 F, ft1 F, fl1 F, zA10, true_and, q4', ztg_wr]
  by_cases h : s 0 8 = 12
  · simp only [h, if_true, show ¬ (12 : Int) < 12 by omega, if_false]
    (first | exact KD.rf I | exact ⟨trivial, KD.rf I⟩ | exact ⟨rfl, KD.rf I⟩)
  · have h2 : s 0 8 < 12 := by omega
    have e : zadd (s 0 8) 1 = s 0 8 + 1 := zadd_e (by omega) (by omega)
    have e2 : zct (zwr H (X + 1) (s 0 8).toNat (-1)) X 2 = s 0 8 := by rw [zct_wr, if_neg (by omega)]; exact q4'
    simp only [h, h2, if_true, if_false, true_or, true_and, e2, e, ft0 F, zA10]
    refine ⟨⟨by omega, by omega⟩, ?_⟩
    refine ⟨by simp [zup, zct_wr], KD.fx (gs := [1]) I (by repeat first | exact zst.rf | apply zst.wr) rfl rfl (by repeat first | exact zfx.rf | refine zfx.wr0 ?_ rfl | refine zfx.wr ?_ rfl) (by repeat first | exact zfd.rf | refine zfd.wr0 ?_ | refine zfd.wr ?_ (by omega)) (by repeat first | exact zfs.rf | refine zfs.up0 ?_ rfl | refine zfs.up ?_ (by decide) rfl) rfl rfl rfl rfl (by show s 0 8 ≤ s 0 8 + 1; omega) (Or.inr ?_) (Or.inl rfl) (Or.inl rfl) (Or.inl rfl) (Or.inl rfl) (Or.inl rfl) (Or.inl rfl)⟩
    rw [zcx_wr0, zcx_wr]
    refine ⟨q1, q2, q3, rfl, by show 0 ≤ s 0 8 + 1; omega, by show s 0 8 + 1 ≤ 12; omega, fun a ha => ?_, fun a ha hb => ?_⟩
    · have ha' : (a : Int) < s 0 8 + 1 := ha
      by_cases e3 : a = (s 0 8).toNat
      · have := q8 a (by omega) (by omega)
        refine ⟨?_, ?_⟩
        · show (if 1 = 0 ∧ a = 2 then _ else if 1 = 1 ∧ a = (s 0 8).toNat then (-1 : Int) else zcx X H 1 a) = s 9 a
          rw [if_neg (by omega), if_pos ⟨rfl, e3⟩, this]
        · show -1 ≤ s 9 a ∧ s 9 a ≤ 9999
          omega
      · have := q7 a (by omega)
        refine ⟨?_, this.2⟩
        show (if 1 = 0 ∧ a = 2 then _ else if 1 = 1 ∧ a = (s 0 8).toNat then (-1 : Int) else zcx X H 1 a) = s 9 a
        rw [if_neg (by omega), if_neg (fun q => e3 q.2)]
        exact this.1
    · have ha' : s 0 8 + 1 ≤ (a : Int) := ha
      exact q8 a (by omega) hb
theorem e_isAuthor (I : IV X H s A B K ow) {a : Int} : fH_isAuthor X a H = some (if 0 ≤ a ∧ a ≤ s 0 8 - 1 then 1 else 0, H) := by
  have F := I.1
  obtain ⟨q1, q2, q3, q4, q5, q6, q7, q8⟩ := I.2.1.1
  have q4' : zct H X 2 = s 0 8 := q4
  unfold fH_isAuthor ygi
  simp only [ft0 F, zA10, if_true, q4']
  by_cases h1 : a < 0
  · rw [if_pos h1, if_neg (by omega)]
  · rw [if_neg h1]
    by_cases h2 : a < s 0 8
    · rw [if_pos h2, if_pos (by omega), if_pos (by omega)]
    · rw [if_neg h2, if_neg (by omega)]
theorem mi_isAuthor (I : IV X H s A B K ow) {a : Int} : gM_isAuthor a s = some (if 0 ≤ a ∧ a ≤ s 0 8 - 1 then 1 else 0, s) := by
  obtain ⟨q1, q2, q3, q4, q5, q6, q7, q8⟩ := I.2.1.1
  rw [m_isAuthor, zsub_e (by omega) (by omega)]
theorem k_died (I : IV X H s A B K ow) {a b : Int} : wX (fH_died X a b H) fun v H' => wX (gM_died a b s) fun w s' => w = v ∧ KD X H H' s' := by
  have F := I.1
  obtain ⟨q1, q2, q3, q4, q5, q6, q7, q8⟩ := I.2.1.1
  have q1' : zct H X 0 = s 0 1 := q1
  unfold fH_died gM_died
  simp only [wX_s, wX_bd, wX_vl, wX_jn, wX_ite, wX_dv, wX_n0, wX_rb, wX_rc, wX_ry, wX_gi, wX_gr, wX_pi, wX_pz, wX_pr, wX_ai, wX_ab, wX_ar, wX_si, wX_sz, wX_sb, wX_sr, wX_ln, wX_nw, wX_na, wX_nm, wX_io, wX_ck, wX_cp, wX_cl, wX_ca, wX_sv, wX_sc, wX_rd, wX_wi, wX_wz, wX_wb, e_isAuthor I, mi_isAuthor I, e_within, e_in, i01, ft0 F, fp0_1 F, ft1 F, fl1 F, zA10, true_and, q1', ztg_wr]
  by_cases h : 0 ≤ a ∧ a ≤ s 0 8 - 1
  · have q := q7 a.toNat (by omega)
    have q' : zct H (X + 1) a.toNat = s 9 a.toNat := q.1
    simp only [h, and_self, not_true, if_false, q', true_or, true_and]
    by_cases h2 : 0 ≤ b ∧ b ≤ s 0 1
    · simp only [h2, and_self, not_true, if_false]
      refine ⟨by omega, ?_⟩
      by_cases h3 : s 9 a.toNat = -1
      · simp only [h3, if_true, show (-1 : Int) < 0 by omega]
        refine ⟨by omega, by omega, by omega, KD.fx (gs := [1]) I (by repeat first | exact zst.rf | apply zst.wr) rfl rfl (by repeat first | exact zfx.rf | refine zfx.wr0 ?_ rfl | refine zfx.wr ?_ rfl) (by repeat first | exact zfd.rf | refine zfd.wr0 ?_ | refine zfd.wr ?_ (by omega)) (by repeat first | exact zfs.rf | refine zfs.up0 ?_ rfl | refine zfs.up ?_ (by decide) rfl) rfl rfl rfl rfl (Int.le_refl _) (Or.inr ?_) (Or.inl rfl) (Or.inl rfl) (Or.inl rfl) (Or.inl rfl) (Or.inl rfl) (Or.inl rfl)⟩
        rw [zcx_wr]
        refine ⟨q1, q2, q3, q4, q5, q6, fun k hk => ?_, fun k hk hb => ?_⟩
        · have hk' : (k : Int) < s 0 8 := hk
          by_cases e3 : k = a.toNat
          · subst e3
            refine ⟨by simp [zup], ?_⟩
            simp only [zup, and_self, if_true]
            omega
          · have := q7 k hk'
            simp only [zup, e3, and_false, if_false]
            exact this
        · have hk' : s 0 8 ≤ (k : Int) := hk
          simp only [zup, show ¬ k = a.toNat by omega, and_false, if_false]
          exact q8 k hk' hb
      · simp only [h3, if_false, show ¬ s 9 a.toNat < 0 by omega]
        exact ⟨by omega, KD.rf I⟩
    · simp only [h2, not_false_iff, if_true]
      (first | exact KD.rf I | exact ⟨trivial, KD.rf I⟩ | exact ⟨rfl, KD.rf I⟩)
  · simp only [h, not_false_iff, if_true]
    (first | exact KD.rf I | exact ⟨trivial, KD.rf I⟩ | exact ⟨rfl, KD.rf I⟩)
theorem k_ended (I : IV X H s A B K ow) : wX (fH_ended X H) fun v H' => wX (gM_ended s) fun w s' => w = v ∧ KD X H H' s' := by
  have F := I.1
  obtain ⟨q1, q2, q3⟩ := I.2.1.2.2.2.2.2.2.2.2.1
  have q1' : zct H X 5 = s 0 15 := q1
  unfold fH_ended gM_ended
  simp only [wX_s, wX_bd, wX_vl, wX_jn, wX_ite, wX_dv, wX_n0, wX_rb, wX_rc, wX_ry, wX_gi, wX_gr, wX_pi, wX_pz, wX_pr, wX_ai, wX_ab, wX_ar, wX_si, wX_sz, wX_sb, wX_sr, wX_ln, wX_nw, wX_na, wX_nm, wX_io, wX_ck, wX_cp, wX_cl, wX_ca, wX_sv, wX_sc, wX_rd, wX_wi, wX_wz, wX_wb, ft0 F, zA10, true_and, q1']
  by_cases h : s 0 15 = -1
  · simp only [h, if_true, show (-1 : Int) < 0 by omega]
    (first | exact KD.rf I | exact ⟨trivial, KD.rf I⟩ | exact ⟨rfl, KD.rf I⟩)
  · simp only [h, if_false, show ¬ s 0 15 < 0 by omega]
    (first | exact KD.rf I | exact ⟨trivial, KD.rf I⟩ | exact ⟨rfl, KD.rf I⟩)
theorem k_askless (I : IV X H s A B K ow) : wX (fH_askless X H) fun v H' => wX (gM_askless s) fun w s' => w = v ∧ KD X H H' s' := by
  have F := I.1
  obtain ⟨q1, q2, q3, q4, q5, q6, q7, q8⟩ := I.2.1.2.2.2.2.1
  have q3' : zct H (X + 12) 1 = s 0 65 := q3
  unfold fH_askless gM_askless
  simp only [wX_s, wX_bd, wX_vl, wX_jn, wX_ite, wX_dv, wX_n0, wX_rb, wX_rc, wX_ry, wX_gi, wX_gr, wX_pi, wX_pz, wX_pr, wX_ai, wX_ab, wX_ar, wX_si, wX_sz, wX_sb, wX_sr, wX_ln, wX_nw, wX_na, wX_nm, wX_io, wX_ck, wX_cp, wX_cl, wX_ca, wX_sv, wX_sc, wX_rd, wX_wi, wX_wz, wX_wb, ft0 F, fp0_13 F, ft12 F, zA10, zA9, true_and, q3']
  refine KD.fx (gs := [5]) I (by repeat first | exact zst.rf | apply zst.wr) rfl rfl (by repeat first | exact zfx.rf | refine zfx.wr0 ?_ rfl | refine zfx.wr ?_ rfl) (by repeat first | exact zfd.rf | refine zfd.wr0 ?_ | refine zfd.wr ?_ (by omega)) (by repeat first | exact zfs.rf | refine zfs.up0 ?_ rfl | refine zfs.up ?_ (by decide) rfl) rfl rfl rfl rfl (Int.le_refl _) (Or.inl rfl) (Or.inl rfl) (Or.inr ?_) (Or.inl rfl) (Or.inl rfl) (Or.inl rfl) (Or.inl rfl)
  rw [zcx_wr]
  exact ⟨q1, q2, rfl, by show (0 : Int) ≤ 0; omega, by show (0 : Int) ≤ 9; omega, fun k hk => absurd (show (k : Int) < 0 from hk) (by omega), fun k hk => absurd (show (k : Int) < 0 from hk) (by omega), fun p q _ hk => absurd (show (q : Int) < 0 from hk) (by omega)⟩
theorem k_costs (I : IV X H s A B K ow) {a b c : Int} : wX (fH_costs X a b c H) fun v H' => wX (gM_costs a b c s) fun w s' => w = v ∧ KD X H H' s' := by
  have F := I.1
  obtain ⟨⟨p0, p1, p2, p3⟩, q1, q2, q3, q4, q5⟩ := I.2.1.2.2.2.2.2.1
  have p3' : zct H (X + 22) 3 = s 0 70 := p3
  unfold fH_costs gM_costs
  simp only [wX_s, wX_bd, wX_vl, wX_jn, wX_ite, wX_dv, wX_n0, wX_rb, wX_rc, wX_ry, wX_gi, wX_gr, wX_pi, wX_pz, wX_pr, wX_ai, wX_ab, wX_ar, wX_si, wX_sz, wX_sb, wX_sr, wX_ln, wX_nw, wX_na, wX_nm, wX_io, wX_ck, wX_cp, wX_cl, wX_ca, wX_sv, wX_sc, wX_rd, wX_wi, wX_wz, wX_wb, e_within, e_in, i01, ft0 F, fp0_14 F, ft22 F, zA10, zA7, true_and, p3', ztg_wr]
  by_cases h1 : 0 ≤ a ∧ a ≤ 9999
  · simp only [h1, and_self, not_true, if_false]
    by_cases h2 : 0 ≤ b ∧ b ≤ 99
    · simp only [h2, and_self, not_true, if_false]
      by_cases h3 : 1 ≤ c ∧ c ≤ 9999
      · simp only [h3, and_self, not_true, if_false]
        have f1 : (zct (zwr H (X + 22) 0 a) X 14).toNat = X + 22 := by rw [zct_wr, if_neg (by omega)]; exact fp0_14 F
        have f2 : (zct (zwr (zwr H (X + 22) 0 a) (X + 22) 1 b) X 14).toNat = X + 22 := by rw [zct_wr, if_neg (by omega)]; exact f1
        have f3 : (zct (zwr (zwr (zwr H (X + 22) 0 a) (X + 22) 1 b) (X + 22) 2 c) X 14).toNat = X + 22 := by rw [zct_wr, if_neg (by omega)]; exact f2
        simp only [f1, f2, f3, ft22 F, zA7, true_and]
        refine KD.fx (gs := [6]) I (by repeat first | exact zst.rf | apply zst.wr) rfl rfl (by repeat first | exact zfx.rf | refine zfx.wr0 ?_ rfl | refine zfx.wr ?_ rfl) (by repeat first | exact zfd.rf | refine zfd.wr0 ?_ | refine zfd.wr ?_ (by omega)) (by repeat first | exact zfs.rf | refine zfs.up0 ?_ rfl | refine zfs.up ?_ (by decide) rfl) rfl rfl rfl rfl (Int.le_refl _) (Or.inl rfl) (Or.inl rfl) (Or.inl rfl) (Or.inr ?_) (Or.inl rfl) (Or.inl rfl) (Or.inl rfl)
        simp only [zcx_wr]
        exact ⟨⟨rfl, rfl, rfl, rfl⟩, h1, h2, h3, ⟨Int.le_refl _, by show (0 : Int) ≤ 10; omega⟩, fun k hk => absurd (show (k : Int) < 0 from hk) (by omega)⟩
      · simp only [h3, not_false_iff, if_true]
        (first | exact KD.rf I | exact ⟨trivial, KD.rf I⟩ | exact ⟨rfl, KD.rf I⟩)
    · simp only [h2, not_false_iff, if_true]
      (first | exact KD.rf I | exact ⟨trivial, KD.rf I⟩ | exact ⟨rfl, KD.rf I⟩)
  · simp only [h1, not_false_iff, if_true]
    (first | exact KD.rf I | exact ⟨trivial, KD.rf I⟩ | exact ⟨rfl, KD.rf I⟩)
theorem k_month (I : IV X H s A B K ow) {a : Int} : wX (fH_month X a H) fun v H' => wX (gM_month a s) fun w s' => w = v ∧ KD X H H' s' := by
  have F := I.1
  obtain ⟨⟨p0, p1, p2, p3⟩, q1, q2, q3, q4, q5⟩ := I.2.1.2.2.2.2.2.1
  have p3' : zct H (X + 22) 3 = s 0 70 := p3
  unfold fH_month gM_month
  simp only [wX_s, wX_bd, wX_vl, wX_jn, wX_ite, wX_dv, wX_n0, wX_rb, wX_rc, wX_ry, wX_gi, wX_gr, wX_pi, wX_pz, wX_pr, wX_ai, wX_ab, wX_ar, wX_si, wX_sz, wX_sb, wX_sr, wX_ln, wX_nw, wX_na, wX_nm, wX_io, wX_ck, wX_cp, wX_cl, wX_ca, wX_sv, wX_sc, wX_rd, wX_wi, wX_wz, wX_wb, e_within, e_in, i01, ft0 F, fp0_14 F, fp22_4 F, ft22 F, ft23 F, fl23 F, zA10, zA7, true_and, p3', ztg_wr]
  by_cases h1 : 0 ≤ a ∧ a ≤ 999
  · simp only [h1, and_self, not_true, if_false]
    by_cases h2 : s 0 70 = 10
    · simp only [h2, if_true, show ¬ (10 : Int) < 10 by omega, if_false]
      (first | exact KD.rf I | exact ⟨trivial, KD.rf I⟩ | exact ⟨rfl, KD.rf I⟩)
    · have e : zadd (s 0 70) 1 = s 0 70 + 1 := zadd_e (by omega) (by omega)
      have f1 : (zct (zwr H (X + 23) (s 0 70).toNat a) X 14).toNat = X + 22 := by rw [zct_wr, if_neg (by omega)]; exact fp0_14 F
      have f2 : zct (zwr H (X + 23) (s 0 70).toNat a) (X + 22) 3 = s 0 70 := by rw [zct_wr, if_neg (by omega)]; exact p3'
      simp only [h2, show s 0 70 < 10 by omega, if_true, if_false, f1, f2, e, ft22 F, zA7, true_and]
      have f3 : (zct (zwr (zwr H (X + 23) (s 0 70).toNat a) (X + 22) 3 (s 0 70 + 1)) X 14).toNat = X + 22 := by rw [zct_wr, if_neg (by omega)]; exact f1
      have f4 : zct (zwr (zwr H (X + 23) (s 0 70).toNat a) (X + 22) 3 (s 0 70 + 1)) (X + 22) 3 = s 0 70 + 1 := by rw [zct_wr, if_pos ⟨rfl, rfl⟩]
      have f5 : zadd (zup s 71 (s 0 70).toNat a 0 70) 1 = s 0 70 + 1 := e
      simp only [f3, f4, f5, ft22 F, zA7, true_and]
      refine ⟨⟨by omega, by omega⟩, ⟨by omega, by omega⟩, by simp [zup], KD.fx (gs := [6]) I (by repeat first | exact zst.rf | apply zst.wr) rfl rfl (by repeat first | exact zfx.rf | refine zfx.wr0 ?_ rfl | refine zfx.wr ?_ rfl) (by repeat first | exact zfd.rf | refine zfd.wr0 ?_ | refine zfd.wr ?_ (by omega)) (by repeat first | exact zfs.rf | refine zfs.up0 ?_ rfl | refine zfs.up ?_ (by decide) rfl) rfl rfl rfl rfl (Int.le_refl _) (Or.inl rfl) (Or.inl rfl) (Or.inl rfl) (Or.inr ?_) (Or.inl rfl) (Or.inl rfl) (Or.inl rfl)⟩
      simp only [zcx_wr]
      refine ⟨⟨p0, p1, p2, rfl⟩, q1, q2, q3, ⟨by show 0 ≤ s 0 70 + 1; omega, by show s 0 70 + 1 ≤ 10; omega⟩, fun k hk => ?_⟩
      have hk' : (k : Int) < s 0 70 + 1 := hk
      by_cases e3 : k = (s 0 70).toNat
      · subst e3
        refine ⟨by simp [zup], ?_⟩
        simp only [zup, and_self, if_true, show ¬ (71 : Nat) = 0 by omega, false_and, if_false]
        exact h1
      · simp only [zup, e3, and_false, if_false, show ¬ (71 : Nat) = 0 by omega, show ¬ (23 : Nat) = 22 by omega, false_and]
        exact q5 k (by omega)
  · simp only [h1, not_false_iff, if_true]
    (first | exact KD.rf I | exact ⟨trivial, KD.rf I⟩ | exact ⟨rfl, KD.rf I⟩)
theorem k_count (I : IV X H s A B K ow) {a : Int} : wX (fH_count X a H) fun v H' => wX (gM_count a s) fun w s' => w = v ∧ KD X H H' s' := by
  have F := I.1
  have c0 : zct H X 0 = s 0 1 := I.2.1.1.1
  have c1 : zct H X 2 = s 0 8 := I.2.1.1.2.2.2.1
  have c2 : zct H X 4 = s 0 2 := I.2.1.2.2.2.2.2.2.2.2.2.1
  have c3 : zct H X 12 = s 0 44 := I.2.1.2.2.2.1.1
  have c4 : zct H X 10 = s 0 43 := I.2.1.2.2.1.1
  have c5 : zct H X 7 = s 0 24 := I.2.1.2.1.1
  have c6 : zct H (X + 12) 1 = s 0 65 := I.2.1.2.2.2.2.1.2.2.1
  have c7 : zct H (X + 22) 3 = s 0 70 := I.2.1.2.2.2.2.2.1.1.2.2.2
  have c8 : zct H X 19 = s 0 76 := I.2.1.2.2.2.2.2.2.2.1.1
  have R := KD.rf I
  unfold fH_count gM_count
  simp only [wX_s, wX_bd, wX_vl, wX_jn, wX_ite, wX_dv, wX_n0, wX_rb, wX_rc, wX_ry, wX_gi, wX_gr, wX_pi, wX_pz, wX_pr, wX_ai, wX_ab, wX_ar, wX_si, wX_sz, wX_sb, wX_sr, wX_ln, wX_nw, wX_na, wX_nm, wX_io, wX_ck, wX_cp, wX_cl, wX_ca, wX_sv, wX_sc, wX_rd, wX_wi, wX_wz, wX_wb, ft0 F, fp0_13 F, fp0_14 F, ft12 F, ft22 F, zA10, zA9, zA7, true_and, c0, c1, c2, c3, c4, c5, c6, c7, c8]
  by_cases h0 : a = 0
  · subst h0; simpa using R
  by_cases h1 : a = 1
  · subst h1; simpa using R
  by_cases h2 : a = 2
  · subst h2; simpa using R
  by_cases h3 : a = 3
  · subst h3; simpa using R
  by_cases h4 : a = 4
  · subst h4; simpa using R
  by_cases h5 : a = 5
  · subst h5; simpa using R
  by_cases h6 : a = 6
  · subst h6; simpa using R
  by_cases h7 : a = 7
  · subst h7; simpa using R
  by_cases h8 : a = 8
  · subst h8; simpa using R
  simp only [h0, h1, h2, h3, h4, h5, h6, h7, h8, if_false]
  (first | exact KD.rf I | exact ⟨trivial, KD.rf I⟩ | exact ⟨rfl, KD.rf I⟩)
theorem k_trace (I : IV X H s A B K ow) {a : Int} : wX (fH_trace X a H) fun v H' => wX (gM_trace a s) fun w s' => w = v ∧ KD X H H' s' := by
  have F := I.1
  obtain ⟨q1, q2, q3, q4⟩ := I.2.1.2.2.2.2.2.2.2.1
  have q1' : zct H X 19 = s 0 76 := q1
  have e : zsub (zmin (s 0 76) 20) 1 = zmin (s 0 76) 20 - 1 := zsub_e (by unfold zmin; split <;> omega) (by unfold zmin; split <;> omega)
  unfold fH_trace gM_trace
  simp only [wX_s, wX_bd, wX_vl, wX_jn, wX_ite, wX_dv, wX_n0, wX_rb, wX_rc, wX_ry, wX_gi, wX_gr, wX_pi, wX_pz, wX_pr, wX_ai, wX_ab, wX_ar, wX_si, wX_sz, wX_sb, wX_sr, wX_ln, wX_nw, wX_na, wX_nm, wX_io, wX_ck, wX_cp, wX_cl, wX_ca, wX_sv, wX_sc, wX_rd, wX_wi, wX_wz, wX_wb, e_within, i01, ft0 F, fp0_18 F, ft36 F, fl36 F, zA10, true_and, q1', e]
  by_cases h : 0 ≤ a ∧ a ≤ zmin (s 0 76) 20 - 1
  · have h' : 0 ≤ a ∧ a < s 0 76 ∧ a < 20 := by unfold zmin at h; split at h <;> omega
    have q5 : zct H (X + 36) a.toNat = s 77 a.toNat := q4 a.toNat (by omega) (by omega)
    simp only [h, not_true, if_false, and_self, show ¬ a < 0 by omega, show a < s 0 76 by omega, show a < 20 by omega, if_true, q5, true_or, true_and]
    exact ⟨by omega, by omega, KD.rf I⟩
  · have h' : ¬ (0 ≤ a ∧ a < s 0 76 ∧ a < 20) := by unfold zmin at h; split at h <;> omega
    simp only [h, not_false_iff, if_true]
    repeat' split
    all_goals first
      | (first | exact KD.rf I | exact ⟨trivial, KD.rf I⟩ | exact ⟨rfl, KD.rf I⟩)
      | (exfalso; omega)
end SIMPLE
