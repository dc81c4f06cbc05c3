/-! MORE OF TAPES; ways, asks -/
section MORE
variable {X : Nat} {H : zHp} {s : zSg} {A : Nat → Nat} {B : Nat → Nat → Nat} {K : Nat → Nat} {ow : Nat → Nat × Nat}
theorem e_asItem {so v : Int} : fH_asItem so v H = some (if so = 0 then zi2b v else if so = 1 then zi2s v else if so = 2 then v else if so = 3 then (if v = 0 then 0 else 1) else v, H) := by
  unfold fH_asItem
  repeat' split
  all_goals rfl
/-- one item of a tape changes on both sides -/
theorem G7.put (q : G7 (zcx X H) s) {t i : Nat} {v : Int} (ht : t < 6) (hi : i < 60) (hv : zR32 v) (hs : s 78 t = 1 → -32768 ≤ v ∧ v < 32768) : G7 (zup (zcx X H) (28 + t) i v) (zup s 80 (60 * t + i) v) := by
  intro u hu
  obtain ⟨⟨a1, a2, a3⟩, ⟨g1, g2⟩, g5⟩ := q u hu
  have e78 : ∀ j, zup s 80 (60 * t + i) v 78 j = s 78 j := fun j => by simp [zup]
  have e79 : ∀ j, zup s 80 (60 * t + i) v 79 j = s 79 j := fun j => by simp [zup]
  have c34 : zup (zcx X H) (28 + t) i v 34 u = zcx X H 34 u := by unfold zup; rw [if_neg (by omega)]
  have c35 : zup (zcx X H) (28 + t) i v 35 u = zcx X H 35 u := by unfold zup; rw [if_neg (by omega)]
  rw [c34, c35, e78, e79]
  refine ⟨⟨a1, a2, a3⟩, ⟨g1, g2⟩, fun j hj => ?_⟩
  by_cases e : u = t ∧ j = i
  · obtain ⟨rfl, rfl⟩ := e
    have h1 : zup (zcx X H) (28 + u) j v (28 + u) j = v := by simp [zup]
    have h2 : zup s 80 (60 * u + j) v 80 (60 * u + j) = v := by simp [zup]
    rw [h1, h2]
    exact ⟨rfl, hv, hs⟩
  · have h1 : zup (zcx X H) (28 + t) i v (28 + u) j = zcx X H (28 + u) j := by unfold zup; rw [if_neg (by omega)]
    have h2 : zup s 80 (60 * t + i) v 80 (60 * u + j) = s 80 (60 * u + j) := by unfold zup; rw [if_neg (by omega)]
    rw [h1, h2]
    exact g5 j hj
theorem zfx.wr28 {gs : List Nat} {H1 : zHp} (h : zfx X gs H H1) {t k : Nat} {v : Int} (ht : t < 6) (ho : gs.contains 7 = true) : zfx X gs H (zwr H1 (X + (28 + t)) k v) := h.wr (by rw [xg7 t ht]; exact ho)
theorem k_item (I : IV X H s A B K ow) {t i a : Int} (hi : zR32 i) (ha : zR32 a) : wX (fH_item X t i a H) fun v H' => wX (gM_item t i a s) fun w s' => w = v ∧ KD X H H' s' := by
  have F := I.1
  have q := I.2.1.2.2.2.2.2.2.1
  have h1 := hi.1
  have h2 := hi.2
  unfold fH_item gM_item
  simp only [wX_s, wX_bd, wX_vl, wX_jn, wX_ite, wX_dv, wX_n0, wX_rb, wX_rc, wX_ry, wX_gi, wX_gr, wX_pi, wX_pz, wX_pr, wX_ai, wX_ab, wX_ar, wX_si, wX_sz, wX_sb, wX_sr, wX_ln, wX_nw, wX_na, wX_nm, wX_io, wX_ck, wX_cp, wX_cl, wX_ca, wX_sv, wX_sc, wX_rd, wX_wi, wX_wz, wX_wb, e_isTape, m_isTape, e_in, i01, ft0 F, fp0_15 F, fp0_16 F, ft27 F, fl27 F, ft34 F, fl34 F, zA10, true_and, zi2l_e hi, e_hasStretch I (t := t) (f := i) (n := 1) ⟨by omega, by omega⟩ ⟨by omega, by omega⟩, e_asItem]
  by_cases ht : 0 ≤ t ∧ t ≤ 5
  · obtain ⟨⟨a1, a2, a3⟩, ⟨g1, g2, g3, g4⟩, g5⟩ := q t.toNat (by omega)
    have a1' : zct H (X + 34) t.toNat = s 78 t.toNat := a1
    have e1 : zsub (s 79 t.toNat) 1 = s 79 t.toNat - 1 := zsub_e (by omega) (by omega)
    simp only [ht, and_self, not_true, if_false, e1, true_and, true_or, a1']
    refine ⟨by omega, ?_⟩
    by_cases h0 : s 78 t.toNat = -1
    · simp only [h0, if_true, show (-1 : Int) < 0 by omega]
      (repeat first | exact (KD.rf I) | refine ⟨by omega, ?_⟩)
    · simp only [h0, if_false, show ¬ s 78 t.toNat < 0 by omega]
      by_cases h3 : 0 ≤ i ∧ i ≤ s 79 t.toNat - 1
      · have e2 : zadd (zmul 60 t) i = ((60 * t.toNat + i.toNat : Nat) : Int) := by rw [zmul_e (by omega) (by omega), zadd_e (by omega) (by omega)]; omega
        have key : ∀ v : Int, zR32 v → (s 78 t.toNat = 1 → -32768 ≤ v ∧ v < 32768) → KD X H (zwr H (X + (28 + t.toNat)) i.toNat v) (zup s 80 (60 * t.toNat + i.toNat) v) := fun v hv hs => by
          refine KD.fx (gs := [7]) I (zst.rf.wr _ _ _) rfl rfl (zfx.rf.wr28 (by omega) rfl) (zfd.rf.wr (by omega)) (by repeat first | exact zfs.rf | refine zfs.up0 ?_ rfl | refine zfs.up ?_ (by decide) rfl) rfl rfl rfl rfl (Int.le_refl _) (Or.inl rfl) (Or.inl rfl) (Or.inl rfl) (Or.inl rfl) (Or.inr ?_) (Or.inl rfl) (Or.inl rfl)
          rw [zcx_wr]
          exact q.put (by omega) (by omega) hv hs
        simp only [h3, show (0 : Int) ≤ 1 by omega, show i + 1 ≤ s 79 t.toNat by omega, and_self, not_true, if_false, fp27 F (show t.toNat < 6 by omega), (ft28v F (show t.toNat < 6 by omega)).1, (ft28v F (show t.toNat < 6 by omega)).2, e2, Int.toNat_natCast, true_and]
        repeat refine ⟨by omega, ?_⟩
        by_cases s0 : s 78 t.toNat = 0
        · simp only [s0, if_true]
          (repeat first | exact (key _ (zr_byte a) (fun w => absurd w (by omega))) | refine ⟨by omega, ?_⟩)
        by_cases s1 : s 78 t.toNat = 1
        · have := zi2s_r a
          simp only [s0, s1, if_true, if_false, show ¬ (1 : Int) = 0 by omega]
          (repeat first | exact (key _ ⟨by omega, by omega⟩ (fun _ => this)) | refine ⟨by omega, ?_⟩)
        by_cases s2 : s 78 t.toNat = 2
        · simp only [s0, s1, s2, if_true, if_false, show ¬ (2 : Int) = 0 by omega, show ¬ (2 : Int) = 1 by omega]
          (repeat first | exact (key _ ha (fun w => absurd w (by omega))) | refine ⟨by omega, ?_⟩)
        have s3 : s 78 t.toNat = 3 := by omega
        by_cases hz : a = 0
        · simp only [s0, s1, s2, hz, s3, if_true, if_false, show ¬ (3 : Int) = 0 by omega, show ¬ (3 : Int) = 1 by omega, show ¬ (3 : Int) = 2 by omega]
          (repeat first | exact (key _ ⟨by omega, by omega⟩ (fun w => absurd w (by omega))) | refine ⟨by omega, ?_⟩)
        · simp only [s0, s1, s2, hz, s3, if_true, if_false, show ¬ (3 : Int) = 0 by omega, show ¬ (3 : Int) = 1 by omega, show ¬ (3 : Int) = 2 by omega]
          (repeat first | exact (key _ ⟨by omega, by omega⟩ (fun w => absurd w (by omega))) | refine ⟨by omega, ?_⟩)
      · have hb : ¬ (0 ≤ i ∧ 0 ≤ (1 : Int) ∧ i + 1 ≤ s 79 t.toNat) := by omega
        simp only [h3, hb, not_false_iff, if_true]
        (repeat first | exact (KD.rf I) | refine ⟨by omega, ?_⟩)
  · simp only [ht, not_false_iff, if_true]
    (first | exact KD.rf I | exact ⟨trivial, KD.rf I⟩ | exact ⟨rfl, KD.rf I⟩)
theorem k_way (I : IV X H s A B K ow) {a b c : Int} : wX (fH_way X a b c H) fun v H' => wX (gM_way a b c s) fun w s' => w = v ∧ KD X H H' s' := by
  have F := I.1
  obtain ⟨q1, q2, q3, q4, q5, q6, q7, q8⟩ := I.2.1.2.2.2.2.1
  unfold fH_way gM_way fTour_changeWay fTour_wayBetween
  simp only [wX_s, wX_bd, wX_vl, wX_jn, wX_ite, wX_dv, wX_n0, wX_rb, wX_rc, wX_ry, wX_gi, wX_gr, wX_pi, wX_pz, wX_pr, wX_ai, wX_ab, wX_ar, wX_si, wX_sz, wX_sb, wX_sr, wX_ln, wX_nw, wX_na, wX_nm, wX_io, wX_ck, wX_cp, wX_cl, wX_ca, wX_sv, wX_sc, wX_rd, wX_wi, wX_wz, wX_wb, e_isTown, m_isTown, e_within, e_in, i01, ft0 F, fp0_13 F, ft12 F, zA10, zA9, true_and, fp12_0 F, ft13 F, fl13 F, true_or, ztg_wr, zln_wr]
  by_cases ha : 0 ≤ a ∧ a ≤ 5
  · by_cases hb : 0 ≤ b ∧ b ≤ 5
    · simp only [ha, hb, and_self, not_true, if_false]
      by_cases hab : a = b
      · simp only [hab, if_true]
        (first | exact KD.rf I | exact ⟨trivial, KD.rf I⟩ | exact ⟨rfl, KD.rf I⟩)
      · simp only [hab, if_false]
        by_cases hc : 0 ≤ c ∧ c ≤ 99
        · have e1 : zadd (zmul a 6) b = ((6 * a.toNat + b.toNat : Nat) : Int) := by rw [zmul_e (by omega) (by omega), zadd_e (by omega) (by omega)]; omega
          have e2 : zadd (zmul b 6) a = ((6 * b.toNat + a.toNat : Nat) : Int) := by rw [zmul_e (by omega) (by omega), zadd_e (by omega) (by omega)]; omega
          have e3 : zadd (zmul 6 a) b = ((6 * a.toNat + b.toNat : Nat) : Int) := by rw [zmul_e (by omega) (by omega), zadd_e (by omega) (by omega)]; omega
          have e4 : zadd (zmul 6 b) a = ((6 * b.toNat + a.toNat : Nat) : Int) := by rw [zmul_e (by omega) (by omega), zadd_e (by omega) (by omega)]; omega
          obtain ⟨w1, w2, w3⟩ := q1 (6 * a.toNat + b.toNat) (by omega)
          have w1' : zct H (X + 13) (6 * a.toNat + b.toNat) = s 63 (6 * a.toNat + b.toNat) := w1
          have f1 : (zct (zwr H (X + 13) (6 * a.toNat + b.toNat) c) (X + 12) 0).toNat = X + 13 := by rw [zct_wr, if_neg (by omega)]; exact fp12_0 F
          simp only [hc, and_self, not_true, if_false, e1, e2, e3, e4, Int.toNat_natCast, w1', f1, ft13 F, fl13 F, true_and, fp12_0 F]
          repeat refine ⟨by omega, ?_⟩
          refine KD.fx (gs := [5]) I (by repeat first | exact zst.rf | apply zst.wr) rfl rfl (by repeat first | exact zfx.rf | refine zfx.wr0 ?_ rfl | refine zfx.wr ?_ rfl) (by repeat first | exact zfd.rf | refine zfd.wr0 ?_ | refine zfd.wr ?_ (by omega)) (by repeat first | exact zfs.rf | refine zfs.up0 ?_ rfl | refine zfs.up ?_ (by decide) rfl) rfl rfl rfl rfl (Int.le_refl _) (Or.inl rfl) (Or.inl rfl) (Or.inr ?_) (Or.inl rfl) (Or.inl rfl) (Or.inl rfl) (Or.inl rfl)
          simp only [zcx_wr]
          refine ⟨fun i hi => ?_, fun i hi => ?_, q3, q4, q5, q6, q7, q8⟩
          · simp only [zup, true_and]
            by_cases z1 : i = 6 * b.toNat + a.toNat
            · rw [if_pos z1, if_pos z1]; exact ⟨rfl, hc⟩
            · rw [if_neg z1, if_neg z1]
              by_cases z2 : i = 6 * a.toNat + b.toNat
              · rw [if_pos z2, if_pos z2]; exact ⟨rfl, hc⟩
              · rw [if_neg z2, if_neg z2]; exact q1 i hi
          · simp only [zup, true_and]
            rw [if_neg (by omega), if_neg (by omega)]
            exact q2 i hi
        · simp only [hc, not_false_iff, if_true]
          (first | exact KD.rf I | exact ⟨trivial, KD.rf I⟩ | exact ⟨rfl, KD.rf I⟩)
    · simp only [ha, hb, and_self, not_true, not_false_iff, if_true, if_false]
      (first | exact KD.rf I | exact ⟨trivial, KD.rf I⟩ | exact ⟨rfl, KD.rf I⟩)
  · simp only [ha, not_false_iff, if_true]
    (first | exact KD.rf I | exact ⟨trivial, KD.rf I⟩ | exact ⟨rfl, KD.rf I⟩)
end MORE
