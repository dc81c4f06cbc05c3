section ACT3
variable {X : Nat} {H : zHp} {s : zSg} {A : Nat → Nat} {B : Nat → Nat → Nat} {K : Nat → Nat} {ow : Nat → Nat × Nat} {E : Nat → Nat}
theorem KD.lr (I : IV X H s A B K ow) {H' : zHp} {s' : zSg} {c : Nat} (L : LR X (zwr H X 19 0) H' (zup s 0 76 0) s' c) : KD X H H' s' := by
  have F := I.1
  have hX := F.2.1.1
  obtain ⟨l1, l2, l3, l4, l5, l6, l7, l8, l9⟩ := L
  have oo : ∀ q i, ¬ (q = X ∧ i = 19) → q ≠ X + 36 → zct H' q i = zct H q i := fun q i a1 a2 => by rw [l4 q i a1 a2, zct_wr, if_neg a1]
  have so : ∀ r j, r ≠ 77 → ¬ (r = 0 ∧ j = 76) → s' r j = s r j := fun r j a1 a2 => by rw [l5 r j a1 a2]; simp [zup, a2]
  have st : zst H H' := (zst.rf.wr X 19 0).tr l1
  have zf : zfs [8] s s' := fun k j hkj => by
    refine so k j (fun w => ?_) (fun w => ?_)
    · subst w; cases (show true = false from hkj)
    · obtain ⟨w1, w2⟩ := w
      subst w1; subst w2; cases (show true = false from hkj)
  refine KD.fx (gs := [8]) I st l2 l3 (fun o k a1 a2 => oo _ _ (fun w => ?_) (fun w => ?_)) (fun q a1 a2 _ k => oo _ _ (by omega) (by omega)) zf rfl rfl rfl rfl (by rw [so 0 8 (by omega) (by omega)]; exact Int.le_refl _) (Or.inl rfl) (Or.inl rfl) (Or.inl rfl) (Or.inl rfl) (Or.inl rfl) (Or.inr ?_) (Or.inl rfl)
  · have : o = 0 := by omega
    subst this
    rw [w.2] at a2
    cases (show true = false from a2)
  · have : o = 36 := by omega
    subst this
    cases (show true = false from a2)
  · refine ⟨?_, by omega, by omega, fun i h1 h2 => ?_⟩
    · show zct H' X 19 = _
      rw [l6, l7]
    · exact l9 i h1 (by omega)
theorem k_act (I : IV X H s A B K ow) (ek : EK X H E) (bk : BK X H E) {t w x : Int} : wX (fH_act E X t w x H) fun v H' => wX (gM_act t w x s) fun v' s' => v' = v ∧ KD X H H' s' := by
  have F := I.1
  have hn := I.n
  have hX := F.2.1.1
  have L0 : LR X (zwr H X 19 0) (zwr H X 19 0) (zup s 0 76 0) (zup s 0 76 0) 0 := ⟨zst.rf, rfl, rfl, fun _ _ _ _ => rfl, fun _ _ _ _ => rfl, by rw [zct_wr, if_pos ⟨rfl, rfl⟩]; rfl, rfl, by omega, fun i _ h => absurd h (by omega)⟩
  obtain ⟨A', B', K', ow', I'⟩ := (KD.lr I L0).2.2.2.2
  have kd0 := KD.lr I L0
  have n2 : zup s 0 76 0 0 2 = s 0 2 := rfl
  unfold fH_act gM_act
  have ek' : EK X (zwr H X 19 0) E := by
    obtain ⟨⟨a1, a2⟩, b, c0, c1, c2, c3, c4, c5, c6, c7⟩ := ek
    refine ⟨⟨a1, a2⟩, b, ?_, ?_, ?_, ?_, ?_, ?_, ?_, ?_⟩
    all_goals
      rw [zct_wr, if_neg (by omega)]
      assumption
  have bk' : BK X (zwr H X 19 0) E := by
    obtain ⟨⟨a1, a2⟩, b, c0⟩ := bk
    exact ⟨⟨a1, a2⟩, b, fun i hi => by rw [zct_wr, if_neg (by omega)]; exact c0 i hi⟩
  simp only [wX_s, wX_bd, wX_vl, wX_jn, wX_ite, wX_dv, wX_n0, wX_rb, wX_rc, wX_ry, wX_gi, wX_gr, wX_pi, wX_pz, wX_pr, wX_ai, wX_ab, wX_ar, wX_si, wX_sz, wX_sb, wX_sr, wX_ln, wX_nw, wX_na, wX_nm, wX_io, wX_ck, wX_cp, wX_cl, wX_ca, wX_sv, wX_sc, wX_rd, wX_wi, wX_wz, wX_wb, ft0 F, zA10, true_and, e_thingAt I', mi_isThing I', ft0 I'.1, e_within, e_in, i01, n2]
  by_cases h : 0 ≤ t ∧ t ≤ s 0 2 - 1
  · have ht : ((t.toNat : Nat) : Int) < s 0 2 := by omega
    have et : ((t.toNat : Nat) : Int) = t := by omega
    have hp := I'.pos ht
    obtain ⟨m0, hg, h0, h1⟩ := I'.hd ht
    have hk := (I'.st ht).1
    have g20 : zisA 20 (ztg (zwr H X 19 0) (A' t.toNat)) = true := by rw [hg]; exact tgk_20
    simp only [h, and_self, if_true, show ¬ A' t.toNat = 0 by omega, if_false, not_true]
    by_cases h2 : 0 ≤ w ∧ w ≤ 2
    · simp only [h2, and_self, not_true, if_false, g20, true_and, h0]
      rcases (show w = 0 ∨ w = 1 ∨ w = 2 by omega) with rfl | rfl | rfl
      · obtain ⟨v, H2, s2, c2, q1, q2, q3, q4⟩ := sim_holds I'.1 ek' bk' hp.1 m0.2.1 g20 h1 (by omega) rfl hk 14 x 0 _ _ 0 (by omega) (by omega) (by omega) L0 (by omega)
        rw [et] at q2
        simp only [q1, q2, wX_s, if_true]
        (first | exact (KD.lr I q3) | exact ⟨trivial, (KD.lr I q3)⟩ | exact ⟨rfl, (KD.lr I q3)⟩ | (refine ⟨by omega, ?_⟩; exact (KD.lr I q3)))
      · obtain ⟨v, H2, s2, c2, q1, q2, q3, q4⟩ := sim_turns I'.1 ek' bk' hp.1 m0.2.1 g20 h0 h1 (by omega) rfl hk 14 x 0 _ _ 0 (by omega) (by omega) (by omega) L0 (by omega)
        rw [et] at q2
        simp only [q1, q2, wX_s, if_true, Int.reduceEq, if_false]
        (first | exact (KD.lr I q3) | exact ⟨trivial, (KD.lr I q3)⟩ | exact ⟨rfl, (KD.lr I q3)⟩ | (refine ⟨by omega, ?_⟩; exact (KD.lr I q3)))
      · obtain ⟨v, H2, s2, c2, q1, q2, q3, q4⟩ := sim_earns I'.1 ek' bk' hp.1 m0.2.1 g20 h0 h1 (by omega) rfl hk 14 x 0 _ _ 0 (by omega) (by omega) (by omega) L0 (by omega)
        rw [et] at q2
        simp only [q1, q2, wX_s, if_true, Int.reduceEq, if_false]
        (first | exact (KD.lr I q3) | exact ⟨trivial, (KD.lr I q3)⟩ | exact ⟨rfl, (KD.lr I q3)⟩ | (refine ⟨by omega, ?_⟩; exact (KD.lr I q3)))
    · simp only [h2, not_false_iff, if_true]
      (first | exact (kd0) | exact ⟨trivial, (kd0)⟩ | exact ⟨rfl, (kd0)⟩ | (refine ⟨by omega, ?_⟩; exact (kd0)))
  · simp only [h, if_false, if_true, not_false_iff]
    (first | exact (kd0) | exact ⟨trivial, (kd0)⟩ | exact ⟨rfl, (kd0)⟩ | (refine ⟨by omega, ?_⟩; exact (kd0)))
end ACT3
