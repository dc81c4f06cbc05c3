section STANDS
variable {X : Nat} {H H' : zHp} {s : zSg} {A : Nat → Nat} {B : Nat → Nat → Nat} {K : Nat → Nat} {ow : Nat → Nat × Nat} {t : Nat}
theorem SI.s64 (si : SI s) (ht : (t : Int) < s 0 2) {v : Int} (hv : 0 ≤ v ∧ v ≤ 5) : SI (zup s 64 t v) := by
  obtain ⟨k1, k2, k3, k4⟩ := si
  have e64 : ∀ j, zup s 64 t v 64 j = if j = t then v else s 64 j := fun j => by simp [zup]
  have eo : ∀ k, k ≠ 64 → zup s 64 t v k = s k := fun k h1 => funext fun j => by simp [zup, h1]
  generalize zup s 64 t v = s' at *
  unfold SI
  rw [eo 0 (by omega), eo 3 (by omega), eo 29 (by omega), eo 14 (by omega), eo 25 (by omega)]
  refine ⟨fun u hu => ?_, fun u h1 h2 => ?_, k3, k4⟩
  · obtain ⟨q0, q1, q2, q3, q4, q5⟩ := k1 u hu
    unfold SIt SIs SIp SIl SIe SIr BI
    rw [eo 0 (by omega), eo 3 (by omega), eo 4 (by omega), eo 5 (by omega), eo 6 (by omega), eo 7 (by omega), eo 10 (by omega), eo 11 (by omega), eo 12 (by omega), eo 13 (by omega), eo 14 (by omega), eo 20 (by omega), eo 21 (by omega), eo 22 (by omega), eo 23 (by omega), eo 26 (by omega), eo 27 (by omega), eo 28 (by omega), eo 29 (by omega), eo 30 (by omega), eo 31 (by omega), eo 32 (by omega), eo 75 (by omega), e64]
    refine ⟨q0, q1, fun w => ?_, q3, q4, q5⟩
    obtain ⟨p1, p2, p3, p4, p5⟩ := q2 w
    refine ⟨p1, p2, p3, p4, ?_⟩
    split
    · exact hv
    · exact p5
  · obtain ⟨p1, p2, p3⟩ := k2 u h1 h2
    unfold SIn
    rw [eo 14 (by omega), eo 75 (by omega), eo 29 (by omega), e64, if_neg (by omega)]
    exact ⟨p1, p2, p3⟩
theorem IV.s64 (I : IV X H s A B K ow) (ht : (t : Int) < s 0 2) (hk : s 3 t = 2 ∨ s 3 t = 5) {v : Int} (hv : 0 ≤ v ∧ v ≤ 5) : IV X (zwr H (A t) 5 v) (zup s 64 t v) A B K ow := by
  have hn := I.n
  have e64 : ∀ j, zup s 64 t v 64 j = if j = t then v else s 64 j := fun j => by simp [zup]
  have eo : ∀ k, k ≠ 64 → zup s 64 t v k = s k := fun k h1 => funext fun j => by simp [zup, h1]
  have si := I.2.2.2.2.1.s64 ht hv
  have to := (I.to ht).2.1 hk
  have h1 : zst H (zwr H (A t) 5 v) := zst.rf.wr _ _ _
  have hx : ∀ a k, a ≠ A t → zct (zwr H (A t) 5 v) a k = zct H a k := fun a k h => by rw [zct_wr, if_neg (fun w => h w.1)]
  have hr : ∀ k, zct (zwr H (A t) 5 v) (A t) k = if k = 5 then v else zct H (A t) k := fun k => by
    rw [zct_wr]
    by_cases e : k = 5
    · rw [if_pos ⟨rfl, e⟩, if_pos e]
    · rw [if_neg (fun w => e w.2), if_neg e]
  generalize zup s 64 t v = s' at *
  generalize zwr H (A t) 5 v = H' at *
  obtain ⟨m0, ⟨a0, a1, a2, a3, a4, a5, a6, a7⟩, b⟩ := to
  refine I.ch (gs := []) (t := t) h1 ?_ ?_ ?_ (fun u hu _ => ?_) (by rw [eo 0 (by omega)]) (eo 3 (by omega)) (eo 4 (by omega)) (eo 26 (by omega)) (eo 27 (by omega)) (eo 28 (by omega)) (eo 29 (by omega)) (fun _ _ _ => rfl) (fun _ _ => rfl) ?_ ?_ si rfl rfl rfl rfl rfl rfl rfl rfl rfl rfl (Or.inl rfl) (by omega)
  · intro o k ho _
    have := m0.1
    exact hx _ _ (by omega)
  · refine zfd.of fun a k ha hp => hx a k (fun e => hp ?_)
    rw [e]; exact ⟨m0.1, by rw [m0.2.2]⟩
  · intro k j hkj
    have : k ≠ 64 := by
      rintro rfl; cases (show true = false from hkj)
    rw [eo k this]
  · refine ⟨fun k hk => ?_, fun v hv => ⟨by rw [eo 14 (by omega)], by rw [eo 75 (by omega)]⟩, fun j hj => by rw [eo 23 (by omega)], fun k hk j hj => by rw [eo k (by omega)], fun k hk j hj => by rw [eo k (by omega)], fun k hk j hj => by rw [eo k (by omega)]⟩
    by_cases e : k = 64
    · subst e; rw [e64, if_neg hu]
    · rw [eo k e]
  · have k3 : s' 3 t = s 3 t := by rw [eo 3 (by omega)]
    refine ⟨fun w => ?_, fun w => ?_, fun w => ?_, fun w => ?_, fun w => ?_⟩
    · rw [k3] at w; omega
    · unfold TOp
      rw [eo 3 (by omega), eo 4 (by omega), eo 5 (by omega), eo 6 (by omega), e64, if_pos rfl]
      simp only [hr, (h1.2.2 _ m0.2.1).1]
      exact ⟨m0.fr h1 (fun _ _ => rfl), ⟨a0, a1, a2, a3, a4, a5, rfl, a7⟩, b.fc h1 (hx _ _ (b.1.ne m0 (Or.inl (by omega)))) (fun _ _ => rfl)⟩
    · rw [k3] at w; omega
    · rw [k3] at w; omega
    · rw [k3] at w; omega
  · intro w
    rw [eo 3 (by omega)] at w
    omega
theorem k_stands (I : IV X H s A B K ow) {t v : Int} : wX (fH_stands X t v H) fun x H' => wX (gM_stands t v s) fun w s' => w = x ∧ KD X H H' s' := by
  have F := I.1
  have hn := I.n
  unfold fH_stands gM_stands
  simp only [wX_s, wX_bd, wX_vl, wX_jn, wX_ite, wX_dv, wX_n0, wX_rb, wX_rc, wX_ry, wX_gi, wX_gr, wX_pi, wX_pz, wX_pr, wX_ai, wX_ab, wX_ar, wX_si, wX_sz, wX_sb, wX_sr, wX_ln, wX_nw, wX_na, wX_nm, wX_io, wX_ck, wX_cp, wX_cl, wX_ca, wX_sv, wX_sc, wX_rd, wX_wi, wX_wz, wX_wb, e_thingAt I, mi_isThing I, e_isTown, m_isTown, e_setAt I, i01, ft0 F, zA10, true_and]
  by_cases h : 0 ≤ t ∧ t ≤ s 0 2 - 1
  · have ht : ((t.toNat : Nat) : Int) < s 0 2 := by omega
    have hp := I.pos ht
    have hb0 : 0 ≤ t ∧ t < ((60 : Nat) : Int) := by omega
    simp only [h, and_self, true_and, if_true, not_true, if_false, show ¬ A t.toNat = 0 by omega, hb0]
    by_cases h2 : 0 ≤ v ∧ v ≤ 5
    · simp only [h2, and_self, not_true, if_false]
      by_cases hk : s 3 t.toNat = 5
      · have g5 := I.tg ht (c := 5) (tgk_5.mpr (Or.inr hk))
        have a5 := ((I.to ht).2.1 (Or.inr hk)).2.1.2.2.2.2.2.2.1
        simp only [hk, if_true, show ¬ A t.toNat = 0 by omega, if_false, g5, a5, true_and]
        (repeat first | exact (⟨zst.rf.wr _ _ _, by show znx H ≤ znx H + 300; omega, by show zus H ≤ zus H + 4000; omega, fun a _ ha k => by rw [zct_wr, if_neg (by omega)], _, _, _, _, I.s64 ht (Or.inr hk) h2⟩) | refine ⟨by omega, ?_⟩)
      · simp only [hk, if_false, if_true]
        (first | exact KD.rf I | exact ⟨trivial, KD.rf I⟩ | exact ⟨rfl, KD.rf I⟩)
    · simp only [h2, not_false_iff, if_true]
      (first | exact KD.rf I | exact ⟨trivial, KD.rf I⟩ | exact ⟨rfl, KD.rf I⟩)
  · simp only [h, false_and, if_false, if_true, not_false_iff]
    (first | exact KD.rf I | exact ⟨trivial, KD.rf I⟩ | exact ⟨rfl, KD.rf I⟩)
end STANDS
