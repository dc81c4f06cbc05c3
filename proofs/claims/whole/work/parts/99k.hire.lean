section HIRE6
variable {X : Nat} {H : zHp} {s : zSg} {A : Nat → Nat} {B : Nat → Nat → Nat} {K : Nat → Nat} {ow : Nat → Nat × Nat} {n : Nat} {o : Nat → Nat}
theorem IV.x12 {H' : zHp} {s' : zSg} {g : Nat} (hg : g = 12 ∨ g = 13) (I : IV X H s A B K ow) (h1 : zst H H') (h2 : zfx X [g] H H') (h3 : zfd X (fun _ => False) H H') (h4 : zfs [g] s s') : IV X H' s' A B K ow := by
  rcases hg with e | e <;> subst e <;>
  exact I.fr h1 h2 (fun a h5 h6 _ k => h3 a h5 h6 (fun q => q) k) h4 rfl rfl rfl rfl (by rw [h4 0 8 rfl]; exact Int.le_refl _) (Or.inl rfl) (Or.inl rfl) (Or.inl rfl) (Or.inl rfl) (Or.inl rfl) (Or.inl rfl) (Or.inl rfl)
theorem KD.x12 {H' : zHp} {s' : zSg} {g : Nat} (hg : g = 12 ∨ g = 13) (I : IV X H s A B K ow) (k : KE X [g] H H' s s') : KD X H H' s' := by
  have F := I.1.2.1.1
  exact ⟨k.1, by rw [k.2.1]; omega, by rw [k.2.2.1]; omega, fun a h1 h2 j => k.2.2.2.2.1 a h1 (by omega) (fun q => q) j, A, B, K, ow, I.x12 hg k.1 k.2.2.2.1 k.2.2.2.2.1 k.2.2.2.2.2⟩
theorem IV.hire (I : IV X H s A B K ow) : ∃ n o, HY s n o ∧ HC X H s n o := by
  have g := I.2.1.2.2.2.2.1
  obtain ⟨q1, q2, q3, q4, q5, q6, q7, q8⟩ := g
  refine ⟨(s 0 65).toNat, fun p => (zcx X H 18 p).toNat, ⟨by omega, by omega, fun j hj => ?_, fun i hi => (q1 i hi).2, fun p hp => ?_, fun p q hp hq => ?_⟩, I.1, ?_, fun i hi => (q1 i hi).1, fun k hk => (q6 k (by omega)).1, fun p hp => ?_⟩
  · exact (q6 j (by omega)).2
  · have := q7 p (by omega)
    show (zcx X H 18 p).toNat < _
    omega
  · have := q8 p q hp (by omega)
    have a := q7 p (by omega)
    have b := q7 q (by omega)
    show s 67 (zcx X H 18 p).toNat < s 67 (zcx X H 18 q).toNat ∨ (s 67 (zcx X H 18 p).toNat = s 67 (zcx X H 18 q).toNat ∧ (zcx X H 18 p).toNat < (zcx X H 18 q).toNat)
    omega
  · have : zct H (X + 12) 1 = s 0 65 := q3
    omega
  · have a := q7 p (by omega)
    show zcx X H 18 p = (((zcx X H 18 p).toNat : Nat) : Int)
    omega
set_option maxRecDepth 100000 in
theorem k_hire (I : IV X H s A B K ow) {t u : Int} : wX (fH_hire X t u H) fun x H' => wX (gM_hire t u s) fun y s' => y = x ∧ KD X H H' s' := by
  have F := I.1
  have hn := I.n
  unfold fH_hire gM_hire
  simp only [wX_s, wX_bd, wX_vl, wX_jn, wX_ite, wX_dv, wX_n0, wX_rb, wX_rc, wX_ry, wX_gi, wX_gr, wX_pi, wX_pz, wX_pr, wX_ai, wX_ab, wX_ar, wX_si, wX_sz, wX_sb, wX_sr, wX_ln, wX_nw, wX_na, wX_nm, wX_io, wX_ck, wX_cp, wX_cl, wX_ca, wX_sv, wX_sc, wX_rd, wX_wi, wX_wz, wX_wb, e_thingAt I, mi_isThing I, e_setAt I, e_in, e_within, i01, ft0 F, zA10, true_and]
  by_cases h : 0 ≤ t ∧ t ≤ s 0 2 - 1
  · obtain ⟨e, rfl⟩ : ∃ e : Nat, t = (e : Int) := ⟨t.toNat, by omega⟩
    have hp := I.pos (t := e) (by omega)
    have e60 : e < 60 := by omega
    have hb0 : 0 ≤ (e : Int) ∧ (e : Int) < ((60 : Nat) : Int) := by omega
    simp only [h, and_self, true_and, if_true, not_true, if_false, show ¬ A e = 0 by omega, hb0, Int.toNat_natCast]
    by_cases hu : 0 ≤ u ∧ u ≤ 1
    · simp only [hu, and_self, not_true, if_false]
      by_cases hk : s 3 e = 5
      · obtain ⟨-, ⟨a0, -, -, -, -, -, a5, -⟩, -⟩ := (I.to (t := e) (by omega)).2.1 (Or.inr hk)
        have s64 := ((I.st (t := e) (by omega)).2.2.1 (Or.inr hk)).2.2.2.2
        have g1 := I.2.1.1
        have c00 : zct H X 0 = s 0 1 := g1.1
        have d1 := g1.2.1
        have d2 := g1.2.2.1
        obtain ⟨n, o, hy, hc⟩ := I.hire
        obtain ⟨H', r, L, r1, hc', ke, kr, op⟩ := e_bestFirst hy hc (t := s 64 e) (d := s 0 1) s64 ⟨d1, by omega⟩
        have n9 := hy.2.1
        have p9 := Nat.pow_le_pow_right (n := 2) (by omega) n9
        have c9 : (2 : Nat) ^ 9 = 512 := rfl
        have nk := nil_keys (s := s) (n := n) (o := o)
        have p0 : 0 < 2 ^ n := Nat.two_pow_pos _
        obtain ⟨L2, m1, m2⟩ := m_hire_l hy e60 s64 ⟨d1, d2⟩ u (2 ^ n - 1) zFU 1 [] rfl (by rw [zFU_e]; omega) (by omega) (by omega) trivial (by omega) (fun L' hL hb => by
          have z := keys_bk (T := TL o L') (T' := TL o []) (n := n) (by omega)
          have ks := keys_of (s := s) z
          unfold BtT Bt
          omega)
        rw [nk.1, nk.2.2] at m1
        have m1' : ∀ Q, gM_hire_l4 zFU (e : Int) u 0 0 1 s Q = Q u ((bk n (TL o L2) : Nat) : Int) ((wk s n (TL o L2) : Nat) : Int) s := m1
        obtain ⟨sw, sb⟩ := op.same m2
        have F' := hc'.1
        have kd := KD.x12 (Or.inl rfl) I ke
        simp only [hk, if_true, if_false, show ¬ A e = 0 by omega, fp0_13 F, fp0_13 F', a0, zA2, zA5, zA6, a5, c00, ft12 F, ft12 F', ft0 F', zA9, zA10, true_and, r1, wX_s, m1', e_worthFrom F' hy kr, e_bitsFrom F' hy kr, sw, sb]
        by_cases hu0 : u = 0
        · simp only [hu0, if_true, wX_s]
          (first | exact (kd) | exact ⟨trivial, (kd)⟩ | exact ⟨rfl, (kd)⟩ | (refine ⟨by omega, ?_⟩; exact (kd)))
        · simp only [hu0, if_false, wX_s]
          (first | exact (kd) | exact ⟨trivial, (kd)⟩ | exact ⟨rfl, (kd)⟩ | (refine ⟨by omega, ?_⟩; exact (kd)))
      · simp only [hk, if_false, if_true]
        (first | exact KD.rf I | exact ⟨trivial, KD.rf I⟩ | exact ⟨rfl, KD.rf I⟩)
    · simp only [hu, not_false_iff, if_true]
      (first | exact KD.rf I | exact ⟨trivial, KD.rf I⟩ | exact ⟨rfl, KD.rf I⟩)
  · simp only [h, false_and, if_false, if_true, not_false_iff]
    (first | exact KD.rf I | exact ⟨trivial, KD.rf I⟩ | exact ⟨rfl, KD.rf I⟩)
end HIRE6
