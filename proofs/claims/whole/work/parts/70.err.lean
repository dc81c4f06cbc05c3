section ERR2
variable {X : Nat} {H : zHp} {s : zSg} {A : Nat → Nat} {B : Nat → Nat → Nat} {K : Nat → Nat} {ow : Nat → Nat × Nat}
theorem k_erratum (I : IV X H s A B K ow) {t v b i p q : Int} : wX (fH_erratum X t v b i p q H) fun x H' => wX (gM_erratum t v b i p q s) fun w s' => w = x ∧ KD X H H' s' := by
  have F := I.1
  have hX := F.2.1.1
  have hn := I.n
  have q1 : zct H X 4 = s 0 2 := I.2.1.2.2.2.2.2.2.2.2.2.1
  unfold fH_erratum gM_erratum fH_placeInEdition
  simp only [wX_s, wX_bd, wX_vl, wX_jn, wX_ite, wX_dv, wX_n0, wX_rb, wX_rc, wX_ry, wX_gi, wX_gr, wX_pi, wX_pz, wX_pr, wX_ai, wX_ab, wX_ar, wX_si, wX_sz, wX_sb, wX_sr, wX_ln, wX_nw, wX_na, wX_nm, wX_io, wX_ck, wX_cp, wX_cl, wX_ca, wX_sv, wX_sc, wX_rd, wX_wi, wX_wz, wX_wb, e_thingAt I, mi_isThing I, e_editionAt I, e_in, e_within, i01, ft0 F, zA10, true_and]
  by_cases h0 : 0 ≤ t ∧ t ≤ s 0 2 - 1
  · have ht : ((t.toNat : Nat) : Int) < s 0 2 := by omega
    have et : ((t.toNat : Nat) : Int) = t := by omega
    have hp := I.pos ht
    have hb0 : 0 ≤ t ∧ t < ((60 : Nat) : Int) := by omega
    simp only [h0, and_self, true_and, if_true, not_true, if_false, show ¬ A t.toNat = 0 by omega, hb0]
    by_cases h1 : 0 ≤ v ∧ v ≤ 3
    · simp only [h1, and_self, not_true, if_false]
      by_cases hk : s 3 t.toNat = 4
      · simp only [hk, if_true, show ¬ A t.toNat = 0 by omega, if_false]
        by_cases h2 : 0 ≤ b ∧ b ≤ 19
        · simp only [h2, and_self, not_true, if_false]
          by_cases h3 : 0 ≤ i ∧ i ≤ 7
          · simp only [h3, and_self, not_true, if_false]
            by_cases h4 : 1 ≤ p ∧ p ≤ 60
            · simp only [h4, and_self, not_true, if_false]
              by_cases h5 : 1 ≤ q ∧ q ≤ 60
              · simp only [h5, and_self, not_true, if_false]
                by_cases h6 : s 0 2 < 60
                · obtain ⟨n, en⟩ : ∃ n : Nat, s 0 2 = (n : Int) := ⟨(s 0 2).toNat, by omega⟩
                  have iv := I.newerr (x := t.toNat) en (by omega) (by omega) hk h1 h2 h3 h4 h5
                  rw [et] at iv
                  have r := re_run (H := H) (n := n) (r := A t.toNat) (pl := (v * 20 + b) * 8 + i) (p := p) (q := q)
                  have h6' : ((n : Nat) : Int) < 60 := by omega
                  have epl : zadd (zmul (zadd (zmul v 20) b) 8) i = (v * 20 + b) * 8 + i := by
                    rw [zmul_e (x := v) (by omega) (by omega), zadd_e (x := v * 20) (by omega) (by omega), zmul_e (by omega) (by omega), zadd_e (by omega) (by omega)]
                  have st := re_st (H := H) (n := n) (r := A t.toNat) (pl := (v * 20 + b) * 8 + i) (p := p) (q := q)
                  have ra := re_a (H := H) (n := n) (r := A t.toNat) (pl := (v * 20 + b) * 8 + i) (p := p) (q := q)
                  have old : ∀ q' k, q' ≤ znx H → zct (reH H n (A t.toNat) ((v * 20 + b) * 8 + i) p q) q' k = zct H q' k := fun q' k h => re_old h
                  generalize reH H n (A t.toNat) ((v * 20 + b) * 8 + i) p q = H1 at *
                  have g3 : ztg H (A t.toNat) = 3 := ((I.to ht).2.2.2.1 hk).2.1.1
                  have tA : ztg H1 (A t.toNat) = 3 := by rw [(st.2.2 _ hp.2).1]; exact g3
                  have eo := ((I.2.2.1 t.toNat ht).2 hk).1
                  rw [en, Int.toNat_natCast] at eo
                  have cA : zct H1 (A t.toNat) 4 = errN s t.toNat n := by rw [old _ _ hp.2]; exact eo
                  have eb : ∀ m : Nat, 0 ≤ errN s t.toNat m ∧ errN s t.toNat m ≤ m := fun m => by
                    induction m with
                    | zero => exact ⟨Int.le_refl _, Int.le_refl _⟩
                    | succ m ih =>
                      show 0 ≤ errN s t.toNat m + _ ∧ errN s t.toNat m + _ ≤ _
                      split <;> omega
                  have e4 : zadd (errN s t.toNat n) 1 = errN s t.toNat n + 1 := zadd_e (by have := eb n; omega) (by have := eb n; omega)
                  have tX : ztg H1 X = 11 := by rw [(st.2.2 _ (by omega)).1]; exact ft0 F
                  have kp := e_keep (X := X) (H := zwr H1 (A t.toNat) 4 (errN s t.toNat n + 1)) (n := n) (a := znx H + 1) tX (by rw [zct_wr, if_neg (by omega), old _ _ (by omega), q1, en]) (by rw [zct_wr, if_neg (by omega), old _ _ (by omega)]; exact fp0_3 F) (by rw [ztg_wr, (st.2.2 _ (by omega)).1]; exact ft2 F) (by rw [zln_wr, (st.2.2 _ (by omega)).2]; exact fl2 F) (by omega) (by omega) (by rw [ztg_wr, ra.1]; rfl) (by rw [zct_wr, if_neg (by omega)]; exact ra.2.2.1)
                  have hn60 : 0 ≤ (n : Int) ∧ (n : Int) < ((60 : Nat) : Int) := by omega
                  simp only [ft0 F, zA10, q1, Nat.reduceAdd, ztg_n (show X ≤ znx H by omega), zct_n (show X ≤ znx H by omega), show 0 < znx H + 1 by omega, true_and, en, h6', if_true, show ¬ ((n : Nat) : Int) = 60 by omega, if_false, m_add en (show n ≤ 59 by omega), epl, r, wX_s, tA, zA2, cA, e4, ztg_wr, tX, kp, hn60, Int.toNat_natCast]
                  (repeat first | exact (iv) | refine ⟨by omega, ?_⟩)
                · simp only [ft0 F, zA10, q1, true_and, show s 0 2 = 60 by omega, show ¬ (60 : Int) < 60 by omega, if_false, if_true]
                  (first | exact KD.rf I | exact ⟨trivial, KD.rf I⟩ | exact ⟨rfl, KD.rf I⟩)
              · simp only [h5, not_false_iff, if_true]
                (first | exact KD.rf I | exact ⟨trivial, KD.rf I⟩ | exact ⟨rfl, KD.rf I⟩)
            · simp only [h4, not_false_iff, if_true]
              (first | exact KD.rf I | exact ⟨trivial, KD.rf I⟩ | exact ⟨rfl, KD.rf I⟩)
          · simp only [h3, not_false_iff, if_true]
            (first | exact KD.rf I | exact ⟨trivial, KD.rf I⟩ | exact ⟨rfl, KD.rf I⟩)
        · simp only [h2, not_false_iff, if_true]
          (first | exact KD.rf I | exact ⟨trivial, KD.rf I⟩ | exact ⟨rfl, KD.rf I⟩)
      · simp only [hk, if_false, if_true]
        (first | exact KD.rf I | exact ⟨trivial, KD.rf I⟩ | exact ⟨rfl, KD.rf I⟩)
    · simp only [h1, not_false_iff, if_true]
      (first | exact KD.rf I | exact ⟨trivial, KD.rf I⟩ | exact ⟨rfl, KD.rf I⟩)
  · simp only [h0, if_false, if_true, not_false_iff]
    (first | exact KD.rf I | exact ⟨trivial, KD.rf I⟩ | exact ⟨rfl, KD.rf I⟩)
end ERR2
