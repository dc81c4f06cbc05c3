/-! TAPES shifted; the text fed; asks -/
theorem zcx_cp {X a sp b dp n : Nat} {H : zHp} : zcx X (zcp H (X + a) sp (X + b) dp n) = zuF (zcx X H) b dp (dp + n) (fun k => zcx X H a (sp + (k - dp))) := funext fun o' => funext fun k => by
  show (if X + o' = X + b ∧ dp ≤ k ∧ k < dp + n then zct H (X + a) (sp + (k - dp)) else zct H (X + o') k) = if o' = b ∧ dp ≤ k ∧ k < dp + n then zct H (X + a) (sp + (k - dp)) else zct H (X + o') k
  by_cases e : o' = b
  · subst e; simp
  · rw [if_neg (by omega), if_neg (fun q => e q.1)]
theorem zfx.cp {X : Nat} {gs : List Nat} {H H1 : zHp} (h : zfx X gs H H1) {a sp o dp n : Nat} (ho : ∀ k, gs.contains (xg o k) = true) : zfx X gs H (zcp H1 a sp (X + o) dp n) := h.tr fun o' k' h1 h2 => by
  rw [zct_cp, if_neg]
  rintro ⟨e1, e2⟩
  rw [show o' = o by omega, ho] at h2
  cases h2
theorem zfd.cp {X : Nat} {P : Nat → Prop} {H H1 : zHp} (h : zfd X P H H1) {a sp o dp n : Nat} (ho : o ≤ 36) : zfd X P H (zcp H1 a sp (X + o) dp n) := fun q h1 h2 h3 k' => by
  rw [zct_cp, if_neg (by omega)]
  exact h q h1 h2 h3 k'
theorem m_shift_l8 {t i n : Nat} {o j : Int} {K : Int → Int → Int → zSg → Option (Int × zSg)} (ht : t < 6) (hn : n ≤ 60) (hi : i + n ≤ 60) : ∀ (m f k : Nat) (s : zSg), n - k = m → m < f → k ≤ n → gM_shift_l8 f (t : Int) (i : Int) o j (n : Int) (k : Int) s K = K o j (n : Int) (zuF s 81 k n (fun q => s 80 (60 * t + i + q))) := by
  intro m
  induction m with
  | zero =>
    intro f k s hm hf h1
    obtain ⟨f, rfl⟩ : ∃ f', f = f' + 1 := ⟨f - 1, by omega⟩
    unfold gM_shift_l8
    rw [if_neg (by omega), zuF_0 (by omega)]
  | succ m ih =>
    intro f k s hm hf h1
    obtain ⟨f, rfl⟩ : ∃ f', f = f' + 1 := ⟨f - 1, by omega⟩
    unfold gM_shift_l8 yrd ywi yvl
    rw [zmul_e (by omega) (by omega), zadd_e (x := 60 * (t : Int)) (y := (i : Int)) (by omega) (by omega), zadd_e (x := 60 * (t : Int) + (i : Int)) (by omega) (by omega), if_pos (by omega), if_pos (by omega)]
    dsimp only
    rw [if_pos (by omega), zadd_e (by omega) (by omega), show (k : Int) + 1 = ((k + 1 : Nat) : Int) by omega, show (60 * (t : Int) + (i : Int) + (k : Int)).toNat = 60 * t + i + k by omega, Int.toNat_natCast, ih f (k + 1) _ (by omega) (by omega) (by omega)]
    have e : (fun q => zup s 81 k (s 80 (60 * t + i + k)) 80 (60 * t + i + q)) = fun q => s 80 (60 * t + i + q) := funext fun q => by simp [zup]
    rw [e, zuF_s (f := fun q => s 80 (60 * t + i + q)) (by omega)]
theorem m_shift_l10 {o j n : Nat} (ho : o < 6) (hn : n ≤ 60) (hj : j + n ≤ 60) : ∀ (m f k : Nat) (s : zSg), n - k = m → m < f → k ≤ n → gM_shift_l10 f (o : Int) (j : Int) (n : Int) (k : Int) s = some ((n : Int), zuF s 80 (60 * o + j + k) (60 * o + j + n) (fun q => s 81 (q - (60 * o + j)))) := by
  intro m
  induction m with
  | zero =>
    intro f k s hm hf h1
    obtain ⟨f, rfl⟩ : ∃ f', f = f' + 1 := ⟨f - 1, by omega⟩
    unfold gM_shift_l10
    rw [if_neg (by omega), zuF_0 (by omega)]
  | succ m ih =>
    intro f k s hm hf h1
    obtain ⟨f, rfl⟩ : ∃ f', f = f' + 1 := ⟨f - 1, by omega⟩
    unfold gM_shift_l10 yrd ywi yvl
    rw [if_pos (by omega), if_pos (by omega)]
    dsimp only
    rw [zmul_e (by omega) (by omega), zadd_e (x := 60 * (o : Int)) (y := (j : Int)) (by omega) (by omega), zadd_e (x := 60 * (o : Int) + (j : Int)) (by omega) (by omega), if_pos (by omega), zadd_e (by omega) (by omega), show (k : Int) + 1 = ((k + 1 : Nat) : Int) by omega, show (60 * (o : Int) + (j : Int) + (k : Int)).toNat = 60 * o + j + k by omega, Int.toNat_natCast, ih f (k + 1) _ (by omega) (by omega) (by omega)]
    have e : (fun q => zup s 80 (60 * o + j + k) (s 81 k) 81 (q - (60 * o + j))) = fun q => s 81 (q - (60 * o + j)) := funext fun q => by simp [zup]
    have e2 : s 81 k = (fun q => s 81 (q - (60 * o + j))) (60 * o + j + k) := by show s 81 k = s 81 (60 * o + j + k - (60 * o + j)); rw [show 60 * o + j + k - (60 * o + j) = k by omega]
    rw [e, e2, show 60 * o + j + (k + 1) = 60 * o + j + k + 1 by omega, zuF_s (f := fun q => s 81 (q - (60 * o + j))) (by omega)]
theorem G7.cp {c : Nat → Nat → Int} {s : zSg} (q : G7 c s) {t i o j n : Nat} (ht : t < 6) (ho : o < 6) (hi : i + n ≤ 60) (hj : j + n ≤ 60) (he : s 78 t = s 78 o) : G7 (zuF c (28 + o) j (j + n) (fun k => c (28 + t) (i + (k - j)))) (zuF (zuF s 81 0 n (fun q => s 80 (60 * t + i + q))) 80 (60 * o + j) (60 * o + j + n) (fun q => zuF s 81 0 n (fun q => s 80 (60 * t + i + q)) 81 (q - (60 * o + j)))) := by
  intro u hu
  obtain ⟨⟨a1, a2, a3⟩, ⟨g1, g2⟩, g5⟩ := q u hu
  have c34 : ∀ x, zuF c (28 + o) j (j + n) (fun k => c (28 + t) (i + (k - j))) 34 x = c 34 x := fun x => by unfold zuF; rw [if_neg (by omega)]
  have c35 : ∀ x, zuF c (28 + o) j (j + n) (fun k => c (28 + t) (i + (k - j))) 35 x = c 35 x := fun x => by unfold zuF; rw [if_neg (by omega)]
  have e78 : ∀ x, zuF (zuF s 81 0 n (fun q => s 80 (60 * t + i + q))) 80 (60 * o + j) (60 * o + j + n) (fun q => zuF s 81 0 n (fun q => s 80 (60 * t + i + q)) 81 (q - (60 * o + j))) 78 x = s 78 x := fun x => by unfold zuF; rw [if_neg (by omega), if_neg (by omega)]
  have e79 : ∀ x, zuF (zuF s 81 0 n (fun q => s 80 (60 * t + i + q))) 80 (60 * o + j) (60 * o + j + n) (fun q => zuF s 81 0 n (fun q => s 80 (60 * t + i + q)) 81 (q - (60 * o + j))) 79 x = s 79 x := fun x => by unfold zuF; rw [if_neg (by omega), if_neg (by omega)]
  rw [c34, c35, e78, e79]
  refine ⟨⟨a1, a2, a3⟩, ⟨g1, g2⟩, fun p hp => ?_⟩
  by_cases e : u = o ∧ j ≤ p ∧ p < j + n
  · obtain ⟨rfl, h1, h2⟩ := e
    obtain ⟨-, -, g6⟩ := q t ht
    have k1 : zuF c (28 + u) j (j + n) (fun k => c (28 + t) (i + (k - j))) (28 + u) p = c (28 + t) (i + (p - j)) := by unfold zuF; rw [if_pos ⟨rfl, h1, h2⟩]
    have k2 : zuF (zuF s 81 0 n (fun q => s 80 (60 * t + i + q))) 80 (60 * u + j) (60 * u + j + n) (fun q => zuF s 81 0 n (fun q => s 80 (60 * t + i + q)) 81 (q - (60 * u + j))) 80 (60 * u + p) = s 80 (60 * t + (i + (p - j))) := by
      unfold zuF
      rw [if_pos (by omega)]
      dsimp only
      rw [if_pos (by omega), show 60 * t + i + (60 * u + p - (60 * u + j)) = 60 * t + (i + (p - j)) by omega]
    rw [k1, k2]
    have := g6 (i + (p - j)) (by omega)
    exact ⟨this.1, this.2.1, fun w => this.2.2 (by rw [he]; exact w)⟩
  · have k1 : zuF c (28 + o) j (j + n) (fun k => c (28 + t) (i + (k - j))) (28 + u) p = c (28 + u) p := by unfold zuF; rw [if_neg (by omega)]
    have k2 : zuF (zuF s 81 0 n (fun q => s 80 (60 * t + i + q))) 80 (60 * o + j) (60 * o + j + n) (fun q => zuF s 81 0 n (fun q => s 80 (60 * t + i + q)) 81 (q - (60 * o + j))) 80 (60 * u + p) = s 80 (60 * u + p) := by
      unfold zuF
      rw [if_neg (by omega), if_neg (by omega)]
    rw [k1, k2]
    exact g5 p hp
section SHIFT
variable {X : Nat} {H : zHp} {s : zSg} {A : Nat → Nat} {B : Nat → Nat → Nat} {K : Nat → Nat} {ow : Nat → Nat × Nat}
theorem k_shift (I : IV X H s A B K ow) {t i o j n : Int} (hi : zR32 i) (hj : zR32 j) (hn : zR32 n) : wX (fH_shift X t i o j n H) fun v H' => wX (gM_shift t i o j n s) fun w s' => w = v ∧ KD X H H' s' := by
  have F := I.1
  have q := I.2.1.2.2.2.2.2.2.1
  have i1 := hi.1
  have i2 := hi.2
  have j1 := hj.1
  have j2 := hj.2
  have n1 := hn.1
  have n2 := hn.2
  unfold fH_shift gM_shift
  simp only [wX_s, wX_bd, wX_vl, wX_jn, wX_ite, wX_dv, wX_n0, wX_rb, wX_rc, wX_ry, wX_gi, wX_gr, wX_pi, wX_pz, wX_pr, wX_ai, wX_ab, wX_ar, wX_si, wX_sz, wX_sb, wX_sr, wX_ln, wX_nw, wX_na, wX_nm, wX_io, wX_ck, wX_cp, wX_cl, wX_ca, wX_sv, wX_sc, wX_rd, wX_wi, wX_wz, wX_wb, e_isTape, m_isTape, i01, ft0 F, fp0_15 F, fp0_16 F, ft27 F, fl27 F, ft34 F, fl34 F, zA10, true_and, zi2l_e hi, zi2l_e hj, zi2l_e hn, e_hasStretch I (t := t) (f := i) (n := n) ⟨by omega, by omega⟩ ⟨by omega, by omega⟩, e_hasStretch I (t := o) (f := j) (n := n) ⟨by omega, by omega⟩ ⟨by omega, by omega⟩]
  by_cases ht : 0 ≤ t ∧ t ≤ 5
  · by_cases ho : 0 ≤ o ∧ o ≤ 5
    · obtain ⟨⟨a1, a2, a3⟩, ⟨g1, g2, g3, g4⟩, -⟩ := q t.toNat (by omega)
      obtain ⟨⟨b1, b2, b3⟩, ⟨r1, r2, r3, r4⟩, -⟩ := q o.toNat (by omega)
      have a1' : zct H (X + 34) t.toNat = s 78 t.toNat := a1
      have b1' : zct H (X + 34) o.toNat = s 78 o.toNat := b1
      simp only [ht, ho, and_self, not_true, if_false, a1', b1', true_or, true_and]
      repeat refine ⟨by omega, ?_⟩
      by_cases h1 : s 78 t.toNat = -1
      · simp only [h1, if_true, show (-1 : Int) < 0 by omega]
        (repeat first | exact (KD.rf I) | refine ⟨by omega, ?_⟩)
      · simp only [h1, if_false, show ¬ s 78 t.toNat < 0 by omega]
        repeat refine ⟨by omega, ?_⟩
        by_cases h2 : s 78 o.toNat = -1
        · simp only [h2, if_true, show (-1 : Int) < 0 by omega]
          (repeat first | exact (KD.rf I) | refine ⟨by omega, ?_⟩)
        · simp only [h2, if_false, show ¬ s 78 o.toNat < 0 by omega]
          repeat refine ⟨by omega, ?_⟩
          by_cases h3 : s 78 t.toNat = s 78 o.toNat
          · simp only [h3, if_true]
            by_cases hn0 : n < 0
            · simp only [hn0, if_true, show ¬ 0 ≤ n by omega, and_false, false_and, not_false_iff]
              (repeat first | exact (KD.rf I) | refine ⟨by omega, ?_⟩)
            by_cases hi0 : i < 0
            · simp only [hn0, hi0, if_true, if_false, show ¬ 0 ≤ i by omega, and_false, false_and, not_false_iff]
              (repeat first | exact (KD.rf I) | refine ⟨by omega, ?_⟩)
            have z1 : zsub (s 79 t.toNat) n = s 79 t.toNat - n := zsub_e (by omega) (by omega)
            have z2 : zsub (s 79 o.toNat) n = s 79 o.toNat - n := zsub_e (by omega) (by omega)
            by_cases hj0 : j < 0
            · by_cases h5 : i + n ≤ s 79 t.toNat
              · simp only [hn0, hi0, hj0, h5, if_true, if_false, show 0 ≤ n by omega, show 0 ≤ i by omega, show ¬ 0 ≤ j by omega, and_self, and_false, false_and, not_false_iff, not_true]
                (repeat first | exact (KD.rf I) | refine ⟨by omega, ?_⟩)
              · simp only [hn0, hi0, hj0, h5, if_true, if_false, show 0 ≤ n by omega, show 0 ≤ i by omega, show ¬ 0 ≤ j by omega, and_self, and_false, false_and, not_false_iff, not_true]
                (repeat first | exact (KD.rf I) | refine ⟨by omega, ?_⟩)
            by_cases h5 : i + n ≤ s 79 t.toNat
            · by_cases h6 : j + n ≤ s 79 o.toNat
              · have l8 := fun Kc => m_shift_l8 (t := t.toNat) (i := i.toNat) (n := n.toNat) (o := o) (j := j) (K := Kc) (by omega) (by omega) (by omega) _ zFU 0 s rfl (by rw [zFU_e]; omega) (by omega)
                have l10 := fun s' => m_shift_l10 (o := o.toNat) (j := j.toNat) (n := n.toNat) (by omega) (by omega) (by omega) _ zFU 0 s' rfl (by rw [zFU_e]; omega) (by omega)
                rw [show ((t.toNat : Nat) : Int) = t by omega, show ((i.toNat : Nat) : Int) = i by omega, show ((n.toNat : Nat) : Int) = n by omega] at l8
                rw [show ((o.toNat : Nat) : Int) = o by omega, show ((j.toNat : Nat) : Int) = j by omega, show ((n.toNat : Nat) : Int) = n by omega] at l10
                simp only [Nat.add_zero, Int.ofNat_zero] at l8 l10
                simp only [hn0, hi0, hj0, h5, h6, if_true, if_false, show 0 ≤ n by omega, show 0 ≤ i by omega, show 0 ≤ j by omega, and_self, not_true, z1, z2, show ¬ s 79 t.toNat - n < i by omega, show ¬ s 79 o.toNat - n < j by omega, l8, l10, wX_s, fp27 F (show t.toNat < 6 by omega), fp27 F (show o.toNat < 6 by omega), (ft28v F (show t.toNat < 6 by omega)).1, (ft28v F (show t.toNat < 6 by omega)).2, (ft28v F (show o.toNat < 6 by omega)).1, (ft28v F (show o.toNat < 6 by omega)).2, true_and]
                have key : KD X H (zcp H (X + (28 + t.toNat)) i.toNat (X + (28 + o.toNat)) j.toNat n.toNat) (zuF (zuF s 81 0 n.toNat (fun q => s 80 (60 * t.toNat + i.toNat + q))) 80 (60 * o.toNat + j.toNat) (60 * o.toNat + j.toNat + n.toNat) (fun q => zuF s 81 0 n.toNat (fun q => s 80 (60 * t.toNat + i.toNat + q)) 81 (q - (60 * o.toNat + j.toNat)))) := by
                  refine KD.fx (gs := [7, 11]) I (zst.rf.cp _ _ _ _ _) rfl rfl (zfx.rf.cp (fun k => by rw [xg7 _ (by omega)]; rfl)) (zfd.rf.cp (by omega)) ((zfs.rf.uF (by decide) rfl).uF (by decide) rfl) rfl rfl rfl rfl (Int.le_refl _) (Or.inl rfl) (Or.inl rfl) (Or.inl rfl) (Or.inl rfl) (Or.inr ?_) (Or.inl rfl) (Or.inl rfl)
                  rw [zcx_cp]
                  exact q.cp (by omega) (by omega) (by omega) (by omega) h3
                (repeat first | exact (key) | refine ⟨by omega, ?_⟩)
              · simp only [hn0, hi0, hj0, h5, h6, if_true, if_false, show 0 ≤ n by omega, show 0 ≤ i by omega, show 0 ≤ j by omega, and_self, and_false, false_and, not_false_iff, not_true, z1, z2, show ¬ s 79 t.toNat - n < i by omega, show s 79 o.toNat - n < j by omega]
                (repeat first | exact (KD.rf I) | refine ⟨by omega, ?_⟩)
            · simp only [hn0, hi0, hj0, h5, if_true, if_false, show 0 ≤ n by omega, show 0 ≤ i by omega, and_self, and_false, false_and, not_false_iff, not_true, z1, show s 79 t.toNat - n < i by omega]
              (repeat first | exact (KD.rf I) | refine ⟨by omega, ?_⟩)
          · simp only [h3, if_false]
            (repeat first | exact (KD.rf I) | refine ⟨by omega, ?_⟩)
    · simp only [ht, ho, and_self, not_true, not_false_iff, if_true, if_false]
      (first | exact KD.rf I | exact ⟨trivial, KD.rf I⟩ | exact ⟨rfl, KD.rf I⟩)
  · simp only [ht, not_false_iff, if_true]
    (first | exact KD.rf I | exact ⟨trivial, KD.rf I⟩ | exact ⟨rfl, KD.rf I⟩)
end SHIFT
