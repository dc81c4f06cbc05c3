/-! TAPES -/
theorem zi2s_r (v : Int) : -32768 ≤ zi2s v ∧ zi2s v < 32768 := by
  unfold zi2s
  rw [Int16.toInt_toInt32]
  exact ⟨Int16.le_toInt _, Int16.toInt_lt _⟩
def zuF (s : zSg) (k i n : Nat) (f : Nat → Int) : zSg := fun k' j => if k' = k ∧ i ≤ j ∧ j < n then f j else s k' j
theorem zuF_s {s : zSg} {k i n : Nat} {f : Nat → Int} (hi : i < n) : zuF (zup s k i (f i)) k (i + 1) n f = zuF s k i n f := funext fun a => funext fun j => by
  show (if a = k ∧ i + 1 ≤ j ∧ j < n then f j else if a = k ∧ j = i then f i else s a j) = if a = k ∧ i ≤ j ∧ j < n then f j else s a j
  by_cases ha : a = k
  · by_cases hk : j = i
    · rw [if_neg (by omega), if_pos ⟨ha, hk⟩, if_pos ⟨ha, by omega, by omega⟩, hk]
    · rw [if_neg (show ¬ (a = k ∧ j = i) from fun q => hk q.2)]
      by_cases h2 : i ≤ j ∧ j < n
      · rw [if_pos ⟨ha, by omega, h2.2⟩, if_pos ⟨ha, h2⟩]
      · rw [if_neg (fun q => h2 ⟨by omega, q.2.2⟩), if_neg (fun q => h2 q.2)]
  · rw [if_neg (fun q => ha q.1), if_neg (fun q => ha q.1), if_neg (fun q => ha q.1)]
theorem zuF_0 {s : zSg} {k i n : Nat} {f : Nat → Int} (hi : n ≤ i) : zuF s k i n f = s := funext fun a => funext fun j => by
  show (if a = k ∧ i ≤ j ∧ j < n then f j else s a j) = s a j
  rw [if_neg (by omega)]
section TAPES
variable {X : Nat} {H : zHp} {s : zSg} {A : Nat → Nat} {B : Nat → Nat → Nat} {K : Nat → Nat} {ow : Nat → Nat × Nat}
theorem fp27 (F : IFx X H) {t : Nat} (ht : t < 6) : (zct H (X + 27) t).toNat = X + (28 + t) := by
  have : t = 0 ∨ t = 1 ∨ t = 2 ∨ t = 3 ∨ t = 4 ∨ t = 5 := by omega
  rcases this with rfl | rfl | rfl | rfl | rfl | rfl
  · exact fp27_0 F
  · exact fp27_1 F
  · exact fp27_2 F
  · exact fp27_3 F
  · exact fp27_4 F
  · exact fp27_5 F
theorem ft28v (F : IFx X H) {t : Nat} (ht : t < 6) : ztg H (X + (28 + t)) = 30 ∧ zln H (X + (28 + t)) = 60 := by
  have : t = 0 ∨ t = 1 ∨ t = 2 ∨ t = 3 ∨ t = 4 ∨ t = 5 := by omega
  rcases this with rfl | rfl | rfl | rfl | rfl | rfl
  · exact ⟨ft28 F, fl28 F⟩
  · exact ⟨ft29 F, fl29 F⟩
  · exact ⟨ft30 F, fl30 F⟩
  · exact ⟨ft31 F, fl31 F⟩
  · exact ⟨ft32 F, fl32 F⟩
  · exact ⟨ft33 F, fl33 F⟩
theorem e_hasStretch (I : IV X H s A B K ow) {t f n : Int} (hf : -4294967296 ≤ f ∧ f ≤ 4294967296) (hn : -4294967296 ≤ n ∧ n ≤ 4294967296) : fH_hasStretch X t f n H = some (if (0 ≤ t ∧ t ≤ 5) ∧ 0 ≤ f ∧ 0 ≤ n ∧ f + n ≤ s 79 t.toNat then 1 else 0, H) := by
  have F := I.1
  have q := I.2.1.2.2.2.2.2.2.1
  unfold fH_hasStretch
  rw [e_isTape, ybd_s]
  by_cases ht : 0 ≤ t ∧ t ≤ 5
  · rw [if_pos ht, if_neg (by omega)]
    obtain ⟨-, ⟨g1, g2, g3, -⟩, -⟩ := q t.toNat (by omega)
    have g1' : zct H (X + 35) t.toNat = s 79 t.toNat := g1
    by_cases h1 : f < 0
    · rw [if_pos ((zlcmp_lt ⟨by omega, by omega⟩ ⟨by omega, by omega⟩).mpr h1), if_neg (by omega)]
    · rw [if_neg (fun w => h1 ((zlcmp_lt ⟨by omega, by omega⟩ ⟨by omega, by omega⟩).mp w))]
      by_cases h2 : n < 0
      · rw [if_pos ((zlcmp_lt ⟨by omega, by omega⟩ ⟨by omega, by omega⟩).mpr h2), if_neg (by omega)]
      · rw [if_neg (fun w => h2 ((zlcmp_lt ⟨by omega, by omega⟩ ⟨by omega, by omega⟩).mp w))]
        simp only [ygr, yai, ft0 F, zA10, if_true, fp0_17 F, ft35 F, fl35 F, g1']
        rw [if_pos (by simp; omega), zladd_e (by omega) (by omega), zi2l_e ⟨by omega, by omega⟩]
        by_cases h3 : s 79 t.toNat < f + n
        · rw [if_pos ((zlcmp_gt ⟨by omega, by omega⟩ ⟨by omega, by omega⟩).mpr h3), if_neg (by omega)]
        · rw [if_neg (fun w => h3 ((zlcmp_gt ⟨by omega, by omega⟩ ⟨by omega, by omega⟩).mp w)), if_pos ⟨ht, by omega, by omega, by omega⟩]
  · rw [if_neg ht, if_pos rfl, if_neg (fun w => ht w.1)]
theorem k_read (I : IV X H s A B K ow) {t i : Int} (hi : zR32 i) : wX (fH_read X t i H) fun v H' => wX (gM_read t i s) fun w s' => w = v ∧ KD X H H' s' := by
  have F := I.1
  have q := I.2.1.2.2.2.2.2.2.1
  have h1 := hi.1
  have h2 := hi.2
  unfold fH_read gM_read
  simp only [wX_s, wX_bd, wX_vl, wX_jn, wX_ite, wX_dv, wX_n0, wX_rb, wX_rc, wX_ry, wX_gi, wX_gr, wX_pi, wX_pz, wX_pr, wX_ai, wX_ab, wX_ar, wX_si, wX_sz, wX_sb, wX_sr, wX_ln, wX_nw, wX_na, wX_nm, wX_io, wX_ck, wX_cp, wX_cl, wX_ca, wX_sv, wX_sc, wX_rd, wX_wi, wX_wz, wX_wb, e_isTape, m_isTape, e_in, i01, ft0 F, fp0_15 F, ft27 F, fl27 F, zA10, true_and, zi2l_e hi, e_hasStretch I (t := t) (f := i) (n := 1) ⟨by omega, by omega⟩ ⟨by omega, by omega⟩]
  by_cases ht : 0 ≤ t ∧ t ≤ 5
  · obtain ⟨⟨a1, a2, a3⟩, ⟨g1, g2, g3, g4⟩, g5⟩ := q t.toNat (by omega)
    have e1 : zsub (s 79 t.toNat) 1 = s 79 t.toNat - 1 := zsub_e (by omega) (by omega)
    simp only [ht, and_self, not_true, if_false, e1, true_and]
    by_cases h3 : 0 ≤ i ∧ i ≤ s 79 t.toNat - 1
    · have hs : ¬ s 78 t.toNat < 0 := fun w => by have := g4 (by omega); omega
      obtain ⟨g6, g7, -⟩ := g5 i.toNat (by omega)
      have g6' : zct H (X + (28 + t.toNat)) i.toNat = s 80 (60 * t.toNat + i.toNat) := g6
      have e2 : zadd (zmul 60 t) i = ((60 * t.toNat + i.toNat : Nat) : Int) := by rw [zmul_e (by omega) (by omega), zadd_e (by omega) (by omega)]; omega
      simp only [h3, hs, show (0 : Int) ≤ 1 by omega, show i + 1 ≤ s 79 t.toNat by omega, and_self, not_true, if_false, fp27 F (show t.toNat < 6 by omega), (ft28v F (show t.toNat < 6 by omega)).1, (ft28v F (show t.toNat < 6 by omega)).2, g6', e2, Int.toNat_natCast, true_or, true_and]
      exact ⟨by omega, by omega, by omega, by omega, by omega, KD.rf I⟩
    · have hb : ¬ (0 ≤ i ∧ 0 ≤ (1 : Int) ∧ i + 1 ≤ s 79 t.toNat) := by omega
      simp only [h3, hb, not_false_iff, if_true]
      refine ⟨by omega, ?_⟩
      by_cases h4 : s 78 t.toNat < 0
      · simp only [h4, if_true]
        (first | exact KD.rf I | exact ⟨trivial, KD.rf I⟩ | exact ⟨rfl, KD.rf I⟩)
      · simp only [h4, if_false]
        exact ⟨by omega, KD.rf I⟩
  · simp only [ht, not_false_iff, if_true]
    (first | exact KD.rf I | exact ⟨trivial, KD.rf I⟩ | exact ⟨rfl, KD.rf I⟩)
end TAPES
