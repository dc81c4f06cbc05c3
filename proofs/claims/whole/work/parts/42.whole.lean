/-! WHOLE BARS -/
theorem zsum_b {f : Nat → Int} : ∀ n, (∀ i, i < n → 0 ≤ f i ∧ f i ≤ 12) → 0 ≤ zsum f n ∧ zsum f n ≤ 12 * n
  | 0, _ => ⟨Int.le_refl _, Int.le_refl _⟩
  | n + 1, h => by
    have h1 := zsum_b n (fun i hi => h i (by omega))
    have h2 := h n (by omega)
    show 0 ≤ zsum f n + f n ∧ zsum f n + f n ≤ 12 * ((n + 1 : Nat) : Int)
    omega
theorem zsum_mono {f : Nat → Int} {n m : Nat} (h : n ≤ m) (hf : ∀ i, i < m → 0 ≤ f i) : zsum f n ≤ zsum f m := by
  induction m with
  | zero => rw [show n = 0 by omega]; exact Int.le_refl _
  | succ m ih =>
    by_cases e : n = m + 1
    · rw [e]; exact Int.le_refl _
    · have h1 := ih (by omega) (fun i hi => hf i (by omega))
      have h2 := hf m (by omega)
      show zsum f n ≤ zsum f m + f m
      omega
theorem m_filled_l {q n : Nat} {s : zSg} (hq : q < 4800) (hn : s 13 q = (n : Int)) (h8 : n ≤ 8) (hl : ∀ i, i < n → 0 ≤ s 11 (8 * q + i) ∧ s 11 (8 * q + i) ≤ 12) : ∀ (m f k : Nat), n - k = m → m < f → k ≤ n → gM_filled_l1 f (q : Int) (zsum (sh (s 11) (8 * q)) k) (k : Int) s = some (zsum (sh (s 11) (8 * q)) n, s) := by
  intro m
  induction m with
  | zero =>
    intro f k hm hf hk
    obtain ⟨f, rfl⟩ : ∃ f', f = f' + 1 := ⟨f - 1, by omega⟩
    have hb : 0 ≤ (q : Int) ∧ (q : Int) < ((4800 : Nat) : Int) := by omega
    unfold gM_filled_l1
    simp only [yrd, hb, and_self, if_true, Int.toNat_natCast, hn]
    rw [if_neg (by omega), show k = n by omega]
  | succ m ih =>
    intro f k hm hf hk
    obtain ⟨f, rfl⟩ : ∃ f', f = f' + 1 := ⟨f - 1, by omega⟩
    have hb : 0 ≤ (q : Int) ∧ (q : Int) < ((4800 : Nat) : Int) := by omega
    have e1 : zadd (zmul 8 (q : Int)) (k : Int) = ((8 * q + k : Nat) : Int) := by rw [zmul_e (by omega) (by omega), zadd_e (by omega) (by omega)]; omega
    have hb2 : 0 ≤ ((8 * q + k : Nat) : Int) ∧ ((8 * q + k : Nat) : Int) < ((38400 : Nat) : Int) := by omega
    have h1 := zsum_b (f := sh (s 11) (8 * q)) k (fun i hi => hl i (by omega))
    have h2 := hl k (by omega)
    have e2 : zadd (zsum (sh (s 11) (8 * q)) k) (s 11 (8 * q + k)) = zsum (sh (s 11) (8 * q)) (k + 1) := by rw [zadd_e (by omega) (by omega)]; rfl
    have e3 : zadd (k : Int) 1 = ((k + 1 : Nat) : Int) := by rw [zadd_e (by omega) (by omega)]; omega
    unfold gM_filled_l1
    simp only [yrd, yvl, hb, and_self, if_true, Int.toNat_natCast, hn, e1, hb2, e2, e3]
    rw [if_pos (by omega)]
    exact ih f (k + 1) (by omega) (by omega) (by omega)
theorem m_filled {q : Nat} {s : zSg} (hq : q < 4800) (h8 : 0 ≤ s 13 q ∧ s 13 q ≤ 8) (hl : ∀ i : Nat, (i : Int) < s 13 q → 0 ≤ s 11 (8 * q + i) ∧ s 11 (8 * q + i) ≤ 12) : gM_filled (q : Int) s = some (zsum (sh (s 11) (8 * q)) (s 13 q).toNat, s) :=
  m_filled_l (n := (s 13 q).toNat) hq (by omega) (by omega) (fun i hi => hl i (by omega)) _ zFU 0 rfl (by rw [zFU_e]; omega) (by omega)
/-- how many bars of a voice are whole -/
def wholeN (s : zSg) (t v : Nat) : Int := if 0 < s 14 (4 * t + v) ∧ zsum (sh (s 11) (8 * (80 * t + 20 * v + (s 14 (4 * t + v) - 1).toNat))) (s 13 (80 * t + 20 * v + (s 14 (4 * t + v) - 1).toNat)).toNat < s 5 t then s 14 (4 * t + v) - 1 else s 14 (4 * t + v)
section WHOLE
variable {X : Nat} {H : zHp} {s : zSg} {A : Nat → Nat} {B : Nat → Nat → Nat} {K : Nat → Nat} {ow : Nat → Nat × Nat}
theorem m_barAt {t v b : Nat} (ht : t < 60) (hv : v < 4) (hb : b < 20) : gM_barAt (t : Int) (v : Int) (b : Int) s = some (((80 * t + 20 * v + b : Nat) : Int), s) := by
  unfold gM_barAt
  rw [zmul_e (by omega) (by omega), zmul_e (by omega) (by omega), zadd_e (x := 80 * (t : Int)) (by omega) (by omega), zadd_e (by omega) (by omega)]
  rw [show 80 * (t : Int) + 20 * (v : Int) + (b : Int) = ((80 * t + 20 * v + b : Nat) : Int) by omega]
theorem BI.len {s : zSg} {q : Nat} {me : Int} (h : BI s q me) : ∀ i : Nat, (i : Int) < s 13 q → 0 ≤ s 11 (8 * q + i) ∧ s 11 (8 * q + i) ≤ 12 := fun i hi => by
  have := (h.2.1 i hi).2
  omega
theorem m_whole {t v : Nat} (ht : t < 60) (hv : v < 4) (hs : SIs s t) : gM_whole (t : Int) (v : Int) s = some (wholeN s t v, s) := by
  obtain ⟨h5, -, -, -, -, hb⟩ := hs
  obtain ⟨⟨b1, b2⟩, -, b3⟩ := hb v hv
  have e1 : zadd (zmul 4 (t : Int)) (v : Int) = ((4 * t + v : Nat) : Int) := by rw [zmul_e (by omega) (by omega), zadd_e (by omega) (by omega)]; omega
  have hb1 : 0 ≤ ((4 * t + v : Nat) : Int) ∧ ((4 * t + v : Nat) : Int) < ((240 : Nat) : Int) := by omega
  unfold gM_whole wholeN
  simp only [yjn, yrd, e1, hb1, and_self, if_true, Int.toNat_natCast]
  by_cases h1 : 0 < s 14 (4 * t + v)
  · have e2 : zsub (s 14 (4 * t + v)) 1 = (((s 14 (4 * t + v) - 1).toNat : Nat) : Int) := by rw [zsub_e (by omega) (by omega)]; omega
    obtain ⟨bi, -⟩ := b3 (s 14 (4 * t + v) - 1).toNat (by omega)
    have hb2 : 0 ≤ (t : Int) ∧ (t : Int) < ((60 : Nat) : Int) := by omega
    rw [if_pos h1, e2, m_barAt ht hv (by omega), ybd_s, m_filled (by omega) ⟨by have := bi.1.1; omega, bi.1.2⟩ bi.len, ybd_s]
    simp only [hb2, and_self, if_true, Int.toNat_natCast, h1, true_and]
    split
    · rw [show (((s 14 (4 * t + v) - 1).toNat : Nat) : Int) = s 14 (4 * t + v) - 1 by omega]
    · rfl
  · rw [if_neg h1, if_neg (fun w => h1 w.1)]
theorem wholeN_b {t v : Nat} (hv : v < 4) (hs : SIs s t) : 0 ≤ wholeN s t v ∧ wholeN s t v ≤ s 14 (4 * t + v) ∧ s 14 (4 * t + v) ≤ 20 ∧ s 14 (4 * t + v) ≤ wholeN s t v + 1 := by
  obtain ⟨⟨b1, b2⟩, -, b3⟩ := hs.2.2.2.2.2 v hv
  unfold wholeN
  split <;> omega
/-- a bar is whole iff its notes fill the meter -/
theorem whole_iff {t v b : Nat} (hv : v < 4) (hs : SIs s t) : ((b : Int) < wholeN s t v) ↔ ((b : Int) < s 14 (4 * t + v) ∧ zsum (sh (s 11) (8 * (80 * t + 20 * v + b))) (s 13 (80 * t + 20 * v + b)).toNat = s 5 t) := by
  obtain ⟨⟨b1, b2⟩, -, b3⟩ := hs.2.2.2.2.2 v hv
  unfold wholeN
  constructor
  · intro h
    have hb : (b : Int) < s 14 (4 * t + v) := by split at h <;> omega
    refine ⟨hb, ?_⟩
    obtain ⟨bi, full⟩ := b3 b hb
    by_cases e : (b : Int) + 1 < s 14 (4 * t + v)
    · exact full e
    · rw [show (s 14 (4 * t + v) - 1).toNat = b by omega] at h
      split at h
      · omega
      · rename_i w
        have := bi.2.2.1
        by_cases e2 : zsum (sh (s 11) (8 * (80 * t + 20 * v + b))) (s 13 (80 * t + 20 * v + b)).toNat < s 5 t
        · exact absurd ⟨by omega, e2⟩ w
        · omega
  · rintro ⟨hb, he⟩
    by_cases e : (b : Int) + 1 < s 14 (4 * t + v)
    · split <;> omega
    · rw [show (s 14 (4 * t + v) - 1).toNat = b by omega, he, if_neg (by omega)]
      exact hb
theorem e_begunBar (I : IV X H s A B K ow) {t : Nat} {v b : Int} (ht : (t : Int) < s 0 2) (hk : s 3 t = 1 ∨ s 3 t = 6) : fScore_begunBar (A t) v b H = some (if (0 ≤ v ∧ v ≤ s 6 t - 1) ∧ 0 ≤ b ∧ b < s 14 (4 * t + v.toNat) then B t (20 * v.toNat + b.toNat) else 0, H) := by
  obtain ⟨-, ⟨h0, -, -, -, -, -, h6, h7⟩, -, ⟨w1, w2, w3, w4⟩, hb⟩ := (I.to ht).1 hk
  have hs := (I.st ht).2.1 hk
  have hs6 := hs.2.1
  unfold fScore_begunBar
  simp only [yck, h0, zA8, if_true, e_hasVoice I ht hk, ybd_s, i01]
  by_cases h1 : 0 ≤ v ∧ v ≤ s 6 t - 1
  · obtain ⟨c1, c2⟩ := hb v.toNat (by omega)
    obtain ⟨⟨b1, b2⟩, -, -⟩ := hs.2.2.2.2.2 v.toNat (by omega)
    simp only [h1, and_self, not_true, if_false, true_and]
    by_cases h2 : b < 0
    · rw [if_pos h2, if_neg (by omega)]
    · rw [if_neg h2]
      by_cases h3 : b < 20
      · rw [if_pos h3]
        simp only [ygr, yai, yar, h0, zA8, if_true, h7, h6, Int.toNat_natCast, w1, w2, w3, w4, c1]
        rw [if_pos (by simp; omega)]
        by_cases h4 : b < s 14 (4 * t + v.toNat)
        · obtain ⟨d1, -, -⟩ := c2 b.toNat (by omega)
          have e1 : zadd (zmul v 20) b = ((20 * v.toNat + b.toNat : Nat) : Int) := by rw [zmul_e (by omega) (by omega), zadd_e (by omega) (by omega)]; omega
          rw [if_pos h4, if_pos (by rw [e1]; simp; omega), e1, Int.toNat_natCast, d1, Int.toNat_natCast, if_pos (by omega)]
        · rw [if_neg h4, if_neg (by omega)]
      · rw [if_neg h3, if_neg (by omega)]
  · simp only [h1, not_false_iff, if_true, false_and, if_false]
/-- a begun bar's cells -/
theorem IV.bar (I : IV X H s A B K ow) {t v b : Nat} (ht : (t : Int) < s 0 2) (hk : s 3 t = 1 ∨ s 3 t = 6) (hv : v < 4) (hb : (b : Int) < s 14 (4 * t + v)) : BarO X H ow (B t (20 * v + b)) (t + 1) (20 * v + b) ∧ BarV H (B t (20 * v + b)) (s 13 (80 * t + 20 * v + b)) (sh (s 10) (8 * (80 * t + 20 * v + b))) (sh (s 11) (8 * (80 * t + 20 * v + b))) (sh (s 12) (8 * (80 * t + 20 * v + b))) ∧ BI s (80 * t + 20 * v + b) (s 5 t) := by
  obtain ⟨-, -, -, -, h⟩ := (I.to ht).1 hk
  obtain ⟨-, d2, d3⟩ := (h v hv).2 b hb
  exact ⟨d2, d3, ((((I.st ht).2.1 hk).2.2.2.2.2 v hv).2.2 b hb).1⟩
theorem e_openBar (I : IV X H s A B K ow) {t v : Nat} (ht : (t : Int) < s 0 2) (hk : s 3 t = 1 ∨ s 3 t = 6) (hv : (v : Int) ≤ s 6 t - 1) : fScore_openBar (A t) (v : Int) H = some (if wholeN s t v < s 14 (4 * t + v) then B t (20 * v + (s 14 (4 * t + v) - 1).toNat) else 0, H) := by
  obtain ⟨-, ⟨h0, -, -, -, h4, -, h6, h7⟩, -, ⟨w1, w2, w3, w4⟩, hb⟩ := (I.to ht).1 hk
  have hs := (I.st ht).2.1 hk
  have hs6 := hs.2.1
  have hv4 : v < 4 := by omega
  obtain ⟨c1, c2⟩ := hb v hv4
  obtain ⟨⟨b1, b2⟩, -, -⟩ := hs.2.2.2.2.2 v hv4
  have e1 : zsub (s 14 (4 * t + v)) 1 = s 14 (4 * t + v) - 1 := zsub_e (by omega) (by omega)
  have hx : 0 ≤ (v : Int) := by omega
  have hx2 : (v : Int) < ((4 : Nat) : Int) := by omega
  have eb := e_begunBar I (t := t) (v := (v : Int)) (b := s 14 (4 * t + v) - 1) ht hk
  rw [Int.toNat_natCast] at eb
  by_cases h1 : 0 < s 14 (4 * t + v)
  · rw [if_pos (by omega)] at eb
    obtain ⟨⟨m0, -, t1, -⟩, ⟨-, v2, -⟩, bi⟩ := I.bar (b := (s 14 (4 * t + v) - 1).toNat) ht hk hv4 (by omega)
    have hne : ¬ B t (20 * v + (s 14 (4 * t + v) - 1).toNat) = 0 := by have := m0.1; omega
    unfold fScore_openBar
    simp only [yjn, yck, ygr, ygi, yai, h0, zA8, if_true, e_hasVoice I ht hk, ybd_s, i01, h7, Int.toNat_natCast, w3, w4, c1, e1, eb, hx, hx2, hv, true_or, true_and, and_self, not_true, if_false, hne, t1, zA0, v2, h4, show ¬ (1 : Int) = 0 by omega]
    unfold wholeN
    have b3 := bi.2.2.1
    generalize zsum (sh (s 11) (8 * (80 * t + 20 * v + (s 14 (4 * t + v) - 1).toNat))) (s 13 (80 * t + 20 * v + (s 14 (4 * t + v) - 1).toNat)).toNat = z at *
    by_cases h2 : z < s 5 t
    · rw [if_neg (show ¬ z = s 5 t by omega), if_pos (show 0 < s 14 (4 * t + v) ∧ z < s 5 t from ⟨h1, h2⟩), if_pos (show s 14 (4 * t + v) - 1 < s 14 (4 * t + v) by omega)]
    · rw [if_pos (show z = s 5 t by omega), if_neg (show ¬ (0 < s 14 (4 * t + v) ∧ z < s 5 t) from fun w => h2 w.2), if_neg (show ¬ s 14 (4 * t + v) < s 14 (4 * t + v) by omega)]
  · rw [if_neg (by omega)] at eb
    unfold fScore_openBar
    simp only [yjn, yck, ygr, ygi, yai, h0, zA8, if_true, e_hasVoice I ht hk, ybd_s, i01, h7, Int.toNat_natCast, w3, w4, c1, e1, eb, hx, hx2, hv, true_or, true_and, and_self, not_true, if_false, show ¬ (1 : Int) = 0 by omega]
    unfold wholeN
    rw [if_neg (show ¬ (0 < s 14 (4 * t + v) ∧ _) from fun w => h1 w.1), if_neg (by omega)]
theorem e_wholeBars (I : IV X H s A B K ow) {t v : Nat} (ht : (t : Int) < s 0 2) (hk : s 3 t = 1 ∨ s 3 t = 6) (hv : (v : Int) ≤ s 6 t - 1) : fScore_wholeBars (A t) (v : Int) H = some (wholeN s t v, H) := by
  obtain ⟨-, ⟨h0, -, -, -, h4, -, h6, h7⟩, -, ⟨w1, w2, w3, w4⟩, hb⟩ := (I.to ht).1 hk
  have hs := (I.st ht).2.1 hk
  have hs6 := hs.2.1
  have hv4 : v < 4 := by omega
  obtain ⟨c1, c2⟩ := hb v hv4
  have wb := wholeN_b hv4 hs
  have e1 : zsub (s 14 (4 * t + v)) 1 = s 14 (4 * t + v) - 1 := zsub_e (by omega) (by omega)
  have hx : 0 ≤ (v : Int) := by omega
  have hx2 : (v : Int) < ((4 : Nat) : Int) := by omega
  have eo := e_openBar I ht hk hv
  by_cases h1 : wholeN s t v < s 14 (4 * t + v)
  · obtain ⟨⟨m0, -⟩, -⟩ := I.bar (b := (s 14 (4 * t + v) - 1).toNat) ht hk hv4 (by omega)
    rw [if_pos h1] at eo
    have hne : ¬ B t (20 * v + (s 14 (4 * t + v) - 1).toNat) = 0 := by have := m0.1; omega
    unfold fScore_wholeBars
    simp only [yck, ygr, yai, h0, zA8, if_true, e_hasVoice I ht hk, ybd_s, i01, h7, Int.toNat_natCast, w3, w4, c1, e1, eo, hx, hx2, hv, true_or, true_and, and_self, not_true, if_false, hne, show ¬ (1 : Int) = 0 by omega]
    rw [show s 14 (4 * t + v) - 1 = wholeN s t v by omega]
  · rw [if_neg h1] at eo
    unfold fScore_wholeBars
    simp only [yck, ygr, yai, h0, zA8, if_true, e_hasVoice I ht hk, ybd_s, i01, h7, Int.toNat_natCast, w3, w4, c1, e1, eo, hx, hx2, hv, true_or, true_and, and_self, not_true, if_false, show ¬ (1 : Int) = 0 by omega]
    rw [show s 14 (4 * t + v) = wholeN s t v by omega]
theorem e_wholeBar (I : IV X H s A B K ow) {t : Nat} {v b : Int} (ht : (t : Int) < s 0 2) (hk : s 3 t = 1 ∨ s 3 t = 6) : fScore_wholeBar (A t) v b H = some (if (0 ≤ v ∧ v ≤ s 6 t - 1) ∧ 0 ≤ b ∧ b < wholeN s t v.toNat then B t (20 * v.toNat + b.toNat) else 0, H) := by
  obtain ⟨-, ⟨h0, -, -, -, h4, -, h6, h7⟩, -, ⟨w1, w2, w3, w4⟩, hb⟩ := (I.to ht).1 hk
  have hs := (I.st ht).2.1 hk
  have hs6 := hs.2.1
  unfold fScore_wholeBar
  simp only [yck, h0, zA8, if_true, e_begunBar I ht hk, ybd_s]
  by_cases h1 : (0 ≤ v ∧ v ≤ s 6 t - 1) ∧ 0 ≤ b ∧ b < s 14 (4 * t + v.toNat)
  · obtain ⟨⟨m0, -, t1, -⟩, ⟨-, v2, -⟩, bi⟩ := I.bar (v := v.toNat) (b := b.toNat) ht hk (by omega) (by omega)
    have wi := whole_iff (b := b.toNat) (v := v.toNat) (by omega) hs
    rw [if_pos h1, if_neg (by have := m0.1; omega)]
    simp only [ygi, t1, zA0, if_true, v2, h0, zA8, h4]
    by_cases h2 : zsum (sh (s 11) (8 * (80 * t + 20 * v.toNat + b.toNat))) (s 13 (80 * t + 20 * v.toNat + b.toNat)).toNat = s 5 t
    · have := wi.mpr ⟨by omega, h2⟩
      rw [if_pos h2, if_pos ⟨h1.1, by omega, by omega⟩]
    · rw [if_neg h2, if_neg (fun w => h2 (wi.mp (by omega)).2)]
  · have wb : (0 ≤ v ∧ v ≤ s 6 t - 1) → wholeN s t v.toNat ≤ s 14 (4 * t + v.toNat) := fun w => (wholeN_b (v := v.toNat) (by omega) hs).2.1
    rw [if_neg h1, if_pos rfl, if_neg (fun w => h1 ⟨w.1, w.2.1, by have := wb w.1; omega⟩)]
theorem k_bars (I : IV X H s A B K ow) {t v : Int} : wX (fH_bars X t v H) fun x H' => wX (gM_bars t v s) fun w s' => w = x ∧ KD X H H' s' := by
  have F := I.1
  have hn := I.n
  unfold fH_bars gM_bars
  simp only [wX_s, wX_bd, wX_vl, wX_jn, wX_ite, wX_dv, wX_n0, wX_rb, wX_rc, wX_ry, wX_gi, wX_gr, wX_pi, wX_pz, wX_pr, wX_ai, wX_ab, wX_ar, wX_si, wX_sz, wX_sb, wX_sr, wX_ln, wX_nw, wX_na, wX_nm, wX_io, wX_ck, wX_cp, wX_cl, wX_ca, wX_sv, wX_sc, wX_rd, wX_wi, wX_wz, wX_wb, e_scoreAt I, e_lacking I, mi_isThing I, e_in, i01, ft0 F, zA10, true_and]
  by_cases h : 0 ≤ t ∧ t ≤ s 0 2 - 1
  · have ht : ((t.toNat : Nat) : Int) < s 0 2 := by omega
    have hp := I.pos ht
    simp only [h, and_self, true_and, if_true, not_true, if_false, mi_isMusic I h, wX_s, i01]
    by_cases hk : s 3 t.toNat = 1 ∨ s 3 t.toNat = 6
    · have hs := (I.st ht).2.1 hk
      have e1 : zsub (s 6 t.toNat) 1 = s 6 t.toNat - 1 := zsub_e (by have := hs.2.1; omega) (by have := hs.2.1; omega)
      obtain ⟨-, hg, -, -⟩ := I.hd ht
      simp only [hk, if_true, not_true, if_false, show ¬ A t.toNat = 0 by omega, e_hasVoice I ht hk, wX_s, i01, e1, hg, tgk_8.mpr hk, true_and]
      by_cases h2 : 0 ≤ v ∧ v ≤ s 6 t.toNat - 1
      · have e2 := e_wholeBars I (v := v.toNat) ht hk (by omega)
        have e3 := m_whole (t := t.toNat) (v := v.toNat) (s := s) (by omega) (by have := hs.2.1; omega) hs
        rw [show ((v.toNat : Nat) : Int) = v by omega] at e2 e3
        rw [show ((t.toNat : Nat) : Int) = t by omega] at e3
        simp only [h2, and_self, not_true, if_false, e2, e3, wX_s, true_and]
        (repeat first | exact (KD.rf I) | refine ⟨by omega, ?_⟩)
      · simp only [h2, not_false_iff, if_true]
        (repeat first | exact (KD.rf I) | refine ⟨by omega, ?_⟩)
    · simp only [hk, if_false, if_true, not_false_iff]
      (first | exact KD.rf I | exact ⟨trivial, KD.rf I⟩ | exact ⟨rfl, KD.rf I⟩)
  · simp only [h, false_and, if_false, if_true, not_false_iff]
    (first | exact KD.rf I | exact ⟨trivial, KD.rf I⟩ | exact ⟨rfl, KD.rf I⟩)
end WHOLE
