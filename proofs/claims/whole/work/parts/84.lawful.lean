/-! CONTRACTS in force, rights -/
section LAWFUL
variable {X : Nat} {H : zHp} {s : zSg} {A : Nat → Nat} {B : Nat → Nat → Nat} {K : Nat → Nat} {ow : Nat → Nat × Nat}
/-- the contract of a land on a day, of the first ones -/
def conN (s : zSg) (land day : Int) : Nat → Int
  | 0 => -1
  | m + 1 => if s 45 m = land ∧ s 46 m ≤ day ∧ (conN s land day m < 0 ∨ s 46 (conN s land day m).toNat ≤ s 46 m) then (m : Int) else conN s land day m
theorem conN_b {land day : Int} : ∀ m : Nat, -1 ≤ conN s land day m ∧ conN s land day m < (m : Int)
  | 0 => by show -1 ≤ (-1 : Int) ∧ (-1 : Int) < _; omega
  | m + 1 => by
    have := conN_b (land := land) (day := day) m
    show -1 ≤ (if _ then _ else _) ∧ (if _ then _ else _) < _
    split <;> omega
theorem IV.g4 (I : IV X H s A B K ow) : zct H X 12 = s 0 44 ∧ 0 ≤ s 0 44 ∧ s 0 44 ≤ 12 ∧ ∀ k : Nat, (k : Int) < s 0 44 → zct H (X + 11) k = ((K k : Nat) : Int) := I.2.1.2.2.2.1
theorem IV.co (I : IV X H s A B K ow) {c : Nat} (hc : (c : Int) < s 0 44) : CO X H s K ow c := I.2.2.2.1 c hc
theorem e_contractAt (I : IV X H s A B K ow) {c : Int} : fH_contractAt X c H = some (if 0 ≤ c ∧ c < s 0 44 then K c.toNat else 0, H) := by
  have F := I.1
  obtain ⟨q1, q2, q3, q4⟩ := I.g4
  unfold fH_contractAt
  simp only [ygi, ygr, yar, ft0 F, zA10, if_true, q1, fp0_11 F, ft11 F, fl11 F]
  by_cases h1 : c < 0
  · rw [if_pos h1, if_neg (by omega)]
  · rw [if_neg h1]
    by_cases h2 : c < s 0 44
    · rw [if_pos h2, if_pos (by omega), if_pos (by omega), if_pos (by omega), q4 c.toNat (by omega), Int.toNat_natCast]
    · rw [if_neg h2, if_neg (by omega)]
theorem e_conN_l (I : IV X H s A B K ow) {land day : Int} : ∀ (n f k : Nat), (s 0 44).toNat - k = n → n < f → k ≤ (s 0 44).toNat → fH_contractNumber_l1 f X land day (conN s land day k) (if conN s land day k < 0 then -1 else s 46 (conN s land day k).toNat) (k : Int) H = some (conN s land day (s 0 44).toNat, H) := by
  have F := I.1
  obtain ⟨q1, q2, q3, q4⟩ := I.g4
  intro n
  induction n with
  | zero =>
    intro f k h1 h2 h3
    obtain ⟨f, rfl⟩ : ∃ f', f = f' + 1 := ⟨f - 1, by omega⟩
    rw [fH_contractNumber_l1]
    simp only [yjn, ygi, ft0 F, zA10, if_true, q1]
    rw [if_neg (by omega), show k = (s 0 44).toNat by omega]
  | succ n ih =>
    intro f k h1 h2 h3
    obtain ⟨f, rfl⟩ : ∃ f', f = f' + 1 := ⟨f - 1, by omega⟩
    have hk : (k : Int) < s 0 44 := by omega
    obtain ⟨⟨m0, m1⟩, ⟨c0, c1, c2, c3, c4, c5, c6⟩, -, ⟨b0, b1, b2, b3⟩, -⟩ := I.co hk
    have e : zadd (k : Int) 1 = ((k + 1 : Nat) : Int) := by rw [zadd_e (by omega) (by omega)]; omega
    have cb := conN_b (s := s) (land := land) (day := day) k
    have z1 : zisA 1 2 = true := rfl
    have := ih f (k + 1) (by omega) (by omega) (by omega)
    have pos := m0.1
    rw [fH_contractNumber_l1]
    simp only [yjn, yvl, ygi, yck, ft0 F, zA10, if_true, q1, hk, e_contractAt I, ybd_s, show (0 ≤ (k : Int) ∧ (k : Int) < s 0 44) by omega, and_self, Int.toNat_natCast, show ¬ K k = 0 by omega, if_false, c0, z1, c1, c2, e]
    rw [← this]
    by_cases g1 : s 45 k = land
    · rw [if_pos g1]
      by_cases g2 : day < s 46 k
      · rw [if_pos g2]
        have e2 : conN s land day (k + 1) = conN s land day k := if_neg (fun w => by have := w.2.1; omega)
        rw [e2]
      · rw [if_neg g2]
        by_cases g3 : conN s land day k < 0
        · have e2 : conN s land day (k + 1) = (k : Int) := if_pos ⟨g1, by omega, Or.inl g3⟩
          rw [if_pos g3, if_neg (by omega), e2, if_neg (by omega), Int.toNat_natCast]
        · rw [if_neg g3]
          by_cases g4 : s 46 k < s 46 (conN s land day k).toNat
          · have e2 : conN s land day (k + 1) = conN s land day k := if_neg (fun w => by have := w.2.2; omega)
            rw [if_pos g4, e2, if_neg g3]
          · have e2 : conN s land day (k + 1) = (k : Int) := if_pos ⟨g1, by omega, Or.inr (by omega)⟩
            rw [if_neg g4, e2, if_neg (by omega), Int.toNat_natCast]
    · rw [if_neg g1]
      have e2 : conN s land day (k + 1) = conN s land day k := if_neg (fun w => g1 w.1)
      rw [e2]
theorem e_conN (I : IV X H s A B K ow) {land day : Int} : fH_contractNumber X land day H = some (conN s land day (s 0 44).toNat, H) := by
  have := I.g4
  exact e_conN_l I (s 0 44).toNat zFU 0 (by omega) (by rw [zFU_e]; omega) (by omega)
theorem m_conN_l {land day : Int} (hn : 0 ≤ s 0 44 ∧ s 0 44 ≤ 12) : ∀ (n f k : Nat), (s 0 44).toNat - k = n → n < f → k ≤ (s 0 44).toNat → gM_contractOf_l1 f land day (conN s land day k) (k : Int) s = some (conN s land day (s 0 44).toNat, s) := by
  intro n
  induction n with
  | zero =>
    intro f k h1 h2 h3
    obtain ⟨f, rfl⟩ : ∃ f', f = f' + 1 := ⟨f - 1, by omega⟩
    rw [gM_contractOf_l1]
    simp only [yjn]
    rw [if_neg (by omega), show k = (s 0 44).toNat by omega]
  | succ n ih =>
    intro f k h1 h2 h3
    obtain ⟨f, rfl⟩ : ∃ f', f = f' + 1 := ⟨f - 1, by omega⟩
    have hk : (k : Int) < s 0 44 := by omega
    have e : zadd (k : Int) 1 = ((k + 1 : Nat) : Int) := by rw [zadd_e (by omega) (by omega)]; omega
    have cb := conN_b (s := s) (land := land) (day := day) k
    have := ih f (k + 1) (by omega) (by omega) (by omega)
    rw [gM_contractOf_l1]
    simp only [yjn, yvl, hk, if_true, yrd_n (show k < 13 by omega), e]
    rw [← this]
    by_cases g1 : s 45 k = land
    · rw [if_pos g1]
      by_cases g2 : day < s 46 k
      · rw [if_pos g2]
        have e2 : conN s land day (k + 1) = conN s land day k := if_neg (fun w => by have := w.2.1; omega)
        rw [e2]
      · rw [if_neg g2]
        by_cases g3 : conN s land day k < 0
        · have e2 : conN s land day (k + 1) = (k : Int) := if_pos ⟨g1, by omega, Or.inl g3⟩
          rw [if_pos g3, e2]
        · have hb : 0 ≤ conN s land day k ∧ conN s land day k < ((13 : Nat) : Int) := by omega
          simp only [yrd, hb, and_self, if_true]
          rw [if_neg g3]
          by_cases g4 : s 46 k < s 46 (conN s land day k).toNat
          · have e2 : conN s land day (k + 1) = conN s land day k := if_neg (fun w => by have := w.2.2; omega)
            rw [if_pos g4, e2]
          · have e2 : conN s land day (k + 1) = (k : Int) := if_pos ⟨g1, by omega, Or.inr (by omega)⟩
            rw [if_neg g4, e2]
    · rw [if_neg g1]
      have e2 : conN s land day (k + 1) = conN s land day k := if_neg (fun w => g1 w.1)
      rw [e2]
theorem m_conN (I : IV X H s A B K ow) {land day : Int} : gM_contractOf land day s = some (conN s land day (s 0 44).toNat, s) := by
  have := I.g4
  exact m_conN_l ⟨this.2.1, this.2.2.1⟩ (s 0 44).toNat zFU 0 (by omega) (by rw [zFU_e]; omega) (by omega)
theorem e_lifeBy (I : IV X H s A B K ow) {c : Int} (hc : -1 ≤ c ∧ c < s 0 44) : fH_lifeBy (if 0 ≤ c ∧ c < s 0 44 then K c.toNat else 0) H = some (if c < 0 then 10 else s 47 c.toNat, H) ∧ 0 ≤ (if c < 0 then 10 else s 47 c.toNat) ∧ (if c < 0 then 10 else s 47 c.toNat) ≤ 999 := by
  unfold fH_lifeBy
  by_cases h : c < 0
  · rw [if_neg (show ¬ (0 ≤ c ∧ c < s 0 44) by omega), if_pos rfl, if_pos h]
    exact ⟨rfl, by omega, by omega⟩
  · obtain ⟨⟨m0, m1⟩, ⟨c0, c1, c2, c3, c4, c5, c6⟩, -, ⟨b0, b1, b2, b3⟩, -⟩ := I.co (c := c.toNat) (by omega)
    have z1 : zisA 1 2 = true := rfl
    have pos := m0.1
    rw [if_pos (show 0 ≤ c ∧ c < s 0 44 by omega), if_neg (by omega), if_neg h]
    simp only [ygi, c0, z1, if_true, c4]
    exact ⟨trivial, b2.1, b2.2⟩
theorem conN_s (I : IV X H s A B K ow) {land day : Int} : -1 ≤ conN s land day (s 0 44).toNat ∧ conN s land day (s 0 44).toNat < s 0 44 := by
  have := conN_b (s := s) (land := land) (day := day) (s 0 44).toNat
  have := I.g4
  omega
def lifeN (s : zSg) (land day : Int) : Int := if conN s land day (s 0 44).toNat < 0 then 10 else s 47 (conN s land day (s 0 44).toNat).toNat
theorem m_life (I : IV X H s A B K ow) {land day : Int} (hl : 0 ≤ land ∧ land ≤ 3) (hd : 0 ≤ day ∧ day ≤ 9999) : gM_lawful land day 1 s = some (lifeN s land day, s) := by
  have cb := conN_s I (land := land) (day := day)
  have := I.g4
  unfold gM_lawful lifeN
  simp only [e_in, m_isDay, ybd_s, hl, hd, and_self, if_true, m_conN I, show (0 ≤ (1 : Int) ∧ (1 : Int) ≤ 3) by omega, show ¬ (1 : Int) = 0 by omega, if_false]
  by_cases g : conN s land day (s 0 44).toNat < 0
  · rw [if_pos g, if_pos g]
  · have hb : 0 ≤ conN s land day (s 0 44).toNat ∧ conN s land day (s 0 44).toNat < ((13 : Nat) : Int) := by omega
    rw [if_neg g, if_neg g]
    simp only [yrd, hb, and_self, if_true]
theorem IV.au (I : IV X H s A B K ow) {a : Int} (ha : 0 ≤ a ∧ a ≤ s 0 8 - 1) : zct H (X + 1) a.toNat = s 9 a.toNat ∧ -1 ≤ s 9 a.toNat ∧ s 9 a.toNat ≤ 9999 ∧ s 0 8 ≤ 12 := by
  obtain ⟨q1, q2, q3, q4, q5, q6, q7, q8⟩ := I.2.1.1
  have := q7 a.toNat (by omega)
  exact ⟨this.1, this.2.1, this.2.2, q6⟩
theorem e_days (I : IV X H s A B K ow) {a day : Int} (ha : 0 ≤ a ∧ a ≤ s 0 8 - 1) (hd : 0 ≤ day ∧ day ≤ 9999) : fH_daysSinceDeath X a day H = some (if s 9 a.toNat < 0 ∨ day < s 9 a.toNat then -1 else day - s 9 a.toNat, H) := by
  have F := I.1
  obtain ⟨u1, u2, u3, u4⟩ := I.au ha
  have hb : 0 ≤ a ∧ a < ((12 : Nat) : Int) := by omega
  unfold fH_daysSinceDeath
  simp only [yck, ygr, yai, ft0 F, zA10, if_true, e_isAuthor I, ybd_s, ha, and_self, show ¬ (1 : Int) = 0 by omega, if_false, fp0_1 F, ft1 F, fl1 F, true_or, hb, u1]
  by_cases g : s 9 a.toNat = -1
  · rw [if_pos g, if_pos (by omega)]
  · rw [if_neg g]
    by_cases g2 : day < s 9 a.toNat
    · rw [if_pos g2, if_pos (by omega)]
    · rw [if_neg g2, if_neg (by omega), zsub_e (by omega) (by omega)]
theorem e_hasRight (I : IV X H s A B K ow) {a day land : Int} (ha : 0 ≤ a ∧ a ≤ s 0 8 - 1) (hl : 0 ≤ land ∧ land ≤ 3) (hd : 0 ≤ day ∧ day ≤ 9999) : ∃ r, (r = 0 ∨ r = 1) ∧ fH_hasRight X a (if 0 ≤ conN s land day (s 0 44).toNat ∧ conN s land day (s 0 44).toNat < s 0 44 then K (conN s land day (s 0 44).toNat).toNat else 0) day H = some (r, H) ∧ gM_hasRight a land day s = some (r, s) := by
  have F := I.1
  obtain ⟨u1, u2, u3, u4⟩ := I.au ha
  have hb : 0 ≤ a ∧ a < ((12 : Nat) : Int) := by omega
  obtain ⟨l1, l2, l3⟩ := e_lifeBy I (conN_s I (land := land) (day := day))
  have ml := m_life I hl hd
  have el : lifeN s land day = if conN s land day (s 0 44).toNat < 0 then 10 else s 47 (conN s land day (s 0 44).toNat).toNat := rfl
  rw [← el] at l1 l2 l3
  unfold fH_hasRight gM_hasRight gM_isAlive
  simp only [yck, ft0 F, zA10, if_true, e_days I ha hd, ybd_s, l1, yrd, hb, and_self]
  generalize lifeN s land day = L at *
  by_cases g : s 9 a.toNat < 0
  · refine ⟨1, Or.inr rfl, ?_, ?_⟩
    · rw [if_pos (Or.inl g), if_pos rfl]
    · rw [if_pos g]; rfl
  · by_cases g2 : day < s 9 a.toNat
    · refine ⟨1, Or.inr rfl, ?_, ?_⟩
      · rw [if_pos (Or.inr g2), if_pos rfl]
      · rw [if_neg g, if_pos g2]; rfl
    · have e1 : zmul L 365 = 365 * L := by rw [zmul_e (by omega) (by omega)]; omega
      have e2 : zmul 365 L = 365 * L := zmul_e (by omega) (by omega)
      have e3 : zsub day (s 9 a.toNat) = day - s 9 a.toNat := zsub_e (by omega) (by omega)
      rw [if_neg (show ¬ (s 9 a.toNat < 0 ∨ day < s 9 a.toNat) by omega), if_neg (show ¬ day - s 9 a.toNat = -1 by omega), if_neg g, if_neg g2, e1]
      simp only [ybd_s, ml, e2, e3, if_true]
      by_cases g3 : day - s 9 a.toNat < 365 * L
      · exact ⟨1, Or.inr rfl, by rw [if_pos g3], by rw [if_pos g3]⟩
      · exact ⟨0, Or.inl rfl, by rw [if_neg g3], by rw [if_neg g3]⟩
theorem k_right (I : IV X H s A B K ow) {a l d : Int} : wX (fH_right X a l d H) fun x H' => wX (gM_right a l d s) fun w s' => w = x ∧ KD X H H' s' := by
  have F := I.1
  unfold fH_right gM_right
  simp only [wX_s, wX_bd, wX_vl, wX_jn, wX_ite, wX_dv, wX_n0, wX_rb, wX_rc, wX_ry, wX_gi, wX_gr, wX_pi, wX_pz, wX_pr, wX_ai, wX_ab, wX_ar, wX_si, wX_sz, wX_sb, wX_sr, wX_ln, wX_nw, wX_na, wX_nm, wX_io, wX_ck, wX_cp, wX_cl, wX_ca, wX_sv, wX_sc, wX_rd, wX_wi, wX_wz, wX_wb, e_isAuthor I, mi_isAuthor I, e_in, e_within, e_isDay, m_isDay, i01, ft0 F, zA10, true_and, e_conN I, e_contractAt I]
  by_cases h : 0 ≤ a ∧ a ≤ s 0 8 - 1
  · simp only [h, and_self, not_true, if_false]
    by_cases h2 : 0 ≤ l ∧ l ≤ 3
    · simp only [h2, and_self, not_true, if_false]
      by_cases h3 : 0 ≤ d ∧ d ≤ 9999
      · obtain ⟨r, r0, r1, r2⟩ := e_hasRight I h h2 h3
        simp only [h3, and_self, not_true, if_false, r1, r2, wX_s]
        rcases r0 with rfl | rfl
        · simp only [if_true]
          (first | exact KD.rf I | exact ⟨trivial, KD.rf I⟩ | exact ⟨rfl, KD.rf I⟩)
        · simp only [show ¬ (1 : Int) = 0 by omega, if_false]
          (first | exact KD.rf I | exact ⟨trivial, KD.rf I⟩ | exact ⟨rfl, KD.rf I⟩)
      · simp only [h3, not_false_iff, if_true]
        (first | exact KD.rf I | exact ⟨trivial, KD.rf I⟩ | exact ⟨rfl, KD.rf I⟩)
    · simp only [h2, not_false_iff, if_true]
      (first | exact KD.rf I | exact ⟨trivial, KD.rf I⟩ | exact ⟨rfl, KD.rf I⟩)
  · simp only [h, not_false_iff, if_true]
    (first | exact KD.rf I | exact ⟨trivial, KD.rf I⟩ | exact ⟨rfl, KD.rf I⟩)
theorem k_lawful (I : IV X H s A B K ow) {l d w : Int} : wX (fH_lawful X l d w H) fun x H' => wX (gM_lawful l d w s) fun w' s' => w' = x ∧ KD X H H' s' := by
  have F := I.1
  have cb := conN_s I (land := l) (day := d)
  obtain ⟨l1, -⟩ := e_lifeBy I cb
  have g4 := I.g4
  unfold fH_lawful gM_lawful
  simp only [wX_s, wX_bd, wX_vl, wX_jn, wX_ite, wX_dv, wX_n0, wX_rb, wX_rc, wX_ry, wX_gi, wX_gr, wX_pi, wX_pz, wX_pr, wX_ai, wX_ab, wX_ar, wX_si, wX_sz, wX_sb, wX_sr, wX_ln, wX_nw, wX_na, wX_nm, wX_io, wX_ck, wX_cp, wX_cl, wX_ca, wX_sv, wX_sc, wX_rd, wX_wi, wX_wz, wX_wb, e_in, e_within, e_isDay, m_isDay, i01, ft0 F, zA10, true_and, e_conN I, m_conN I, e_contractAt I, l1]
  generalize conN s l d (s 0 44).toNat = c at *
  by_cases h2 : 0 ≤ l ∧ l ≤ 3
  · simp only [h2, and_self, not_true, if_false]
    by_cases h3 : 0 ≤ d ∧ d ≤ 9999
    · simp only [h3, and_self, not_true, if_false]
      by_cases w0 : w = 0
      · simp only [w0, if_true, show (0 ≤ (0 : Int) ∧ (0 : Int) ≤ 3) by omega, and_self, not_true, if_false]
        (first | exact KD.rf I | exact ⟨trivial, KD.rf I⟩ | exact ⟨rfl, KD.rf I⟩)
      · by_cases w1 : w = 1
        · have hb : 0 ≤ c → 0 ≤ c ∧ c < ((13 : Nat) : Int) := fun _ => by omega
          simp only [w1, if_true, show ¬ (1 : Int) = 0 by omega, if_false, show (0 ≤ (1 : Int) ∧ (1 : Int) ≤ 3) by omega, and_self, not_true]
          by_cases g : c < 0
          · simp only [g, if_true]
            (first | exact KD.rf I | exact ⟨trivial, KD.rf I⟩ | exact ⟨rfl, KD.rf I⟩)
          · simp only [g, if_false, hb (by omega), and_self, true_and]
            (first | exact KD.rf I | exact ⟨trivial, KD.rf I⟩ | exact ⟨rfl, KD.rf I⟩)
        · by_cases g : c < 0
          · have hz : ¬ (0 ≤ c ∧ c < s 0 44) := by omega
            by_cases w2 : w = 2
            · simp only [w2, if_true, show ¬ (2 : Int) = 0 by omega, show ¬ (2 : Int) = 1 by omega, if_false, show (0 ≤ (2 : Int) ∧ (2 : Int) ≤ 3) by omega, and_self, not_true, g, hz]
              (first | exact KD.rf I | exact ⟨trivial, KD.rf I⟩ | exact ⟨rfl, KD.rf I⟩)
            · by_cases w3 : w = 3
              · simp only [w3, if_true, show ¬ (3 : Int) = 0 by omega, show ¬ (3 : Int) = 1 by omega, show ¬ (3 : Int) = 2 by omega, if_false, show (0 ≤ (3 : Int) ∧ (3 : Int) ≤ 3) by omega, and_self, not_true, g, hz]
                (first | exact KD.rf I | exact ⟨trivial, KD.rf I⟩ | exact ⟨rfl, KD.rf I⟩)
              · simp only [w0, w1, w2, w3, if_false, show ¬ (0 ≤ w ∧ w ≤ 3) by omega, not_false_iff, if_true]
                (first | exact KD.rf I | exact ⟨trivial, KD.rf I⟩ | exact ⟨rfl, KD.rf I⟩)
          · have hz : 0 ≤ c ∧ c < s 0 44 := by omega
            have hb : 0 ≤ c ∧ c < ((13 : Nat) : Int) := by omega
            obtain ⟨⟨m0, m1⟩, ⟨c0, c1, c2, c3, c4, c5, c6⟩, -⟩ := I.co (c := c.toNat) (by omega)
            have z1 : zisA 1 2 = true := rfl
            have pos := m0.1
            have hK : ¬ K c.toNat = 0 := by omega
            by_cases w2 : w = 2
            · simp only [w2, if_true, show ¬ (2 : Int) = 0 by omega, show ¬ (2 : Int) = 1 by omega, if_false, show (0 ≤ (2 : Int) ∧ (2 : Int) ≤ 3) by omega, and_self, not_true, g, hz, hK, c0, z1, c5, hb, true_and]
              (first | exact KD.rf I | exact ⟨trivial, KD.rf I⟩ | exact ⟨rfl, KD.rf I⟩)
            · by_cases w3 : w = 3
              · simp only [w3, if_true, show ¬ (3 : Int) = 0 by omega, show ¬ (3 : Int) = 1 by omega, show ¬ (3 : Int) = 2 by omega, if_false, show (0 ≤ (3 : Int) ∧ (3 : Int) ≤ 3) by omega, and_self, not_true, g, hz, hK, c0, z1, c6, hb, true_and]
                (first | exact KD.rf I | exact ⟨trivial, KD.rf I⟩ | exact ⟨rfl, KD.rf I⟩)
              · simp only [w0, w1, w2, w3, if_false, show ¬ (0 ≤ w ∧ w ≤ 3) by omega, not_false_iff, if_true]
                (first | exact KD.rf I | exact ⟨trivial, KD.rf I⟩ | exact ⟨rfl, KD.rf I⟩)
    · simp only [h3, not_false_iff, if_true]
      (first | exact KD.rf I | exact ⟨trivial, KD.rf I⟩ | exact ⟨rfl, KD.rf I⟩)
  · simp only [h2, not_false_iff, if_true]
    (first | exact KD.rf I | exact ⟨trivial, KD.rf I⟩ | exact ⟨rfl, KD.rf I⟩)
end LAWFUL
