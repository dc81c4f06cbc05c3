/-! THINGS by their numbers -/
def tgk (k : Int) : Nat := if k = 1 ∨ k = 6 then 9 else if k = 2 ∨ k = 5 then 6 else if k = 3 then 7 else if k = 4 then 3 else 4
theorem tgk_20 {k : Int} : zisA 20 (tgk k) = true := by
  unfold tgk
  repeat' split
  all_goals rfl
theorem tgk_8 {k : Int} : (zisA 8 (tgk k) = true) ↔ (k = 1 ∨ k = 6) := by
  unfold tgk
  repeat' split
  all_goals simp [zisA, *]
theorem tgk_5 {k : Int} : (zisA 5 (tgk k) = true) ↔ (k = 2 ∨ k = 5) := by
  unfold tgk
  split
  · rename_i h
    simp only [zisA]
    simp
    omega
  · split
    · rename_i h; simp [zisA, h]
    · rename_i h
      repeat' split
      all_goals (simp only [zisA]; simp; omega)
theorem tgk_6 {k : Int} : (zisA 6 (tgk k) = true) ↔ k = 3 := by
  unfold tgk
  split
  · simp only [zisA]; simp; omega
  · split
    · simp only [zisA]; simp; omega
    · repeat' split
      all_goals (simp only [zisA]; simp; omega)
theorem tgk_2 {k : Int} : (zisA 2 (tgk k) = true) ↔ k = 4 := by
  unfold tgk
  split
  · simp only [zisA]; simp; omega
  · split
    · simp only [zisA]; simp; omega
    · repeat' split
      all_goals (simp only [zisA]; simp; omega)
theorem tgk_3 {k : Int} (h1 : 1 ≤ k) (h2 : k ≤ 7) : (zisA 3 (tgk k) = true) ↔ k = 7 := by
  unfold tgk
  split
  · simp only [zisA]; simp; omega
  · split
    · simp only [zisA]; simp; omega
    · repeat' split
      all_goals (simp only [zisA]; simp; omega)
section THINGS
variable {X : Nat} {H : zHp} {s : zSg} {A : Nat → Nat} {B : Nat → Nat → Nat} {K : Nat → Nat} {ow : Nat → Nat × Nat}
theorem IV.n (I : IV X H s A B K ow) : 0 ≤ s 0 2 ∧ s 0 2 ≤ 60 := ⟨I.2.1.2.2.2.2.2.2.2.2.2.2.1, I.2.1.2.2.2.2.2.2.2.2.2.2.2.1⟩
theorem IV.to (I : IV X H s A B K ow) {t : Nat} (ht : (t : Int) < s 0 2) : TO X H s A B ow t := (I.2.2.1 t ht).1
theorem IV.st (I : IV X H s A B K ow) {t : Nat} (ht : (t : Int) < s 0 2) : SIt s t := I.2.2.2.2.1.1 t ht
/-- a thing's own cell: its place, its kind, its number -/
theorem IV.hd (I : IV X H s A B K ow) {t : Nat} (ht : (t : Int) < s 0 2) : My X H ow (A t) (t + 1) 0 ∧ ztg H (A t) = tgk (s 3 t) ∧ zct H (A t) 0 = s 3 t ∧ zct H (A t) 1 = (t : Int) := by
  have h := I.to ht
  have k := (I.st ht).1
  unfold tgk
  by_cases h1 : s 3 t = 1 ∨ s 3 t = 6
  · obtain ⟨⟨m0, -, -⟩, ⟨a, b, c, -⟩, -⟩ := h.1 h1
    rw [if_pos h1]
    exact ⟨m0, a, b, c⟩
  · rw [if_neg h1]
    by_cases h2 : s 3 t = 2 ∨ s 3 t = 5
    · obtain ⟨m0, ⟨a, b, c, -⟩, -⟩ := h.2.1 h2
      rw [if_pos h2]
      exact ⟨m0, a, b, c⟩
    · rw [if_neg h2]
      by_cases h3 : s 3 t = 3
      · obtain ⟨⟨m0, -, -⟩, ⟨a, b, c, -⟩, -⟩ := h.2.2.1 h3
        rw [if_pos h3]
        exact ⟨m0, a, b, c⟩
      · rw [if_neg h3]
        by_cases h4 : s 3 t = 4
        · obtain ⟨⟨m0, -⟩, ⟨a, b, c, -⟩, -⟩ := h.2.2.2.1 h4
          rw [if_pos h4]
          exact ⟨m0, a, b, c⟩
        · rw [if_neg h4]
          obtain ⟨m0, ⟨a, b, c, -⟩⟩ := h.2.2.2.2 (by omega)
          exact ⟨m0, a, b, c⟩
theorem e_thingAt (I : IV X H s A B K ow) {t : Int} : fH_thingAt X t H = some (if 0 ≤ t ∧ t ≤ s 0 2 - 1 then A t.toNat else 0, H) := by
  have F := I.1
  obtain ⟨q1, q2, q3, q4⟩ := I.2.1.2.2.2.2.2.2.2.2.2
  have q1' : zct H X 4 = s 0 2 := q1
  unfold fH_thingAt
  by_cases h1 : t < 0
  · rw [if_pos h1, if_neg (by omega)]
  · rw [if_neg h1]
    simp only [ygi, ygr, yar, ft0 F, zA10, if_true, q1', fp0_3 F, ft2 F, fl2 F]
    by_cases h2 : t < s 0 2
    · have q5 : zct H (X + 2) t.toNat = ((A t.toNat : Nat) : Int) := q4 t.toNat (by omega)
      rw [if_pos h2, if_pos (by omega), if_pos (by simp; omega), q5, Int.toNat_natCast, if_pos (by omega)]
    · rw [if_neg h2, if_neg (by omega)]
theorem mi_isThing (I : IV X H s A B K ow) {t : Int} : gM_isThing t s = some (if 0 ≤ t ∧ t ≤ s 0 2 - 1 then 1 else 0, s) := by
  have := I.n
  rw [m_isThing, zsub_e (by omega) (by omega)]
theorem IV.pos (I : IV X H s A B K ow) {t : Nat} (ht : (t : Int) < s 0 2) : X + 99 < A t ∧ A t ≤ znx H := ⟨(I.hd ht).1.1, (I.hd ht).1.2.1⟩
theorem e_scoreAt (I : IV X H s A B K ow) {t : Int} : fH_scoreAt X t H = some (if (0 ≤ t ∧ t ≤ s 0 2 - 1) ∧ (s 3 t.toNat = 1 ∨ s 3 t.toNat = 6) then A t.toNat else 0, H) := by
  have F := I.1
  unfold fH_scoreAt
  simp only [yck, ft0 F, zA10, if_true, e_thingAt I, ybd_s, yio]
  by_cases h : 0 ≤ t ∧ t ≤ s 0 2 - 1
  · have hp := I.pos (t := t.toNat) (by omega)
    obtain ⟨-, hg, -, -⟩ := I.hd (t := t.toNat) (by omega)
    simp only [h, and_self, if_true, hg, tgk_20, or_true, tgk_8, true_and, i01]
    by_cases h2 : s 3 t.toNat = 1 ∨ s 3 t.toNat = 6
    · simp only [h2, not_true, if_false, if_true]
    · simp only [h2, not_false_iff, if_true, if_false]
  · simp only [h, if_false, true_or, if_true, false_and, F.2.1.2, show zisA 8 0 = false from rfl]
    rfl
theorem e_partAt (I : IV X H s A B K ow) {t : Int} : fH_partAt X t H = some (if (0 ≤ t ∧ t ≤ s 0 2 - 1) ∧ (s 3 t.toNat = 2 ∨ s 3 t.toNat = 5) then A t.toNat else 0, H) := by
  have F := I.1
  unfold fH_partAt
  simp only [yck, ft0 F, zA10, if_true, e_thingAt I, ybd_s, yio]
  by_cases h : 0 ≤ t ∧ t ≤ s 0 2 - 1
  · have hp := I.pos (t := t.toNat) (by omega)
    obtain ⟨-, hg, -, -⟩ := I.hd (t := t.toNat) (by omega)
    have hk := (I.st (t := t.toNat) (by omega)).1
    simp only [h, and_self, if_true, hg, tgk_20, or_true, tgk_5, true_and, i01]
    by_cases h2 : s 3 t.toNat = 2 ∨ s 3 t.toNat = 5
    · simp only [h2, not_true, if_false, if_true]
    · simp only [h2, not_false_iff, if_true, if_false]
  · simp only [h, if_false, true_or, if_true, false_and, F.2.1.2, show zisA 5 0 = false from rfl]
    rfl
theorem e_plateAt (I : IV X H s A B K ow) {t : Int} : fH_plateAt X t H = some (if (0 ≤ t ∧ t ≤ s 0 2 - 1) ∧ (s 3 t.toNat = 3) then A t.toNat else 0, H) := by
  have F := I.1
  unfold fH_plateAt
  simp only [yck, ft0 F, zA10, if_true, e_thingAt I, ybd_s, yio]
  by_cases h : 0 ≤ t ∧ t ≤ s 0 2 - 1
  · have hp := I.pos (t := t.toNat) (by omega)
    obtain ⟨-, hg, -, -⟩ := I.hd (t := t.toNat) (by omega)
    have hk := (I.st (t := t.toNat) (by omega)).1
    simp only [h, and_self, if_true, hg, tgk_20, or_true, tgk_6, true_and, i01]
    by_cases h2 : s 3 t.toNat = 3
    · simp only [h2, not_true, if_false, if_true]
    · simp only [h2, not_false_iff, if_true, if_false]
  · simp only [h, if_false, true_or, if_true, false_and, F.2.1.2, show zisA 6 0 = false from rfl]
    rfl
theorem e_editionAt (I : IV X H s A B K ow) {t : Int} : fH_editionAt X t H = some (if (0 ≤ t ∧ t ≤ s 0 2 - 1) ∧ (s 3 t.toNat = 4) then A t.toNat else 0, H) := by
  have F := I.1
  unfold fH_editionAt
  simp only [yck, ft0 F, zA10, if_true, e_thingAt I, ybd_s, yio]
  by_cases h : 0 ≤ t ∧ t ≤ s 0 2 - 1
  · have hp := I.pos (t := t.toNat) (by omega)
    obtain ⟨-, hg, -, -⟩ := I.hd (t := t.toNat) (by omega)
    have hk := (I.st (t := t.toNat) (by omega)).1
    simp only [h, and_self, if_true, hg, tgk_20, or_true, tgk_2, true_and, i01]
    by_cases h2 : s 3 t.toNat = 4
    · simp only [h2, not_true, if_false, if_true]
    · simp only [h2, not_false_iff, if_true, if_false]
  · simp only [h, if_false, true_or, if_true, false_and, F.2.1.2, show zisA 2 0 = false from rfl]
    rfl
theorem e_erratumAt (I : IV X H s A B K ow) {t : Int} : fH_erratumAt X t H = some (if (0 ≤ t ∧ t ≤ s 0 2 - 1) ∧ (s 3 t.toNat = 7) then A t.toNat else 0, H) := by
  have F := I.1
  unfold fH_erratumAt
  simp only [yck, ft0 F, zA10, if_true, e_thingAt I, ybd_s, yio]
  by_cases h : 0 ≤ t ∧ t ≤ s 0 2 - 1
  · have hp := I.pos (t := t.toNat) (by omega)
    obtain ⟨-, hg, -, -⟩ := I.hd (t := t.toNat) (by omega)
    have hk := (I.st (t := t.toNat) (by omega)).1
    simp only [h, and_self, if_true, hg, tgk_20, or_true, tgk_3 hk.1 hk.2, true_and, i01]
    by_cases h2 : s 3 t.toNat = 7
    · simp only [h2, not_true, if_false, if_true]
    · simp only [h2, not_false_iff, if_true, if_false]
  · simp only [h, if_false, true_or, if_true, false_and, F.2.1.2, show zisA 3 0 = false from rfl]
    rfl
theorem e_setAt (I : IV X H s A B K ow) {t : Int} : fH_setAt X t H = some (if (0 ≤ t ∧ t ≤ s 0 2 - 1) ∧ s 3 t.toNat = 5 then A t.toNat else 0, H) := by
  have F := I.1
  unfold fH_setAt
  simp only [yck, ft0 F, zA10, if_true, e_partAt I, ybd_s, ygi]
  by_cases h : 0 ≤ t ∧ t ≤ s 0 2 - 1
  · have hp := I.pos (t := t.toNat) (by omega)
    obtain ⟨-, hg, h0, -⟩ := I.hd (t := t.toNat) (by omega)
    simp only [h, and_self, true_and]
    by_cases h2 : s 3 t.toNat = 5
    · simp only [h2, or_true, if_true, show ¬ A t.toNat = 0 by omega, if_false, hg, h0, tgk_5.mpr (Or.inr rfl)]
    · by_cases h3 : s 3 t.toNat = 2
      · simp only [h3, true_or, if_true, show ¬ A t.toNat = 0 by omega, if_false, hg, h0, tgk_5.mpr (Or.inl rfl), show ¬ (2 : Int) = 5 by omega]
      · simp only [h2, h3, or_self, if_false, if_true]
  · simp only [h, false_and, if_false, if_true]
theorem e_lacking (I : IV X H s A B K ow) {t : Int} : fH_lacking X t H = some (if 0 ≤ t ∧ t ≤ s 0 2 - 1 then -12 else -1, H) := by
  have F := I.1
  unfold fH_lacking
  simp only [yck, ft0 F, zA10, if_true, e_thingAt I, ybd_s]
  by_cases h : 0 ≤ t ∧ t ≤ s 0 2 - 1
  · have hp := I.pos (t := t.toNat) (by omega)
    simp only [h, and_self, if_true, show ¬ A t.toNat = 0 by omega, if_false]
  · simp only [h, if_false, if_true]
theorem mi_isMusic (I : IV X H s A B K ow) {t : Int} (h : 0 ≤ t ∧ t ≤ s 0 2 - 1) : gM_isMusic t s = some (if s 3 t.toNat = 1 ∨ s 3 t.toNat = 6 then 1 else 0, s) := by
  have := I.n
  unfold gM_isMusic
  have hb : 0 ≤ t ∧ t < ((60 : Nat) : Int) := by omega
  simp only [yrd, hb, and_self, if_true]
  by_cases h1 : s 3 t.toNat = 1
  · simp [h1]
  · by_cases h2 : s 3 t.toNat = 6
    · simp [h2]
    · simp [h1, h2]
theorem mi_isPart (I : IV X H s A B K ow) {t : Int} (h : 0 ≤ t ∧ t ≤ s 0 2 - 1) : gM_isPart t s = some (if s 3 t.toNat = 2 ∨ s 3 t.toNat = 5 then 1 else 0, s) := by
  have := I.n
  unfold gM_isPart
  have hb : 0 ≤ t ∧ t < ((60 : Nat) : Int) := by omega
  simp only [yrd, hb, and_self, if_true]
  by_cases h1 : s 3 t.toNat = 2
  · simp [h1]
  · by_cases h2 : s 3 t.toNat = 5
    · simp [h2]
    · simp [h1, h2]
theorem e_hasVoice (I : IV X H s A B K ow) {t : Nat} {v : Int} (ht : (t : Int) < s 0 2) (hk : s 3 t = 1 ∨ s 3 t = 6) : fScore_hasVoice (A t) v H = some (if 0 ≤ v ∧ v ≤ s 6 t - 1 then 1 else 0, H) := by
  obtain ⟨-, ⟨h0, -, -, -, -, h6, -⟩, -⟩ := (I.to ht).1 hk
  have hs := ((I.st ht).2.1 hk).2.1
  unfold fScore_hasVoice
  by_cases h1 : v < 0
  · rw [if_pos h1, if_neg (by omega)]
  · rw [if_neg h1]
    simp only [ygi, h0, zA8, if_true, h6]
    by_cases h2 : v < s 6 t
    · rw [if_pos h2, if_pos (by omega), if_pos (by omega)]
    · rw [if_neg h2, if_neg (by omega)]
end THINGS
