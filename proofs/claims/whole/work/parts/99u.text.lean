/-! TEXT: the reference reads it -/
def LK (s : zSg) (n : Nat) (f : Nat → Int) : Prop := s 0 43 = (n : Int) ∧ n ≤ 120 ∧ ∀ k, k < n → f k = s 42 k % 256 ∧ -128 ≤ s 42 k ∧ s 42 k < 128
/-- only the reading's numbers change -/
def SR (s s' : zSg) : Prop := ∀ k j, ¬ (k = 0 ∧ (j = 57 ∨ j = 61)) → s' k j = s k j
theorem SR.rf {s : zSg} : SR s s := fun _ _ _ => rfl
theorem SR.tr {a b c : zSg} (h : SR a b) (g : SR b c) : SR a c := fun k j w => (g k j w).trans (h k j w)
theorem SR.up {s : zSg} {j : Nat} {v : Int} (hj : j = 57 ∨ j = 61) : SR s (zup s 0 j v) := fun k i w => by
  unfold zup
  rw [if_neg]
  rintro ⟨e1, e2⟩
  exact w ⟨e1, by rw [e2]; exact hj⟩
theorem LK.sr {s s' : zSg} {n : Nat} {f : Nat → Int} (h : LK s n f) (r : SR s s') : LK s' n f := by
  obtain ⟨a, b, c⟩ := h
  refine ⟨by rw [r 0 43 (by omega)]; exact a, b, fun k hk => by rw [r 42 k (by omega)]; exact c k hk⟩
def isD (n : Nat) (f : Nat → Int) (p : Nat) : Prop := 48 ≤ chr1 n f p ∧ chr1 n f p ≤ 57
section TEXT5
variable {s : zSg} {n p : Nat} {f : Nat → Int}
theorem m_look (h : LK s n f) (hp : s 0 57 = (p : Int)) : ∃ v, gM_look s = some (v, s) ∧ ∀ u, 0 ≤ u → u < 128 → (v = u ↔ chr1 n f p = u) := by
  obtain ⟨a, b, c⟩ := h
  unfold gM_look
  by_cases g : p < n
  · obtain ⟨c1, c2, c3⟩ := c p g
    have e : chr1 n f p = f p := if_pos g
    refine ⟨s 42 p, ?_, fun u h1 h2 => by omega⟩
    rw [hp, a, if_pos (by omega), yrd_n (by omega)]
  · have e : chr1 n f p = -1 := if_neg g
    refine ⟨-1, ?_, fun u h1 h2 => by omega⟩
    rw [hp, a, if_neg (by omega)]
theorem m_takes (h : LK s n f) (hp : s 0 57 = (p : Int)) (hn : p ≤ n) {u : Int} (h1 : 0 ≤ u) (h2 : u < 128) : gM_takes0 u s = if chr1 n f p = u then some (1, zup s 0 57 ((p + 1 : Nat) : Int)) else some (0, s) := by
  obtain ⟨v, v1, v2⟩ := m_look h hp
  have n120 := h.2.1
  have ep : zadd (p : Int) 1 = ((p + 1 : Nat) : Int) := by rw [zadd_e (by omega) (by omega)]; omega
  unfold gM_takes0
  rw [v1, ybd_s]
  by_cases c : chr1 n f p = u
  · rw [if_pos ((v2 u h1 h2).mpr c), if_pos c, hp, ep]
    rfl
  · rw [if_neg (fun w => c ((v2 u h1 h2).mp w)), if_neg c]
theorem chr_lt {p : Nat} (h : 0 ≤ chr1 n f p) : p < n := by
  by_cases g : p < n
  · exact g
  · have e : chr1 n f p = -1 := if_neg g
    omega
theorem m_digits_l : ∀ (k g p x : Nat) (s : zSg), ((k = 0 ∧ x ≤ 999) ∨ (k = 1 ∧ x ≤ 99) ∨ (k = 2 ∧ x ≤ 9) ∨ (k = 3 ∧ x = 0)) → k < g → p ≤ n → LK s n f → s 0 57 = (p : Int) → s 0 61 = (x : Int) → ∃ (s2 : zSg) (c : Nat), (∀ Q, gM_digits_l1 g ((3 - k : Nat) : Int) s Q = Q (c : Int) s2) ∧ SR s s2 ∧ s2 0 57 = ((nmb n f k p x).2 : Int) ∧ s2 0 61 = ((nmb n f k p x).1 : Int) ∧ 3 - k ≤ c ∧ (0 < k → isD n f p → 3 - k < c) ∧ (¬ isD n f p → c = 3 - k) := by
  intro k
  induction k with
  | zero =>
    intro g p x s h1 h2 h3 lk e1 e2
    obtain ⟨g, rfl⟩ : ∃ g', g = g' + 1 := ⟨g - 1, by omega⟩
    refine ⟨s, 3, fun Q => ?_, SR.rf, e1, e2, Nat.le_refl _, fun w => absurd w (by decide), fun _ => rfl⟩
    rw [gM_digits_l1, if_neg (by omega)]
  | succ k ih =>
    intro g p x s h1 h2 h3 lk e1 e2
    obtain ⟨g, rfl⟩ : ∃ g', g = g' + 1 := ⟨g - 1, by omega⟩
    obtain ⟨v, v1, v2⟩ := m_look lk e1
    have n120 := lk.2.1
    have k3 : ((3 - (k + 1) : Nat) : Int) < 3 := by omega
    have em : nmb n f (k + 1) p x = if 48 ≤ chr1 n f p ∧ chr1 n f p ≤ 57 then nmb n f k (p + 1) (10 * x + (chr1 n f p - 48).toNat) else (x, p) := rfl
    have vd : (48 ≤ v ∧ v ≤ 57) ↔ isD n f p := by
      constructor
      · intro w
        have := (v2 v (by omega) (by omega)).mp rfl
        unfold isD
        omega
      · intro w
        unfold isD at w
        have := (v2 (chr1 n f p) (by omega) (by omega)).mpr rfl
        omega
    by_cases c : isD n f p
    · have c' : 48 ≤ chr1 n f p ∧ chr1 n f p ≤ 57 := c
      have ev : v = chr1 n f p := (v2 (chr1 n f p) (by omega) (by omega)).mpr rfl
      have pn := chr_lt (n := n) (f := f) (p := p) (by omega)
      have ex : zsub (zadd (zmul 10 (x : Int)) v) 48 = ((10 * x + (chr1 n f p - 48).toNat : Nat) : Int) := by
        rw [zmul_e (by omega) (by omega), zadd_e (by omega) (by omega), zsub_e (by omega) (by omega)]
        omega
      have ep : zadd (p : Int) 1 = ((p + 1 : Nat) : Int) := by rw [zadd_e (by omega) (by omega)]; omega
      have ek : zadd ((3 - (k + 1) : Nat) : Int) 1 = ((3 - k : Nat) : Int) := by rw [zadd_e (by omega) (by omega)]; omega
      obtain ⟨s1, es1⟩ : ∃ s1, s1 = zup (zup s 0 61 ((10 * x + (chr1 n f p - 48).toNat : Nat) : Int)) 0 57 ((p + 1 : Nat) : Int) := ⟨_, rfl⟩
      have r1 : SR s s1 := by rw [es1]; exact (SR.up (Or.inr rfl)).tr (SR.up (Or.inl rfl))
      obtain ⟨s2, d, i1, i2, i3, i4, i5, i6, i7⟩ := ih g (p + 1) (10 * x + (chr1 n f p - 48).toNat) s1 (by omega) (by omega) pn (lk.sr r1) (by rw [es1]; rfl) (by rw [es1]; rfl)
      refine ⟨s2, d, fun Q => ?_, r1.tr i2, by rw [em, if_pos c']; exact i3, by rw [em, if_pos c']; exact i4, by omega, fun _ _ => by omega, fun w => absurd c w⟩
      have e57 : zup s 0 61 ((10 * x + (chr1 n f p - 48).toNat : Nat) : Int) 0 57 = (p : Int) := e1
      rw [← i1 Q, gM_digits_l1, if_pos k3]
      simp only [v1, ybd_s, e_in, i01, vd.mpr c, not_true, if_false, and_self, yvl, e2, ex, e57, ep, ek, ← es1]
    · have c' : ¬ (48 ≤ chr1 n f p ∧ chr1 n f p ≤ 57) := c
      refine ⟨s, 3 - (k + 1), fun Q => ?_, SR.rf, by rw [em, if_neg c']; exact e1, by rw [em, if_neg c']; exact e2, Nat.le_refl _, fun _ w => absurd w c, fun _ => rfl⟩
      rw [gM_digits_l1, if_pos k3]
      simp only [v1, ybd_s, e_in, i01]
      rw [if_pos (fun w => c (vd.mp w))]
theorem m_digits (h : LK s n f) (hp : s 0 57 = (p : Int)) (hn : p ≤ n) : ∃ r s2, gM_digits s = some (r, s2) ∧ SR s s2 ∧ ((isD n f p ∧ r = 1 ∧ s2 0 57 = ((nmb n f 3 p 0).2 : Int) ∧ s2 0 61 = ((nmb n f 3 p 0).1 : Int)) ∨ (¬ isD n f p ∧ r = 0 ∧ s2 0 57 = (p : Int))) := by
  have r1 : SR s (zup s 0 61 0) := SR.up (Or.inr rfl)
  obtain ⟨s2, c, i1, i2, i3, i4, i5, i6, i7⟩ := m_digits_l 3 zFU p 0 (zup s 0 61 0) (by omega) (by rw [zFU_e]; omega) hn (h.sr r1) hp rfl
  have i1' : ∀ Q, gM_digits_l1 zFU 0 (zup s 0 61 0) Q = Q (c : Int) s2 := i1
  have em : nmb n f 3 p 0 = if 48 ≤ chr1 n f p ∧ chr1 n f p ≤ 57 then nmb n f 2 (p + 1) (10 * 0 + (chr1 n f p - 48).toNat) else (0, p) := rfl
  unfold gM_digits
  simp only [yvl, i1']
  by_cases d : isD n f p
  · have := i6 (by omega) d
    rw [if_pos (by omega)]
    exact ⟨1, s2, rfl, r1.tr i2, Or.inl ⟨d, rfl, i3, i4⟩⟩
  · have := i7 d
    have d' : ¬ (48 ≤ chr1 n f p ∧ chr1 n f p ≤ 57) := d
    rw [em, if_neg d'] at i3
    rw [if_neg (by omega)]
    exact ⟨0, s2, rfl, r1.tr i2, Or.inr ⟨d, rfl, i3⟩⟩
end TEXT5
