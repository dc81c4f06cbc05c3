/-- the reading of contract c changes: its numbers, and the code from place l on -/
def SC (c l : Nat) (s s' : zSg) : Prop := ∀ k j, ¬ (k = 0 ∧ (j = 57 ∨ j = 58 ∨ j = 60 ∨ j = 61)) → ¬ ((k = 55 ∨ k = 56) ∧ 140 * c + l ≤ j) → s' k j = s k j
theorem SC.rf {c l : Nat} {s : zSg} : SC c l s s := fun _ _ _ _ => rfl
theorem SC.tr {c l l2 : Nat} {a b d : zSg} (h : SC c l a b) (g : SC c l2 b d) (hl : l ≤ l2) : SC c l a d := fun k j w1 w2 => (g k j w1 (fun w => w2 ⟨w.1, by have := w.2; omega⟩)).trans (h k j w1 w2)
theorem SC.up {c l : Nat} {s : zSg} {j : Nat} {v : Int} (hj : j = 57 ∨ j = 58 ∨ j = 60 ∨ j = 61) : SC c l s (zup s 0 j v) := fun k i w _ => by
  unfold zup
  rw [if_neg]
  rintro ⟨e1, e2⟩
  exact w ⟨e1, by rw [e2]; exact hj⟩
theorem SC.of {c l : Nat} {s s' : zSg} (h : SR s s') : SC c l s s' := fun k j w _ => h k j (by omega)
theorem LK.sc {c l : Nat} {s s' : zSg} {n : Nat} {f : Nat → Int} (h : LK s n f) (r : SC c l s s') : LK s' n f := by
  obtain ⟨a, b, d⟩ := h
  refine ⟨by rw [r 0 43 (by omega) (by omega)]; exact a, b, fun k hk => by rw [r 42 k (by omega) (by omega)]; exact d k hk⟩
/-- a step is laid behind the others -/
theorem m_lay {s : zSg} {c l : Nat} {w x : Int} (hc : s 0 59 = (c : Int)) (c12 : c ≤ 12) (hl : s 0 58 = (l : Int)) (l140 : l < 140) : ∃ s', gM_lay w x s = some ((), s') ∧ SC c l s s' ∧ s' 0 58 = ((l + 1 : Nat) : Int) ∧ (∀ j, j ≠ 58 → s' 0 j = s 0 j) ∧ s' 55 (140 * c + l) = w ∧ s' 56 (140 * c + l) = x := by
  have ei : zadd (zmul 140 (c : Int)) (l : Int) = ((140 * c + l : Nat) : Int) := by rw [zmul_e (by omega) (by omega), zadd_e (by omega) (by omega)]; omega
  have el : zadd (l : Int) 1 = ((l + 1 : Nat) : Int) := by rw [zadd_e (by omega) (by omega)]; omega
  have b : 140 * c + l < 1820 := by omega
  obtain ⟨s1, e1⟩ : ∃ s1, s1 = zup s 55 (140 * c + l) w := ⟨_, rfl⟩
  obtain ⟨s2, e2⟩ : ∃ s2, s2 = zup s1 56 (140 * c + l) x := ⟨_, rfl⟩
  have a1 : s1 0 59 = (c : Int) := by rw [e1]; exact hc
  have a2 : s1 0 58 = (l : Int) := by rw [e1]; exact hl
  have a3 : s2 0 58 = (l : Int) := by rw [e2]; exact a2
  refine ⟨zup s2 0 58 ((l + 1 : Nat) : Int), ?_, ?_, rfl, fun j hj => ?_, ?_, ?_⟩
  · unfold gM_lay
    rw [hc, hl, ei, ywi_n b, ← e1, a1, a2, ei, ywi_n b, ← e2, a3, el]
    rfl
  · intro k j g1 g2
    rw [e2, e1]
    unfold zup
    rw [if_neg (by omega), if_neg (by omega), if_neg (by omega)]
  · rw [e2, e1]
    unfold zup
    rw [if_neg (by omega), if_neg (by omega), if_neg (by omega)]
  · rw [e2, e1]
    unfold zup
    rw [if_neg (by omega), if_neg (by omega), if_pos ⟨rfl, rfl⟩]
  · rw [e2, e1]
    unfold zup
    rw [if_neg (by omega), if_pos ⟨rfl, rfl⟩]
