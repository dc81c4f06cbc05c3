/-! THE MACHINE AT THE LAW'S ENTRY: the plain heap keeps its rules -/
theorem en_cases (s : State) (a : Nat) : enT s a = (0, 0, fun _ => 0) ∨ (0 < a ∧ ∃ v, enS s (a - 1) v ∧ enT s a = (50, 0, enV v)) ∨ (0 < a ∧ ∃ q, enI s (a - 1) .int q ∧ enT s a = (40, q.1, fun k => (q.2 k).toInt)) ∨ (0 < a ∧ ∃ q, enI s (a - 1) .byte q ∧ enT s a = (41, q.1, fun k => (q.2 k).toInt)) := by
  unfold enT
  by_cases h0 : a = 0
  · exact Or.inl (if_pos h0)
  · rw [if_neg h0]
    by_cases h1 : ∃ v, enS s (a - 1) v
    · exact Or.inr (Or.inl ⟨by omega, Classical.choose h1, Classical.choose_spec h1, dif_pos h1⟩)
    · rw [dif_neg h1]
      by_cases h2 : ∃ q, enI s (a - 1) .int q
      · exact Or.inr (Or.inr (Or.inl ⟨by omega, Classical.choose h2, Classical.choose_spec h2, dif_pos h2⟩))
      · rw [dif_neg h2]
        by_cases h3 : ∃ q, enI s (a - 1) .byte q
        · exact Or.inr (Or.inr (Or.inr ⟨by omega, Classical.choose h3, Classical.choose_spec h3, dif_pos h3⟩))
        · exact Or.inl (dif_neg h3)
theorem enH_t (s : State) (a : Nat) : ztg (enH s) a = (enT s a).1 ∧ zln (enH s) a = (enT s a).2.1 ∧ ∀ k, zct (enH s) a k = (enT s a).2.2 k := ⟨rfl, rfl, fun _ => rfl⟩
theorem en_lt {s : State} {a : Nat} {cell : Cell} (h0 : 0 < a) (h : s.heap[a - 1]? = some cell) : a ≤ s.heap.size := by
  have := (Array.getElem?_eq_some_iff.mp h).1
  omega
theorem enI_lt {s : State} {a : Nat} {ty : FieldType} {q : Nat × (Nat → Int32)} (h0 : 0 < a) (h : enI s (a - 1) ty q) : a ≤ s.heap.size := by
  obtain ⟨-, cell, h1, -⟩ := h
  exact en_lt h0 h1
theorem enS_lt {s : State} {a v : Nat} (h0 : 0 < a) (h : enS s (a - 1) v) : a ≤ s.heap.size := by
  obtain ⟨⟨cell, h1, -⟩, -⟩ := h
  exact en_lt h0 h1
theorem en_inv (s : State) : zinv s.heap.size (enH s) := by
  refine ⟨Nat.le_refl _, fun a => ?_, fun a k hk => ?_, fun a => ?_⟩
  · obtain ⟨t1, -, -⟩ := enH_t s a
    unfold zTg
    rw [t1]
    rcases en_cases s a with e | ⟨h0, v, h, e⟩ | ⟨h0, q, h, e⟩ | ⟨h0, q, h, e⟩
    · rw [e]; exact Or.inl rfl
    · rw [e]; exact Or.inr (Or.inr ⟨Or.inr (Or.inr rfl), h0, enS_lt h0 h⟩)
    · rw [e]; exact Or.inr (Or.inr ⟨Or.inl rfl, h0, enI_lt h0 h⟩)
    · rw [e]; exact Or.inr (Or.inr ⟨Or.inr (Or.inl rfl), h0, enI_lt h0 h⟩)
  · obtain ⟨t1, -, t3⟩ := enH_t s a
    rw [t1] at hk
    rw [t3]
    have rg : ∀ x : Int32, zR32 x.toInt := fun x => zr_i x
    rcases en_cases s a with e | ⟨h0, v, h, e⟩ | ⟨h0, q, h, e⟩ | ⟨h0, q, h, e⟩
    · rw [e]; exact ⟨by show (-2147483648 : Int) ≤ 0; omega, by show (0 : Int) < 2147483648; omega⟩
    · rw [e] at hk; exact absurd hk (by show ¬ zis 50 k = true; simp [zis])
    · rw [e]; exact rg _
    · rw [e]; exact rg _
  · obtain ⟨-, t2, -⟩ := enH_t s a
    rw [t2]
    rcases en_cases s a with e | ⟨h0, v, h, e⟩ | ⟨h0, q, h, e⟩ | ⟨h0, q, h, e⟩
    · rw [e]; exact Nat.zero_le _
    · rw [e]; exact Nat.zero_le _
    · rw [e]; have := h.1; show q.1 ≤ 100000; omega
    · rw [e]; have := h.1; show q.1 ≤ 100000; omega
theorem en_co (s : State) : zCo (enH s) (zA s.heap.size) s s.heap := fun a => by
  obtain ⟨t1, t2, t3⟩ := enH_t s a
  rcases en_cases s a with e | ⟨h0, v, h, e⟩ | ⟨h0, q, h, e⟩ | ⟨h0, q, h, e⟩
  · rw [e] at t1
    exact ⟨fun w => (by rw [t1] at w; cases w), fun w => (by rw [t1] at w; cases w), fun w => (by rw [t1] at w; cases w)⟩
  · rw [e] at t1 t3
    refine ⟨fun w => (by rw [t1] at w; cases w), fun w => (by rw [t1] at w; cases w), fun _ => ⟨h.1, h.2.1, ?_⟩⟩
    rw [t3]
    show va_OF "java/lang/String" "value" "[B" (va_rf (zr2 (((v + 1 : Nat) : Int)).toNat)) (a - 1) (zA s.heap.size) s s.heap
    rw [Int.toNat_natCast]
    exact h.2.2
  · rw [e] at t1 t2 t3
    refine ⟨fun _ => ?_, fun w => (by rw [t1] at w; cases w), fun w => (by rw [t1] at w; cases w)⟩
    rw [t2]
    have ef : (fun j => Value.int (Int32.ofInt (zct (enH s) a j))) = fun j => Value.int (q.2 j) := funext fun j => by rw [t3]; show Value.int (Int32.ofInt (q.2 j).toInt) = _; rw [Int32.ofInt_toInt]
    rw [ef]
    exact h.2
  · rw [e] at t1 t2 t3
    refine ⟨fun w => (by rw [t1] at w; cases w), fun _ => ?_, fun w => (by rw [t1] at w; cases w)⟩
    rw [t2]
    have ef : (fun j => Value.int (Int32.ofInt (zct (enH s) a j))) = fun j => Value.int (q.2 j) := funext fun j => by rw [t3]; show Value.int (Int32.ofInt (q.2 j).toInt) = _; rw [Int32.ofInt_toInt]
    rw [ef]
    exact h.2
