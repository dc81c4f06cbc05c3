/-! THE MACHINE AT THE LAW'S ENTRY: its rows, as the plain heap has them -/
theorem fit_int {s : State} {t j : Nat} {cell : Cell} {ty : FieldType} {v : Value} (hf : heapFits s = true) (hc : s.heap[t]? = some cell) (ha : s.isArrayOf cell ty) (hty : ty = .int ∨ ty = .byte) (hv : cell.slots[j]? = some v) : ∃ x, v = .int x := by
  have h1 : cellFits s cell = true := (Array.all_eq_true_iff_forall_mem.mp hf) cell (Array.mem_of_getElem? hc)
  have hj : j < cell.slots.size := (Array.getElem?_eq_some_iff.mp hv).1
  have h2 := (List.all_eq_true.mp h1) j (List.mem_range.mpr hj)
  rw [hv] at h2
  have h3 : s.fitsSlot cell.cls cell.vm j v = true := h2
  obtain ⟨hs, k, hk, comp, hkind⟩ := ha
  have h4 : fits ty v = true := by
    unfold State.fitsSlot State.slotType? at h3
    rw [hk] at h3
    cases hvm : cell.vm with
    | statics q => exact absurd hvm (hs q)
    | _ => simpa [hvm, hkind] using h3
  rcases hty with rfl | rfl
  · cases v <;> first | exact ⟨_, rfl⟩ | (exfalso; revert h4; simp [fits])
  · cases v <;> first | exact ⟨_, rfl⟩ | (exfalso; revert h4; simp [fits])
def enI (s : State) (t : Nat) (ty : FieldType) (q : Nat × (Nat → Int32)) : Prop := q.1 ≤ 4096 ∧ va_T ty t q.1 (fun j => .int (q.2 j)) (zA s.heap.size) s s.heap
def enS (s : State) (t v : Nat) : Prop := va_O "java/lang/String" t (zA s.heap.size) s s.heap ∧ va_OF "java/lang/String" "coder" "B" (.int 0) t (zA s.heap.size) s s.heap ∧ va_OF "java/lang/String" "value" "[B" (.ref v) t (zA s.heap.size) s s.heap
theorem enS_u {s : State} {t v w : Nat} (h : enS s t v) (g : enS s t w) : v = w := by
  obtain ⟨cf, k, i, f, cell, h1, h2, h3, h4, h5, h6⟩ := h.2.2
  obtain ⟨cf', k', i', f', cell', g1, g2, g3, g4, g5, g6⟩ := g.2.2
  rw [h1] at g1
  cases g1
  rw [h3] at g3
  cases g3
  rw [h5] at g5
  cases g5
  rfl
theorem enI_u {s : State} {t : Nat} {ty : FieldType} {q r : Nat × (Nat → Int32)} (h : enI s t ty q) (g : enI s t ty r) : q.1 = r.1 ∧ ∀ j, j < q.1 → q.2 j = r.2 j := by
  obtain ⟨h0, cell, h1, h2, h3, h4, h5, h6, h7⟩ := h
  obtain ⟨g0, cell', g1, g2, g3, g4, g5, g6, g7⟩ := g
  rw [h1] at g1
  cases g1
  have e : q.1 = r.1 := by
    have := h5.symm.trans g5
    have e2 := congrArg Int32.toInt this
    rw [show Int32.ofNat q.1 = Int32.ofInt (q.1 : Int) from rfl, show Int32.ofNat r.1 = Int32.ofInt (r.1 : Int) from rfl, zof ⟨by omega, by omega⟩, zof ⟨by omega, by omega⟩] at e2
    omega
  refine ⟨e, fun j hj => ?_⟩
  have a := h6 j hj
  rw [g6 j (by omega)] at a
  exact (Value.int.inj (Option.some.inj a)).symm
theorem enS_no {s : State} {t v : Nat} {ty : FieldType} {q : Nat × (Nat → Int32)} (hf : heapFits s = true) (h : enS s t v) (g : enI s t ty q) (hty : ty = .int ∨ ty = .byte) : False := by
  obtain ⟨cf, k, i, f, cell, h1, h2, h3, h4, h5, h6⟩ := h.2.2
  obtain ⟨g0, cell', g1, g2, -⟩ := g
  rw [h3] at g1
  cases g1
  obtain ⟨x, hx⟩ := fit_int hf h3 g2 hty h5
  cases hx
theorem enI_no {s : State} {t : Nat} {q r : Nat × (Nat → Int32)} (h : enI s t .int q) (g : enI s t .byte r) : False := by
  obtain ⟨h0, cell, h1, ⟨-, k, hk, comp, hkind⟩, -⟩ := h
  obtain ⟨g0, cell', g1, ⟨-, k', hk', comp', hkind'⟩, -⟩ := g
  rw [h1] at g1
  cases g1
  rw [hk] at hk'
  cases hk'
  rw [hkind] at hkind'
  cases hkind'
def enV (v : Nat) : Nat → Int := fun k => if k = 0 then ((v + 1 : Nat) : Int) else 0
/-- what the plain heap says of the cell at address a -/
noncomputable def enT (s : State) (a : Nat) : Nat × Nat × (Nat → Int) :=
  haveI := fun p : Prop => Classical.propDecidable p
  if a = 0 then (0, 0, fun _ => 0) else if h : ∃ v, enS s (a - 1) v then (50, 0, enV (Classical.choose h)) else if h : ∃ q, enI s (a - 1) .int q then (40, (Classical.choose h).1, fun k => ((Classical.choose h).2 k).toInt) else
    if h : ∃ q, enI s (a - 1) .byte q then (41, (Classical.choose h).1, fun k => ((Classical.choose h).2 k).toInt) else (0, 0, fun _ => 0)
noncomputable def enH (s : State) : zHp := (fun a => (enT s a).1, fun a => (enT s a).2.1, fun a k => (enT s a).2.2 k, s.heap.size, 0)
theorem enT_s {s : State} {t v : Nat} (h : enS s t v) : enT s (t + 1) = (50, 0, enV v) := by
  have hx : ∃ v, enS s (t + 1 - 1) v := ⟨v, h⟩
  unfold enT
  rw [if_neg (Nat.succ_ne_zero t), dif_pos hx, enS_u (Classical.choose_spec hx) h]
theorem enT_i {s : State} {t : Nat} {q : Nat × (Nat → Int32)} (hf : heapFits s = true) (h : enI s t .int q) : ∃ r : Nat × (Nat → Int32), enT s (t + 1) = (40, r.1, fun k => (r.2 k).toInt) ∧ q.1 = r.1 ∧ ∀ j, j < q.1 → q.2 j = r.2 j := by
  have hx : ∃ q, enI s (t + 1 - 1) .int q := ⟨q, h⟩
  have hn : ¬ ∃ v, enS s (t + 1 - 1) v := fun ⟨v, g⟩ => enS_no hf g h (Or.inl rfl)
  refine ⟨Classical.choose hx, ?_, enI_u h (Classical.choose_spec hx)⟩
  unfold enT
  rw [if_neg (Nat.succ_ne_zero t), dif_neg hn, dif_pos hx]
theorem enT_b {s : State} {t : Nat} {q : Nat × (Nat → Int32)} (hf : heapFits s = true) (h : enI s t .byte q) : ∃ r : Nat × (Nat → Int32), enT s (t + 1) = (41, r.1, fun k => (r.2 k).toInt) ∧ q.1 = r.1 ∧ ∀ j, j < q.1 → q.2 j = r.2 j := by
  have hx : ∃ q, enI s (t + 1 - 1) .byte q := ⟨q, h⟩
  have hn : ¬ ∃ v, enS s (t + 1 - 1) v := fun ⟨v, g⟩ => enS_no hf g h (Or.inr rfl)
  have hi : ¬ ∃ q, enI s (t + 1 - 1) .int q := fun ⟨r, g⟩ => enI_no g h
  refine ⟨Classical.choose hx, ?_, enI_u h (Classical.choose_spec hx)⟩
  unfold enT
  rw [if_neg (Nat.succ_ne_zero t), dif_neg hn, dif_neg hi, dif_pos hx]
