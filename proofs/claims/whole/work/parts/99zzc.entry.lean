/-! THE MACHINE AT THE LAW'S ENTRY: rows of the classes; what the plain heap says of all of them -/
def enKL : List Int := [-1, 0, 1, 0, 0, 2, 1, 0]
def enK : Term := .static "EngraversHouse" "KIND_ABOVE" "[I"
def enB : Term := .static "EngraversHouse" "BODIES" "[I"
theorem k_ar : Cond.arrayOf enK .int ∈ flatC (Jvm.Cond.and given_1 narrow_1) ∧ Cond.arrayOf enB .int ∈ flatC (Jvm.Cond.and given_1 narrow_1) := by decide +kernel
theorem k_le : Cond.eq (.length enK) (.int (Int32.ofNat 8)) ∈ flatC (Jvm.Cond.and given_1 narrow_1) ∧ Cond.eq (.length enB) (.int (Int32.ofNat 24)) ∈ flatC (Jvm.Cond.and given_1 narrow_1) := by decide +kernel
theorem k_el : ∀ j : Fin 8, Cond.eq (.elem enK (.int (Int32.ofNat j.val))) (.int (Int32.ofInt (enKL.getD j.val 0))) ∈ flatC (Jvm.Cond.and given_1 narrow_1) := by decide +kernel
theorem k_el2 : ∀ j : Fin 24, Cond.eq (.elem enB (.int (Int32.ofNat j.val))) (.int (Int32.ofInt (btL.getD j.val 0))) ∈ flatC (Jvm.Cond.and given_1 narrow_1) := by decide +kernel
theorem btL_r : ∀ j : Fin 24, -1000 ≤ btL.getD j.val 0 ∧ btL.getD j.val 0 ≤ 1000 := by decide
theorem st_rows {s : State} {args : Array Value} (hg : (Jvm.Cond.and given_1 narrow_1).before args s = true) : ∃ t u : Nat, (enK.eval args s none [] s = some (.ref t) ∧ enI s t .int (8, fun j => Int32.ofInt (enKL.getD j 0))) ∧ enB.eval args s none [] s = some (.ref u) ∧ enI s u .int (24, fun j => Int32.ofInt (btL.getD j 0)) := by
  have hs := flat_of_before _ hg
  obtain ⟨t, ht, hT⟩ := va_Tof (tm := enK) (ty := .int) (N := 8) (f := fun j => .int (Int32.ofInt (enKL.getD j 0))) (A := zA s.heap.size) (by omega) (hs _ k_ar.1) (va_eqt (hs _ k_le.1)) (fun j hj => va_eqt (hs _ (k_el ⟨j, hj⟩))) zA_no
  obtain ⟨u, hu, hU⟩ := va_Tof (tm := enB) (ty := .int) (N := 24) (f := fun j => .int (Int32.ofInt (btL.getD j 0))) (A := zA s.heap.size) (by omega) (hs _ k_ar.2) (va_eqt (hs _ k_le.2)) (fun j hj => va_eqt (hs _ (k_el2 ⟨j, hj⟩))) zA_no
  exact ⟨t, u, ⟨ht, by show 8 ≤ 4096; omega, hT⟩, hu, by show 24 ≤ 4096; omega, hU⟩
section ENTRY
variable {s : State} {E : Nat → Nat}
theorem en_row {t N : Nat} {f : Nat → Int32} (hf : heapFits s = true) (h : enI s t .int (N, f)) : ztg (enH s) (t + 1) = 40 ∧ zln (enH s) (t + 1) = N ∧ ∀ j, j < N → zct (enH s) (t + 1) j = (f j).toInt := by
  obtain ⟨r, e1, e2, e3⟩ := enT_i hf h
  obtain ⟨t1, t2, t3⟩ := enH_t s (t + 1)
  rw [e1] at t1 t2 t3
  exact ⟨t1, t2.trans e2.symm, fun j hj => by
    rw [t3]
    show (r.2 j).toInt = _
    rw [← show f j = r.2 j from e3 j hj]⟩
theorem en_EK {t : Nat} (hf : heapFits s = true) (h : enI s t .int (8, fun j => Int32.ofInt (enKL.getD j 0))) (hE : E 13 = t + 1) : EK (s.heap.size + 1) (enH s) E := by
  obtain ⟨a, b, c⟩ := en_row hf h
  have lt : t + 1 ≤ s.heap.size := enI_lt (a := t + 1) (Nat.succ_pos t) h
  have cc : ∀ j, j < 8 → zct (enH s) (t + 1) j = enKL.getD j 0 := fun j hj => by
    rw [c j hj]
    have : ∀ j : Fin 8, (Int32.ofInt (enKL.getD j.val 0)).toInt = enKL.getD j.val 0 := by decide
    exact this ⟨j, hj⟩
  unfold EK
  rw [hE]
  exact ⟨⟨by omega, lt⟩, ⟨a, b⟩, cc 0 (by omega), cc 1 (by omega), cc 2 (by omega), cc 3 (by omega), cc 4 (by omega), cc 5 (by omega), cc 6 (by omega), cc 7 (by omega)⟩
theorem en_BK {t : Nat} (hf : heapFits s = true) (h : enI s t .int (24, fun j => Int32.ofInt (btL.getD j 0))) (hE : E 14 = t + 1) : BK (s.heap.size + 1) (enH s) E := by
  obtain ⟨a, b, c⟩ := en_row hf h
  have lt : t + 1 ≤ s.heap.size := enI_lt (a := t + 1) (Nat.succ_pos t) h
  unfold BK
  rw [hE]
  refine ⟨⟨by omega, lt⟩, ⟨a, b⟩, fun i hi => ?_⟩
  rw [c i hi]
  have := btL_r ⟨i, hi⟩
  dsimp only at this
  exact zof ⟨by omega, by omega⟩
theorem en_EW (hf : heapFits s = true) {ad av : Nat → Nat} (h : ∀ i, i < 12 → enS s (ad i) (av i) ∧ enI s (av i) .byte ((wds.getD i []).length, fun j => Int32.ofNat ((wds.getD i []).getD j 0))) (hE : ∀ i, i < 12 → E i = ad i + 1) : EW (s.heap.size + 1) (enH s) E := fun i hi => by
  obtain ⟨hS, hB⟩ := h i hi
  have e1 := enT_s hS
  obtain ⟨r, e2, e3, e4⟩ := enT_b hf hB
  obtain ⟨t1, t2, t3⟩ := enH_t s (ad i + 1)
  obtain ⟨u1, u2, u3⟩ := enH_t s (av i + 1)
  rw [e1] at t1 t3
  rw [e2] at u1 u2 u3
  have lt1 : ad i + 1 ≤ s.heap.size := enS_lt (a := ad i + 1) (Nat.succ_pos _) hS
  have lt2 : av i + 1 ≤ s.heap.size := enI_lt (a := av i + 1) (Nat.succ_pos _) hB
  have p : (zct (enH s) (ad i + 1) 0).toNat = av i + 1 := by rw [t3]; rfl
  have len := w_len ⟨i, hi⟩
  dsimp only at len
  rw [hE i hi, p]
  refine ⟨⟨t1, ?_, ?_, len, fun k hk => ?_⟩, by omega, by omega⟩
  · rw [p, u1]; exact Or.inr (Or.inr rfl)
  · rw [p, u2]; exact e3.symm
  · rw [p, u3]
    have w128 : (wds.getD i []).getD k 0 < 128 := by
      have := wds_lt i
      rw [List.getD_eq_getElem?_getD, List.getElem?_eq_getElem hk]
      exact this _ (List.getElem_mem hk)
    refine ⟨?_, w128⟩
    show (r.2 k).toInt = _
    rw [← show Int32.ofNat ((wds.getD i []).getD k 0) = r.2 k from e4 k hk]
    exact zof (x := (((wds.getD i []).getD k 0 : Nat) : Int)) ⟨by omega, by omega⟩
end ENTRY
