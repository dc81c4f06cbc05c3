/-! THE MACHINE AT THE LAW'S ENTRY: the words -/
def enW : List Nat := [100, 102, 104, 106, 121, 76, 82, 84, 94, 126, 134, 132]
def enTm (i : Nat) : Term := .string "EngraversHouse$Contract" (enW.getD i 0)
def enFd (i : Nat) : Term := .field (enTm i) "java/lang/String" "value" "[B"
theorem w_ex : ∀ i : Fin 12, Cond.exactly (enTm i.val) "java/lang/String" ∈ flatC (Jvm.Cond.and given_1 narrow_1) := by decide +kernel
theorem w_co : ∀ i : Fin 12, Cond.eq (.field (enTm i.val) "java/lang/String" "coder" "B") (.int 0) ∈ flatC (Jvm.Cond.and given_1 narrow_1) := by decide +kernel
theorem w_ar : ∀ i : Fin 12, Cond.arrayOf (enFd i.val) .byte ∈ flatC (Jvm.Cond.and given_1 narrow_1) := by decide +kernel
theorem w_le : ∀ i : Fin 12, Cond.eq (.length (enFd i.val)) (.int (Int32.ofNat (wds.getD i.val []).length)) ∈ flatC (Jvm.Cond.and given_1 narrow_1) := by decide +kernel
theorem w_el : ∀ i : Fin 12, ∀ j : Fin 10, j.val < (wds.getD i.val []).length → Cond.eq (.elem (enFd i.val) (.int (Int32.ofNat j.val))) (.int (Int32.ofNat ((wds.getD i.val []).getD j.val 0))) ∈ flatC (Jvm.Cond.and given_1 narrow_1) := by decide +kernel
theorem w_len : ∀ i : Fin 12, (wds.getD i.val []).length ≤ 10 := by decide
theorem zA_no {s : State} : ∀ a : Nat, a < s.heap.size → ¬ zA s.heap.size a := fun _ h w => Nat.not_le.mpr h w
theorem st_words {s : State} {args : Array Value} (hg : (Jvm.Cond.and given_1 narrow_1).before args s = true) : ∀ i : Nat, i < 12 → ∃ a v : Nat, (enTm i).eval args s none [] s = some (.ref a) ∧ enS s a v ∧ enI s v .byte ((wds.getD i []).length, fun j => Int32.ofNat ((wds.getD i []).getD j 0)) := fun i hi => by
  have hs := flat_of_before _ hg
  have len := w_len ⟨i, hi⟩
  dsimp only at len
  obtain ⟨a, c, cell, k, q1, q2, q3, q4, q5, q6, -⟩ := Cond.exactly_spec (args := args) (first := s) (o := none) (s := s) (idx := []) (t := enTm i) (cls := "java/lang/String") (hs _ (w_ex ⟨i, hi⟩))
  obtain ⟨t, ht, hT⟩ := va_Tof (tm := enFd i) (ty := .byte) (N := (wds.getD i []).length) (f := fun j => .int (Int32.ofNat ((wds.getD i []).getD j 0))) (A := zA s.heap.size) (by omega) (hs _ (w_ar ⟨i, hi⟩)) (va_eqt (hs _ (w_le ⟨i, hi⟩))) (fun j hj => va_eqt (hs _ (w_el ⟨i, hi⟩ ⟨j, by omega⟩ hj))) zA_no
  exact ⟨a, t, q1, ⟨⟨cell, q3, q5, by rw [q6]; exact q2, zA_no a (Array.getElem?_eq_some_iff.mp q3).1⟩, vk_OFof q1 (va_eqt (hs _ (w_co ⟨i, hi⟩))) zA_no, vk_OFof q1 ht zA_no⟩, by show (wds.getD i []).length ≤ 4096; omega, hT⟩
