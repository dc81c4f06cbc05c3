/-! THE MACHINE AT THE LAW'S ENTRY: the classes of the rows that are made -/
theorem arr_ok {s : State} {c : ClassId} {k : Class} {comp : ClassId} {ty : FieldType} (h1 : s.vm.classes[c]? = some k) (h2 : k.kind = .array comp ty) : ArrOfT s c ty := fun _ _ => ⟨fun _ w => (by cases w), k, h1, comp, h2⟩
theorem arr_prim {s : State} {args : Array Value} {ty : FieldType} (h : (Cond.arrayClass ty).before args s = true) : ∃ c, ArrOfT s c ty ∧ s.vm.findClass ("[" ++ ty.toString) = some c := by
  unfold Cond.before Cond.holds at h
  simp only [Cond.value, beq_iff_eq] at h
  cases hf : s.vm.findClass ("[" ++ ty.toString) with
  | none => rw [hf] at h; cases h
  | some c =>
    rw [hf] at h
    simp only [Option.bind_some] at h
    cases hk : s.vm.classes[c]? with
    | none => rw [hk] at h; cases h
    | some k =>
      rw [hk] at h
      simp only [Option.map_some, Option.some.injEq] at h
      split at h
      · rename_i comp t ht
        have e : t = ty := of_decide_eq_true h
        rw [e] at ht
        exact ⟨c, arr_ok hk ht, rfl⟩
      · cases h
theorem arr_over {s : State} {args : Array Value} {ty : FieldType} (h : (Cond.arrayOver ty).before args s = true) : ∃ (c comp : ClassId) (k : Class), (∀ m, ty = .object m → s.vm.findClass m = some comp) ∧ s.vm.classes[c]? = some k ∧ k.kind = .array comp ty ∧ s.vm.findClass ("[" ++ ty.toString) = some c := by
  unfold Cond.before Cond.holds at h
  simp only [Cond.value, beq_iff_eq] at h
  rw [Option.bind_eq_some_iff] at h
  obtain ⟨comp, hm, h⟩ := h
  rw [Option.bind_eq_some_iff] at h
  obtain ⟨c, h1, h2⟩ := h
  rw [Option.map_eq_some_iff] at h2
  obtain ⟨k, h3, h4⟩ := h2
  split at h4
  · rename_i comp' t ht
    rw [Bool.and_eq_true, decide_eq_true_eq, decide_eq_true_eq] at h4
    obtain ⟨e1, e2⟩ := h4
    obtain ⟨hlt, hp, -⟩ := Array.findIdx?_eq_some_iff_getElem.mp h1
    have hk : s.vm.classes[c]? = some (s.vm.classes[c]) := Array.getElem?_eq_getElem hlt
    rw [h3] at hk
    have ek : k = s.vm.classes[c] := Option.some.inj hk
    rw [← ek] at hp
    rw [ht] at hp
    have ec : comp' = comp := by
      have : (comp' == comp) = true := hp
      exact eq_of_beq this
    rw [e1, ec] at ht
    exact ⟨c, comp, k, fun m e => by subst e; exact hm, h3, ht, e2⟩
  · cases h4
theorem z_insta : ∀ c, c < 12 → zAt (zPn.getD c 0) (Cond.instantiable (zRx c) (zNf c)) = true := by decide +kernel
theorem w_at {s : State} {args : Array Value} (hts : ∀ w ∈ lw_tbl, w.before args s = true) {i : Nat} {w : Cond} (h : tables_1[i]? = some w) : w.before args s = true := hts w (List.mem_append_right _ (List.mem_of_getElem? h))
theorem arr_o {s : State} {args : Array Value} {C : String} (h : (Cond.arrayOver (.object C)).before args s = true) : ∃ c, ArrOfT s c (.object C) ∧ va_RA s c (.object C) := by
  obtain ⟨c, comp, k, h1, h2, h3, h4⟩ := arr_over h
  exact ⟨c, arr_ok h2 h3, k, comp, h2, h3, h1 C rfl, h4⟩
theorem st_K {s : State} {args : Array Value} (hts : ∀ w ∈ lw_tbl, w.before args s = true) : ∃ (D : va_G) (dA : Nat → ClassId), va_K D vwCl (zTA dA) s := by
  have h : ∀ c : Nat, ∃ q : ClassId × (Nat → Nat), c < 12 → u_Kn s (zRx c) (zFt c) (zNf c) q.1 q.2 := fun c => by
    by_cases hc : c < 12
    · obtain ⟨cC, iS, k⟩ := u_known (C := zRx c) (T := zFt c) (N := zNf c) (n := zNf c) hts (fun w hw => zW_tbl w (z_ws c hc w hw)) (hts _ (zW_tbl _ (zAt_in (z_insta c hc))))
      exact ⟨(cC, iS), fun _ => k⟩
    · exact ⟨(0, fun _ => 0), fun w => absurd w hc⟩
  obtain ⟨q, hq⟩ := Classical.axiomOfChoice h
  obtain ⟨c0, a0, b0⟩ := arr_prim (w_at hts (i := 60) (w := Cond.arrayClass .int) (by decide +kernel))
  obtain ⟨c1, a1, b1⟩ := arr_prim (w_at hts (i := 61) (w := Cond.arrayClass .boolean) (by decide +kernel))
  obtain ⟨c2, a2, b2⟩ := arr_prim (w_at hts (i := 1078) (w := Cond.arrayClass .byte) (by decide +kernel))
  obtain ⟨c3, a3, b3⟩ := arr_o (w_at hts (i := 32) (w := Cond.arrayOver (.object RX9)) (by decide +kernel))
  obtain ⟨c4, a4, b4⟩ := arr_o (w_at hts (i := 34) (w := Cond.arrayOver (.object RX6)) (by decide +kernel))
  obtain ⟨c5, a5, b5⟩ := arr_o (w_at hts (i := 63) (w := Cond.arrayOver (.object RX1)) (by decide +kernel))
  obtain ⟨c6, a6, b6⟩ := arr_o (w_at hts (i := 243) (w := Cond.arrayOver (.object RX0)) (by decide +kernel))
  obtain ⟨c7, comp, k7, h1, h2, h3, h4⟩ := arr_over (ty := .array .int) (w_at hts (i := 144) (w := Cond.arrayOver (.array .int)) (by decide +kernel))
  refine ⟨(fun c => (q c).1, fun c => (q c).2), fun t => if t = 30 then c0 else if t = 31 then c1 else if t = 32 then c2 else if t = 33 then c3 else if t = 34 then c4 else if t = 35 then c5 else if t = 36 then c6 else c7, fun c r hr => ?_, fun k r hr => ?_⟩
  · have hc : c < 12 := (List.getElem?_eq_some_iff.mp hr).1
    rw [z_cl c hc] at hr
    cases hr
    exact hq c hc
  · match k, hr with
    | 0, hr => cases hr; exact ⟨a0, b0⟩
    | 1, hr => cases hr; exact ⟨a1, b1⟩
    | 2, hr => cases hr; exact ⟨a2, b2⟩
    | 3, hr => cases hr; exact ⟨a3, b3⟩
    | 4, hr => cases hr; exact ⟨a4, b4⟩
    | 5, hr => cases hr; exact ⟨a5, b5⟩
    | 6, hr => cases hr; exact ⟨a6, b6⟩
    | 7, hr => cases hr; exact ⟨arr_ok h2 h3, h4⟩
    | k + 8, hr => simp [zTA] at hr
