/-! what is looked at in each instruction, once and for all, by the tables -/
def zix (v : Int) : Nat := v.toNat % 65536
def zpo (v : Int) : Nat := v.toNat / 65536
def zpc (is : List zMI) : Nat := match is with
  | [] => 0
  | i :: _ => i.2.1
def zD (mm pc nx : Nat) (x : Instr) (n : Nat) : Bool := decide (decode (zC mm) pc = .ok (x, n)) && (nx == pc + n)
noncomputable def zO (mm pc : Nat) : Int := (zpc (zB mm pc) : Int)
theorem zD_of {mm pc nx : Nat} {x : Instr} {n : Nat} (h : zD mm pc nx x n = true) : decode (zC mm) pc = .ok (x, n) ∧ nx = pc + n := by
  simpa [zD] using h
/-- the instructions on locals and stack -/
def zk1 (mm : Nat) (i : zMI) (nx : Nat) : Bool := match i with
  | (1, pc, _, b, v, _) => zD mm pc nx (.iconst v) 1 || (zD mm pc nx (.bipush v) 2 && decide ((Int8.ofInt v).toInt32 = Int32.ofInt v)) || (zD mm pc nx (.sipush v) 3 && decide ((Int16.ofInt v).toInt32 = Int32.ofInt v)) || ((zD mm pc nx (.ldc (b % 65536)) 2 || zD mm pc nx (.ldc_w (b % 65536)) 3) && zAt (b / 65536) (Cond.constant (zY mm).cls (b % 65536) (Int32.ofInt v)))
  | (2, pc, _, b, v, _) => (zD mm pc nx (.lconst 0) 1 && v == 0) || (zD mm pc nx (.lconst 1) 1 && v == 1) || (zD mm pc nx (.ldc2_w (b % 65536)) 3 && zAt (b / 65536) (Cond.constantLong (zY mm).cls (b % 65536) (Int64.ofInt v)))
  | (3, pc, _, _, _, _) => zD mm pc nx .aconst_null 1
  | (4, pc, a, _, _, _) => zD mm pc nx (.iload a) 2 || (zD mm pc nx (.iload_n (Fin.ofNat 4 a)) 1 && decide (a < 4))
  | (5, pc, a, _, _, _) => zD mm pc nx (.lload a) 2 || (zD mm pc nx (.lload_n (Fin.ofNat 4 a)) 1 && decide (a < 4))
  | (6, pc, a, _, _, _) => zD mm pc nx (.aload a) 2 || (zD mm pc nx (.aload_n (Fin.ofNat 4 a)) 1 && decide (a < 4))
  | (7, pc, a, _, _, _) => zD mm pc nx (.istore a) 2 || (zD mm pc nx (.istore_n (Fin.ofNat 4 a)) 1 && decide (a < 4))
  | (8, pc, a, _, _, _) => zD mm pc nx (.lstore a) 2 || (zD mm pc nx (.lstore_n (Fin.ofNat 4 a)) 1 && decide (a < 4))
  | (9, pc, a, _, _, _) => zD mm pc nx (.astore a) 2 || (zD mm pc nx (.astore_n (Fin.ofNat 4 a)) 1 && decide (a < 4))
  | (10, pc, a, _, v, _) => zD mm pc nx (.iinc a v) 3 || zD mm pc nx (.iinc a v) 6
  | (11, pc, _, _, _, _) => zD mm pc nx .iadd 1
  | (12, pc, _, _, _, _) => zD mm pc nx .isub 1
  | (13, pc, _, _, _, _) => zD mm pc nx .imul 1
  | (14, pc, _, _, _, _) => zD mm pc nx .idiv 1
  | (15, pc, _, _, _, _) => zD mm pc nx .irem 1
  | (16, pc, _, _, _, _) => zD mm pc nx .ineg 1
  | (17, pc, _, _, _, _) => zD mm pc nx .ishl 1
  | (18, pc, _, _, _, _) => zD mm pc nx .ishr 1
  | (19, pc, _, _, _, _) => zD mm pc nx .iushr 1
  | (20, pc, _, _, _, _) => zD mm pc nx .iand 1
  | (21, pc, _, _, _, _) => zD mm pc nx .ior 1
  | (22, pc, _, _, _, _) => zD mm pc nx .ixor 1
  | (23, pc, _, _, _, _) => zD mm pc nx .i2l 1
  | (24, pc, _, _, _, _) => zD mm pc nx .l2i 1
  | (25, pc, _, _, _, _) => zD mm pc nx .i2b 1
  | (26, pc, _, _, _, _) => zD mm pc nx .i2s 1
  | (27, pc, _, _, _, _) => zD mm pc nx .i2c 1
  | (28, pc, _, _, _, _) => zD mm pc nx .ladd 1
  | (29, pc, _, _, _, _) => zD mm pc nx .lmul 1
  | (30, pc, _, _, _, _) => zD mm pc nx .ldiv 1
  | (31, pc, _, _, _, _) => zD mm pc nx .lcmp 1
  | (32, pc, _, _, _, _) => zD mm pc nx .dup 1
  | (33, pc, _, _, _, _) => zD mm pc nx .dup 1
  | (34, pc, _, _, _, _) => zD mm pc nx .dup2 1
  | (35, pc, _, _, _, _) => zD mm pc nx .pop 1
  | (36, pc, _, _, v, _) => zD mm pc nx (.invokestatic (zix v)) 3 && zAt (zpo v) (Cond.methodLink (zY mm).cls (zix v) Lib.Math.max.name)
  | (37, pc, _, _, v, _) => zD mm pc nx (.invokestatic (zix v)) 3 && zAt (zpo v) (Cond.methodLink (zY mm).cls (zix v) Lib.Math.min.name)
  | _ => false
/-- jumps -/
noncomputable def zk2 (mm : Nat) (i : zMI) (nx : Nat) : Bool := match i with
  | (40, pc, a, _, _, _) => zD mm pc nx (.ifCond .eq (zO mm a - pc)) 3
  | (41, pc, a, _, _, _) => zD mm pc nx (.ifCond .ne (zO mm a - pc)) 3
  | (42, pc, a, _, _, _) => zD mm pc nx (.ifCond .lt (zO mm a - pc)) 3
  | (43, pc, a, _, _, _) => zD mm pc nx (.ifCond .ge (zO mm a - pc)) 3
  | (44, pc, a, _, _, _) => zD mm pc nx (.ifCond .gt (zO mm a - pc)) 3
  | (45, pc, a, _, _, _) => zD mm pc nx (.ifCond .le (zO mm a - pc)) 3
  | (46, pc, a, _, _, _) => zD mm pc nx (.if_icmp .eq (zO mm a - pc)) 3
  | (47, pc, a, _, _, _) => zD mm pc nx (.if_icmp .ne (zO mm a - pc)) 3
  | (48, pc, a, _, _, _) => zD mm pc nx (.if_icmp .lt (zO mm a - pc)) 3
  | (49, pc, a, _, _, _) => zD mm pc nx (.if_icmp .ge (zO mm a - pc)) 3
  | (50, pc, a, _, _, _) => zD mm pc nx (.if_icmp .gt (zO mm a - pc)) 3
  | (51, pc, a, _, _, _) => zD mm pc nx (.if_icmp .le (zO mm a - pc)) 3
  | (52, pc, a, _, _, _) => zD mm pc nx (.if_acmp .eq (zO mm a - pc)) 3
  | (53, pc, a, _, _, _) => zD mm pc nx (.if_acmp .ne (zO mm a - pc)) 3
  | (54, pc, a, _, _, _) => zD mm pc nx (.ifnull (zO mm a - pc)) 3
  | (55, pc, a, _, _, _) => zD mm pc nx (.ifnonnull (zO mm a - pc)) 3
  | (56, pc, a, _, _, _) => decide (decode (zC mm) pc = .ok (.goto (zO mm a - pc), 3))
  | (57, pc, a, _, _, _) => decide (zO mm a = pc)
  | (58, pc, a, _, _, tb) => match decode (zC mm) pc with
    | .ok (.tableswitch d lo hi offs, _) => decide ((pc : Int) + d = zO mm a) && decide (tb.length = (hi - lo + 1).toNat) && (List.range tb.length).all (fun j => match tb[j]?, offs[j]? with
      | some q, some o => decide (q.1 = lo + j) && decide ((pc : Int) + o = zO mm q.2)
      | _, _ => false)
    | _ => false
  | (59, pc, a, _, _, tb) => match decode (zC mm) pc with
    | .ok (.lookupswitch d ps, _) => decide ((pc : Int) + d = zO mm a) && decide (ps.toList = tb.map fun q => (q.1, zO mm q.2 - pc)) && (ps.toList.zip (ps.toList.drop 1)).all (fun (a, next) => a.1 < next.1)
    | _ => false
  | _ => false
def zr2 (r : Nat) : Option Nat := if r = 0 then none else some (r - 1)
def zV : zAV → Value
  | .inl x => .int (Int32.ofInt x)
  | .inr (.inl x) => .long (Int64.ofInt x)
  | .inr (.inr r) => va_rf (zr2 r)
theorem zV_ref {r : Nat} (h : 0 < r) : zV (.inr (.inr r)) = .ref (r - 1) := by simp [zV, zr2, Nat.ne_of_gt h, va_rf]
theorem zV_null : zV (.inr (.inr 0)) = .null := rfl
theorem zV_cat (v : zAV) : (zV v).category = if zlong v = true then 2 else 1 := by
  rcases v with x | x | x
  · rfl
  · rfl
  · show (va_rf (zr2 x)).category = 1
    unfold zr2
    split <;> rfl
/-- the locals -/
def zLs (n : Nat) (L : zLo) : List (Nat × Value) := (List.range n).filterMap fun i => (zld L i).map fun v => (i, zV v)
def zLR (ls : Array Slot) (n : Nat) (L : zLo) : Prop := L.length = n ∧ lv_has ls n (zLs n L)
theorem zLs_mem {n : Nat} {L : zLo} {q : Nat × Value} : q ∈ zLs n L ↔ q.1 < n ∧ ∃ v, zld L q.1 = some v ∧ zV v = q.2 := by
  unfold zLs
  rw [List.mem_filterMap]
  constructor
  · rintro ⟨i, hi, e⟩
    cases hq : zld L i with
    | none => rw [hq] at e; cases e
    | some v =>
      rw [hq] at e
      cases e
      exact ⟨List.mem_range.mp hi, v, hq, rfl⟩
  · rintro ⟨h1, v, h2, h3⟩
    exact ⟨q.1, List.mem_range.mpr h1, by rw [h2, Option.map_some, h3]⟩
theorem zld_lt {L : zLo} {i : Nat} {v : zAV} (h : zld L i = some v) : i < L.length := by
  unfold zld at h
  cases hq : L[i]? with
  | none => rw [hq] at h; cases h
  | some q => exact (List.getElem?_eq_some_iff.mp hq).1
theorem zLR_at {ls : Array Slot} {n : Nat} {L : zLo} (h : zLR ls n L) {i : Nat} {v : zAV} (e : zld L i = some v) : ls[i]? = some (.val (zV v)) := h.2.2.2 (i, zV v) (zLs_mem.mpr ⟨by rw [← h.1]; exact zld_lt e, v, e, rfl⟩)
theorem zld_set {L : zLo} {a : Nat} {o : Option zAV} (h : a < L.length) (j : Nat) : zld (L.set a o) j = if j = a then o else zld L j := by
  unfold zld
  by_cases e : j = a
  · subst e
    rw [List.getElem?_set_self h, if_pos rfl]
    rfl
  · rw [List.getElem?_set_ne (Ne.symm e), if_neg e]
theorem zpre_len (L : zLo) (a : Nat) : (zpre L a).length = L.length := by
  unfold zpre
  split
  · rfl
  · split
    · simp
    · rfl
theorem zld_pre {L : zLo} {a j : Nat} {v : zAV} (h : zld (zpre L a) j = some v) : zld L j = some v ∧ ¬ (j + 1 = a ∧ zlong v = true) := by
  unfold zpre at h
  split at h
  · exact ⟨h, by omega⟩
  · rename_i b
    split at h
    · rename_i x hx
      rw [zld_set (zld_lt hx)] at h
      split at h
      · cases h
      · exact ⟨h, by omega⟩
    · rename_i hx
      refine ⟨h, fun e => ?_⟩
      obtain ⟨e1, e2⟩ := e
      have : j = b := by omega
      subst this
      rcases v with x | x | x
      · cases e2
      · exact hx x h
      · cases e2
theorem zLR_st1 {ls' : Array Slot} {n : Nat} {L : zLo} {a : Nat} {v : zAV} (hn : L.length = n) (ha : a < n) (h : lv_has ls' n ((a, zV v) :: (zLs n L).filter (fun q => !(q.1 == a) && !(q.1 + 1 == a && q.2.category == 2)))) : zLR ls' n (zst1 L a v) := by
  have hl : a < (zpre L a).length := by rw [zpre_len]; omega
  refine ⟨by unfold zst1; rw [List.length_set, zpre_len]; exact hn, h.1, h.2.1, fun q hq => ?_⟩
  obtain ⟨h1, w, h2, h3⟩ := zLs_mem.mp hq
  refine h.2.2 q ?_
  unfold zst1 at h2
  rw [zld_set hl] at h2
  split at h2
  · rename_i e
    cases h2
    rw [List.mem_cons]
    exact Or.inl (Prod.ext e h3.symm)
  · rename_i e
    obtain ⟨g1, g2⟩ := zld_pre h2
    refine List.mem_cons_of_mem _ (List.mem_filter.mpr ⟨zLs_mem.mpr ⟨h1, w, g1, h3⟩, ?_⟩)
    rw [← h3, zV_cat]
    by_cases z : zlong w = true
    · simp [e, z]
      exact fun y => g2 ⟨y, z⟩
    · simp [e, z]
theorem zLR_st2 {ls' : Array Slot} {n : Nat} {L : zLo} {a : Nat} {v : zAV} (hn : L.length = n) (ha : a + 1 < n) (h : lv_has ls' n ((a, zV v) :: (zLs n L).filter (fun q => !(q.1 == a) && (!(q.1 == a + 1) && !(q.1 + 1 == a && q.2.category == 2))))) : zLR ls' n (zst2 L a v) := by
  have hl : a < (zpre L a).length := by rw [zpre_len]; omega
  refine ⟨by unfold zst2; rw [List.length_set, List.length_set, zpre_len]; exact hn, h.1, h.2.1, fun q hq => ?_⟩
  obtain ⟨h1, w, h2, h3⟩ := zLs_mem.mp hq
  refine h.2.2 q ?_
  unfold zst2 at h2
  rw [zld_set (by rw [List.length_set, zpre_len]; omega), zld_set hl] at h2
  split at h2
  · cases h2
  · rename_i e1
    split at h2
    · rename_i e
      cases h2
      rw [List.mem_cons]
      exact Or.inl (Prod.ext e h3.symm)
    · rename_i e
      obtain ⟨g1, g2⟩ := zld_pre h2
      refine List.mem_cons_of_mem _ (List.mem_filter.mpr ⟨zLs_mem.mpr ⟨h1, w, g1, h3⟩, ?_⟩)
      rw [← h3, zV_cat]
      by_cases z : zlong w = true
      · simp [e, e1, z]
        exact fun y => g2 ⟨y, z⟩
      · simp [e, e1, z]
theorem z32 (x : Int32) : Int32.ofInt x.toInt = x := Int32.ofInt_toInt x
theorem z64 (x : Int64) : Int64.ofInt x.toInt = x := Int64.ofInt_toInt x
theorem zfin {a : Nat} (h : a < 4) : ((Fin.ofNat 4 a : Fin 4) : Nat) = a := by simp [Fin.ofNat, Nat.mod_eq_of_lt h]
