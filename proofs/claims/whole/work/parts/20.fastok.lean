theorem zLT_all {ox : Nat} {q : Nat × Int × Nat × Nat} (h : q ∈ zLT.getD ox []) : zLS (zCn.getD ox "") q = true := by
  have hl : ox < 19 := by
    by_cases hl : ox < 19
    · exact hl
    · have : zLT.getD ox [] = [] := by
        rw [List.getD_eq_getElem?_getD, List.getElem?_eq_none (by show 19 ≤ ox; omega)]
        rfl
      rw [this] at h
      cases h
  match ox, hl, h with
  | 0, _, h => exact z_LT_0 q h
  | 1, _, h => exact z_LT_1 q h
  | 2, _, h => exact z_LT_2 q h
  | 3, _, h => exact z_LT_3 q h
  | 4, _, h => exact z_LT_4 q h
  | 5, _, h => exact z_LT_5 q h
  | 6, _, h => exact z_LT_6 q h
  | 7, _, h => exact z_LT_7 q h
  | 8, _, h => exact z_LT_8 q h
  | 9, _, h => exact z_LT_9 q h
  | 10, _, h => exact z_LT_10 q h
  | 11, _, h => exact z_LT_11 q h
  | 12, _, h => exact z_LT_12 q h
  | 13, _, h => exact z_LT_13 q h
  | 14, _, h => exact z_LT_14 q h
  | 15, _, h => exact z_LT_15 q h
  | 16, _, h => exact z_LT_16 q h
  | 17, _, h => exact z_LT_17 q h
  | 18, _, h => exact z_LT_18 q h
theorem zFT_all {ox : Nat} {q : Nat × Nat × Int} (h : q ∈ zFT.getD ox []) : zkfS (zCn.getD ox "") q.1 q.2.1 q.2.2 = true := by
  by_cases hl : ox < 19
  · exact z_FT ox hl q h
  · have : zFT.getD ox [] = [] := by
      rw [List.getD_eq_getElem?_getD, List.getElem?_eq_none (by show 19 ≤ ox; omega)]
      rfl
    rw [this] at h
    cases h
def zhF (mm c0 k : Nat) (v : Int) : Bool := (zFT.getD (zOx.getD mm 0) []).contains (c0, k, v)
theorem zhF_ok {mm c0 k : Nat} {v : Int} (hm : mm < 302) (h : zhF mm c0 k v = true) : zkf mm c0 k v = true := by
  rw [zkfS_eq, z_cls mm hm]
  exact zFT_all (by simpa [zhF] using h)
def zhL (mm o : Nat) (v : Int) (m2 c0 : Nat) : Bool := (zLT.getD (zOx.getD mm 0) []).contains (o, v, m2, c0)
theorem zhL_ok {mm o m2 c0 : Nat} {v : Int} (hm : mm < 302) (h : zhL mm o v m2 c0 = true) : zLS (zY mm).cls (o, v, m2, c0) = true := by
  rw [z_cls mm hm]
  exact zLT_all (by simpa [zhL] using h)
noncomputable def zgen (mm : Nat) (i : zMI) (nx : Nat) : Bool := if i.1 < 40 then zk1 mm i nx else if i.1 < 60 then zk2 mm i nx else if i.1 < 90 then zk3 mm i nx else zk4 mm i nx
theorem zgen3 {mm nx : Nat} {i : zMI} (h1 : 60 ≤ i.1) (h2 : i.1 < 90) : zgen mm i nx = zk3 mm i nx := by
  unfold zgen
  rw [if_neg (by omega), if_neg (by omega), if_pos h2]
theorem zgen4 {mm nx : Nat} {i : zMI} (h1 : 90 ≤ i.1) : zgen mm i nx = zk4 mm i nx := by
  unfold zgen
  rw [if_neg (by omega), if_neg (by omega), if_neg (by omega)]
noncomputable def zkF (mm : Nat) (i : zMI) (nx : Nat) : Bool := match i with
  | (60, pc, c0, k, v, _) => zD mm pc nx (.getfield (zix v)) 3 && zhF mm c0 k v && zgt c0 (fun t => zint (zTy (t - 1) k))
  | (61, pc, c0, k, v, _) => zD mm pc nx (.getfield (zix v)) 3 && zhF mm c0 k v && zgt c0 (fun t => zrf (zTy (t - 1) k))
  | (62, pc, c0, k, v, _) => zD mm pc nx (.putfield (zix v)) 3 && zhF mm c0 k v && zfi mm c0 k && zgt c0 (fun t => decide (zTy (t - 1) k = .int))
  | (63, pc, c0, k, v, _) => zD mm pc nx (.putfield (zix v)) 3 && zhF mm c0 k v && zfi mm c0 k && zgt c0 (fun t => decide (zTy (t - 1) k = .boolean))
  | (64, pc, c0, k, v, _) => zD mm pc nx (.putfield (zix v)) 3 && zhF mm c0 k v && zfi mm c0 k && zgt c0 (fun t => zrf (zTy (t - 1) k))
  | (90, pc, m2, nn, mx, [(v, c0)]) => zD mm pc nx (.invokestatic (zix v)) 3 && zhL mm 90 v m2 c0 && nn == zPar.getD m2 0 && mx == (zM m2 : Int)
  | (91, pc, m2, nn + 1, mx, [(v, c0)]) => zD mm pc nx (.invokespecial (zix v)) 3 && zhL mm 91 v m2 c0 && nn == zPar.getD m2 0 && mx == (zM m2 : Int)
  | (92, pc, m2, nn + 1, mx, [(v, c0)]) => zD mm pc nx (.invokevirtual (zix v)) 3 && zhL mm 92 v m2 c0 && nn == zPar.getD m2 0 && mx == (zM m2 : Int)
  | i => zgen mm i nx
theorem zkF_ok {mm nx : Nat} {i : zMI} (hm : mm < 302) (h : zkF mm i nx = true) : zgen mm i nx = true := by
  unfold zkF at h
  split at h
  · simp only [Bool.and_eq_true] at h
    obtain ⟨⟨h1, h2⟩, h3⟩ := h
    rw [zgen3 (Nat.le_of_ble_eq_true rfl) (Nat.le_of_ble_eq_true rfl)]
    simp only [zk3, Bool.and_eq_true]
    exact ⟨⟨h1, zhF_ok hm h2⟩, h3⟩
  · simp only [Bool.and_eq_true] at h
    obtain ⟨⟨h1, h2⟩, h3⟩ := h
    rw [zgen3 (Nat.le_of_ble_eq_true rfl) (Nat.le_of_ble_eq_true rfl)]
    simp only [zk3, Bool.and_eq_true]
    exact ⟨⟨h1, zhF_ok hm h2⟩, h3⟩
  · simp only [Bool.and_eq_true] at h
    obtain ⟨⟨⟨h1, h2⟩, h3⟩, h4⟩ := h
    rw [zgen3 (Nat.le_of_ble_eq_true rfl) (Nat.le_of_ble_eq_true rfl)]
    simp only [zk3, Bool.and_eq_true]
    exact ⟨⟨⟨h1, zhF_ok hm h2⟩, h3⟩, h4⟩
  · simp only [Bool.and_eq_true] at h
    obtain ⟨⟨⟨h1, h2⟩, h3⟩, h4⟩ := h
    rw [zgen3 (Nat.le_of_ble_eq_true rfl) (Nat.le_of_ble_eq_true rfl)]
    simp only [zk3, Bool.and_eq_true]
    exact ⟨⟨⟨h1, zhF_ok hm h2⟩, h3⟩, h4⟩
  · simp only [Bool.and_eq_true] at h
    obtain ⟨⟨⟨h1, h2⟩, h3⟩, h4⟩ := h
    rw [zgen3 (Nat.le_of_ble_eq_true rfl) (Nat.le_of_ble_eq_true rfl)]
    simp only [zk3, Bool.and_eq_true]
    exact ⟨⟨⟨h1, zhF_ok hm h2⟩, h3⟩, h4⟩
  · simp only [Bool.and_eq_true, beq_iff_eq] at h
    obtain ⟨⟨⟨h1, h2⟩, rfl⟩, rfl⟩ := h
    have h5 := zhL_ok hm h2
    simp only [zLS, Bool.and_eq_true, Bool.or_eq_true, decide_eq_true_eq, beq_self_eq_true, if_true] at h5
    obtain ⟨⟨⟨⟨⟨k1, k2⟩, k3⟩, k4⟩, k5⟩, k6⟩ := h5
    rw [zgen4 (Nat.le_of_ble_eq_true rfl)]
    simp only [zk4, Bool.and_eq_true, Bool.or_eq_true, decide_eq_true_eq]
    refine ⟨⟨⟨h1, k6⟩, k3⟩, ?_⟩
    rcases k2 with k2 | k2
    · exact Or.inl k2
    · exact Or.inr k2.2
  · simp only [Bool.and_eq_true, beq_iff_eq] at h
    obtain ⟨⟨⟨h1, h2⟩, rfl⟩, rfl⟩ := h
    have h5 := zhL_ok hm h2
    simp only [zLS, Bool.and_eq_true, Bool.or_eq_true, decide_eq_true_eq, beq_self_eq_true, if_true, Nat.reduceBEq, Bool.false_eq_true, if_false] at h5
    obtain ⟨⟨⟨⟨⟨k1, k2⟩, k3⟩, k4⟩, k5⟩, k6⟩ := h5
    rw [zgen4 (Nat.le_of_ble_eq_true rfl)]
    simp only [zk4, Bool.and_eq_true, Bool.or_eq_true, decide_eq_true_eq]
    refine ⟨⟨⟨⟨⟨h1, k6⟩, k3⟩, k4.1⟩, k4.2⟩, ?_⟩
    rcases k2 with k2 | k2
    · exact Or.inl k2
    · exact Or.inr k2.2
  · simp only [Bool.and_eq_true, beq_iff_eq] at h
    obtain ⟨⟨⟨h1, h2⟩, rfl⟩, rfl⟩ := h
    have h5 := zhL_ok hm h2
    simp only [zLS, Bool.and_eq_true, Bool.or_eq_true, decide_eq_true_eq, beq_self_eq_true, if_true, Nat.reduceBEq, Bool.false_eq_true, if_false, bne_self_eq_false, false_and, or_false] at h5
    obtain ⟨⟨⟨⟨⟨k1, k2⟩, k3⟩, k4⟩, k5⟩, k6⟩ := h5
    rw [zgen4 (Nat.le_of_ble_eq_true rfl)]
    simp only [zk4, Bool.and_eq_true, Bool.or_eq_true, decide_eq_true_eq]
    exact ⟨⟨⟨⟨⟨⟨h1, k6⟩, k3⟩, k5.1.1⟩, k5.1.2⟩, k5.2⟩, k2⟩
  · exact h
noncomputable def zokF (mm : Nat) : List zMI → Bool
  | [] => true
  | i :: is => zsc i && zsd i && (if i.1 == 0 then true else if i.1 < 95 then zkF mm i (zpc is) && zokF mm is else zk5 mm i)
theorem zokF_ok {mm : Nat} (hm : mm < 302) : ∀ is, zokF mm is = true → zokB mm is = true
  | [], _ => rfl
  | i :: is, h => by
    unfold zokF at h
    unfold zokB
    simp only [Bool.and_eq_true] at h ⊢
    refine ⟨h.1, ?_⟩
    have h := h.2
    split at h
    · rename_i g
      rw [if_pos g]
    · rename_i g
      rw [if_neg g]
      split at h
      · rename_i g2
        simp only [Bool.and_eq_true] at h
        have h1 := zkF_ok hm h.1
        have h2 := zokF_ok hm is h.2
        unfold zgen at h1
        split at h1
        · rename_i q1
          rw [if_pos q1, h1, h2]; rfl
        · rename_i q1
          rw [if_neg q1]
          split at h1
          · rename_i q2
            rw [if_pos q2, h1, h2]; rfl
          · rename_i q2
            rw [if_neg q2]
            split at h1
            · rename_i q3
              rw [if_pos q3, h1, h2]; rfl
            · rename_i q3
              rw [if_neg q3, if_pos g2, h1, h2]; rfl
      · rename_i g2
        rw [if_neg (by omega), if_neg (by omega), if_neg (by omega), if_neg g2]
        exact h
noncomputable def zchk (a n : Nat) : Bool := (List.range n).all fun j => (zBs.getD (a + j) []).all (zokF (a + j))
noncomputable def zchb (m a n : Nat) : Bool := (List.range n).all fun j => zokF m (zB m (a + j))
