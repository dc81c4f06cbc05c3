section ZR
variable {E : Nat → Nat} {D : va_G} {dA : Nat → ClassId} {b0 mm n : Nat} {p : Program} {l : Launch} {e : Env} {R : Room} {s : State} {m : MethodId} {args : Array Value} {below : List Frame} {meth : Method} {c : Code} {H : Heap} {locs : List Loc} {cells slots : Nat} {Q : State → Prop} {h : zHp} {pc : Nat} {ls : Array Slot} {rest : List Value}
theorem z_iald (X : zCtx E D dA b0 mm n p R s m args meth c) (Y : zDyn D dA b0 s h H locs) {r : Nat} {j : Int} (hd : decode (zC mm) pc = .ok (.iaload, 1)) (ht : ztg h r = 30 ∨ ztg h r = 40) (h0 : 0 ≤ j) (h1 : j < (zln h r : Int)) (hj : zR32 j)
    (kk : W p l e R s m args below meth c H locs cells slots Q (F0 m (pc + 1) ls (.int (Int32.ofInt (zct h r j.toNat)) :: rest))) : W p l e R s m args below meth c H locs cells slots Q (F0 m pc ls (.int (Int32.ofInt j) :: zV (.inr (.inr r)) :: rest)) := by
  obtain ⟨hx, hb, -, -, hown, hts, hK, -, hb0, -⟩ := X
  obtain ⟨⟨hP, -⟩, hC, hi, hS⟩ := Y
  rcases ht with ht | ht
  · obtain ⟨b1, b2⟩ := zin_ob (a := r) hi (by omega) (by omega)
    rw [zV_ref (by omega)]
    have ha := zws_at (dA := dA) b1 b2
    rw [zcell_ai (by omega) (by omega), ht] at ha
    refine va_iald hx hb hK hP _ 0 ha rfl (zi_in h0 h1 hj) hd ?_
    rw [zi_clamp h0 hj]
    exact kk
  · have h9 : 0 < r := by
      rcases hi.2.1 r with q | q | q
      · omega
      · omega
      · exact q.2.1
    rw [zV_ref h9]
    obtain ⟨cell, q1, q2, q3, q4, q5, q6, q7⟩ := (hC r).1 ht
    have hlt := (Array.getElem?_eq_some_iff.mp q1).1
    refine W.iald (v := .int (Int32.ofInt (zct h r j.toNat))) hx hb (by rw [hS.2.1 _ hlt q7]; exact q1) q2 q3 ?_ ?_ rfl rfl hd kk
    · exact zi_in h0 (by omega) hj
    · rw [zi_clamp h0 hj]
      exact q6 _ (by omega)
theorem z_ist (X : zCtx E D dA b0 mm n p R s m args meth c) (Y : zDyn D dA b0 s h H locs) {r : Nat} {j v : Int} (hd : decode (zC mm) pc = .ok (.iastore, 1)) (ht : ztg h r = 30) (h0 : 0 ≤ j) (h1 : j < (zln h r : Int)) (hj : zR32 j) (hv : zR32 v)
    (kk : ∀ H1 locs1, zDyn D dA b0 s (zwr h r j.toNat v) H1 locs1 → W p l e R s m args below meth c H1 locs1 cells slots Q (F0 m (pc + 1) ls rest)) : W p l e R s m args below meth c H locs cells slots Q (F0 m pc ls (.int (Int32.ofInt v) :: .int (Int32.ofInt j) :: zV (.inr (.inr r)) :: rest)) := by
  obtain ⟨hx, hb, -, -, hown, hts, hK, -, hb0, -⟩ := X
  have Y0 := Y
  obtain ⟨⟨hP, -⟩, hC, hi, hS⟩ := Y
  obtain ⟨b1, b2⟩ := zin_ob (a := r) hi (by omega) (by omega)
  rw [zV_ref (by omega)]
  have ha := zws_at (dA := dA) b1 b2
  rw [zcell_ai (by omega) (by omega), ht] at ha
  refine W.iast hx hb (hP _ _ ha) ((hK.2 0 _ rfl).1 _ (fun j => .int _)) (fun q => by cases q) (by show ¬ (_ ∨ (arrV _ _ _).slots.size ≤ _); rw [arrV_size]; exact zi_in h0 h1 hj) rfl rfl hd fun H1 e1 z oq => ?_
  refine kk H1 _ (zDyn_wr Y0 (by omega) (by omega) (fun _ => hv) z oq ?_)
  rw [zcell_ai (by rw [ztg_wr]; omega) (by rw [ztg_wr]; omega)]
  show H1[r - 1]? = some (vp_cell _ _)
  rw [e1, ztg_wr, ht, zln_wr, vp_cell_i, vp_cell_i, arrV_store, zi_clamp h0 hj]
  congr 2
  funext q
  simp only [zct_wr, true_and, updV]
  split <;> rfl
theorem z_bst (X : zCtx E D dA b0 mm n p R s m args meth c) (Y : zDyn D dA b0 s h H locs) {r : Nat} {j v : Int} (hd : decode (zC mm) pc = .ok (.bastore, 1)) (ht : ztg h r = 32) (h0 : 0 ≤ j) (h1 : j < (zln h r : Int)) (hj : zR32 j)
    (kk : ∀ H1 locs1, zDyn D dA b0 s (zwr h r j.toNat (zi2b v)) H1 locs1 → W p l e R s m args below meth c H1 locs1 cells slots Q (F0 m (pc + 1) ls rest)) : W p l e R s m args below meth c H locs cells slots Q (F0 m pc ls (.int (Int32.ofInt v) :: .int (Int32.ofInt j) :: zV (.inr (.inr r)) :: rest)) := by
  obtain ⟨hx, hb, -, -, hown, hts, hK, -, hb0, -⟩ := X
  have Y0 := Y
  obtain ⟨⟨hP, -⟩, hC, hi, hS⟩ := Y
  obtain ⟨b1, b2⟩ := zin_ob (a := r) hi (by omega) (by omega)
  rw [zV_ref (by omega)]
  have ha := zws_at (dA := dA) b1 b2
  rw [zcell_ai (by omega) (by omega), ht] at ha
  refine W.bast hx hb (hP _ _ ha) ((hK.2 2 _ rfl).1 _ (fun j => .int _)) (fun q => by cases q) (by show ¬ (_ ∨ (arrV _ _ _).slots.size ≤ _); rw [arrV_size]; exact zi_in h0 h1 hj) rfl rfl hd fun H1 e1 z oq => ?_
  refine kk H1 _ (zDyn_wr Y0 (by omega) (by omega) (fun _ => zr_i _) z oq ?_)
  rw [zcell_ai (by rw [ztg_wr]; omega) (by rw [ztg_wr]; omega)]
  show H1[r - 1]? = some (vp_cell _ _)
  rw [e1, ztg_wr, ht, zln_wr, vp_cell_i, vp_cell_i, arrV_store, zi_clamp h0 hj]
  congr 2
  funext q
  simp only [zct_wr, true_and, updV]
  split
  · unfold zi2b; rw [z32]; rfl
  · rfl
theorem z_zst (X : zCtx E D dA b0 mm n p R s m args meth c) (Y : zDyn D dA b0 s h H locs) {r : Nat} {j v : Int} (hd : decode (zC mm) pc = .ok (.bastore, 1)) (ht : ztg h r = 31) (hv : v = 0 ∨ v = 1) (h0 : 0 ≤ j) (h1 : j < (zln h r : Int)) (hj : zR32 j)
    (kk : ∀ H1 locs1, zDyn D dA b0 s (zwr h r j.toNat v) H1 locs1 → W p l e R s m args below meth c H1 locs1 cells slots Q (F0 m (pc + 1) ls rest)) : W p l e R s m args below meth c H locs cells slots Q (F0 m pc ls (.int (Int32.ofInt v) :: .int (Int32.ofInt j) :: zV (.inr (.inr r)) :: rest)) := by
  obtain ⟨hx, hb, -, -, hown, hts, hK, -, hb0, -⟩ := X
  have Y0 := Y
  obtain ⟨⟨hP, -⟩, hC, hi, hS⟩ := Y
  obtain ⟨b1, b2⟩ := zin_ob (a := r) hi (by omega) (by omega)
  rw [zV_ref (by omega)]
  have ha := zws_at (dA := dA) b1 b2
  rw [zcell_ai (by omega) (by omega), ht] at ha
  refine W.zast hx hb (hP _ _ ha) ((hK.2 1 _ rfl).1 _ (fun j => .int _)) (fun q => by cases q) (by show ¬ (_ ∨ (arrV _ _ _).slots.size ≤ _); rw [arrV_size]; exact zi_in h0 h1 hj) rfl rfl hd fun H1 e1 z oq => ?_
  refine kk H1 _ (zDyn_wr Y0 (by omega) (by omega) (fun _ => by rcases hv with rfl | rfl <;> exact ⟨by omega, by omega⟩) z oq ?_)
  rw [zcell_ai (by rw [ztg_wr]; omega) (by rw [ztg_wr]; omega)]
  show H1[r - 1]? = some (vp_cell _ _)
  rw [e1, ztg_wr, ht, zln_wr, vp_cell_i, vp_cell_i, arrV_store, zi_clamp h0 hj]
  congr 2
  funext q
  simp only [zct_wr, true_and, updV]
  split
  · rcases hv with rfl | rfl <;> rfl
  · rfl
theorem z_bald (X : zCtx E D dA b0 mm n p R s m args meth c) (Y : zDyn D dA b0 s h H locs) {r : Nat} {j : Int} (hd : decode (zC mm) pc = .ok (.baload, 1)) (ht : ztg h r = 31 ∨ ztg h r = 32 ∨ ztg h r = 41) (h0 : 0 ≤ j) (h1 : j < (zln h r : Int)) (hj : zR32 j)
    (kk : W p l e R s m args below meth c H locs cells slots Q (F0 m (pc + 1) ls (.int (Int32.ofInt (zct h r j.toNat)) :: rest))) : W p l e R s m args below meth c H locs cells slots Q (F0 m pc ls (.int (Int32.ofInt j) :: zV (.inr (.inr r)) :: rest)) := by
  obtain ⟨hx, hb, -, -, hown, hts, hK, -, hb0, -⟩ := X
  obtain ⟨⟨hP, -⟩, hC, hi, hS⟩ := Y
  rcases ht with ht | ht | ht
  · obtain ⟨b1, b2⟩ := zin_ob (a := r) hi (by omega) (by omega)
    rw [zV_ref (by omega)]
    have ha := zws_at (dA := dA) b1 b2
    rw [zcell_ai (by omega) (by omega), ht] at ha
    refine va_zald hx hb hK hP _ 1 ha rfl (zi_in h0 h1 hj) hd ?_
    rw [zi_clamp h0 hj]
    exact kk
  · obtain ⟨b1, b2⟩ := zin_ob (a := r) hi (by omega) (by omega)
    rw [zV_ref (by omega)]
    have ha := zws_at (dA := dA) b1 b2
    rw [zcell_ai (by omega) (by omega), ht] at ha
    refine va_bald hx hb hK hP _ 2 ha rfl (zi_in h0 h1 hj) hd ?_
    rw [zi_clamp h0 hj]
    exact kk
  · have h9 : 0 < r := by
      rcases hi.2.1 r with q | q | q
      · omega
      · omega
      · exact q.2.1
    rw [zV_ref h9]
    obtain ⟨cell, q1, q2, q3, q4, q5, q6, q7⟩ := (hC r).2.1 ht
    have hlt := (Array.getElem?_eq_some_iff.mp q1).1
    refine W.bald (v := .int (Int32.ofInt (zct h r j.toNat))) hx hb (by rw [hS.2.1 _ hlt q7]; exact q1) q2 q3 (zi_in h0 (by omega) hj) ?_ rfl rfl hd kk
    rw [zi_clamp h0 hj]
    exact q6 _ (by omega)
theorem zTA_at {dA : Nat → ClassId} {t : Nat} (h1 : 33 ≤ t) (h2 : t ≤ 37) : ∃ ty, (zTA dA)[t - 30]? = some (dA t, ty) ∧ ty.isReference = true := by
  have : t = 33 ∨ t = 34 ∨ t = 35 ∨ t = 36 ∨ t = 37 := by omega
  rcases this with rfl | rfl | rfl | rfl | rfl <;> exact ⟨_, rfl, rfl⟩
theorem z_aald (X : zCtx E D dA b0 mm n p R s m args meth c) (Y : zDyn D dA b0 s h H locs) {r : Nat} {j : Int} (hd : decode (zC mm) pc = .ok (.aaload, 1)) (ht : 33 ≤ ztg h r ∧ ztg h r ≤ 37) (h0 : 0 ≤ j) (h1 : j < (zln h r : Int)) (hj : zR32 j)
    (kk : W p l e R s m args below meth c H locs cells slots Q (F0 m (pc + 1) ls (zV (.inr (.inr (zct h r j.toNat).toNat)) :: rest))) : W p l e R s m args below meth c H locs cells slots Q (F0 m pc ls (.int (Int32.ofInt j) :: zV (.inr (.inr r)) :: rest)) := by
  obtain ⟨hx, hb, -, -, hown, hts, hK, -, hb0, -⟩ := X
  obtain ⟨⟨hP, -⟩, hC, hi, hS⟩ := Y
  obtain ⟨b1, b2⟩ := zin_ob (a := r) hi (by omega) (by omega)
  rw [zV_ref (by omega)]
  have ha := zws_at (dA := dA) b1 b2
  rw [zcell_ar ht.1] at ha
  obtain ⟨ty, t1, t2⟩ := zTA_at (dA := dA) ht.1 ht.2
  have hjn : j.toNat < zln h r := by omega
  exact W.aald (v := va_rf (zr2 (zct h r j.toNat).toNat)) (ty := ty) hx hb (hP _ _ ha) ((hK.2 _ _ t1).1 _ (fun j => va_rf _)) t2 (fun q => by cases q) (by show ¬ (_ ∨ (arrV _ _ _).slots.size ≤ _); rw [arrV_size]; exact zi_in h0 h1 hj) (by show (arrV _ _ _).slots[_]? = _; rw [zi_clamp h0 hj, arrV_read _ _ hjn]) rfl rfl hd kk
theorem z_alen (X : zCtx E D dA b0 mm n p R s m args meth c) (Y : zDyn D dA b0 s h H locs) {r : Nat} (hd : decode (zC mm) pc = .ok (.arraylength, 1)) (ht : 30 ≤ ztg h r ∧ ztg h r ≤ 41)
    (kk : W p l e R s m args below meth c H locs cells slots Q (F0 m (pc + 1) ls (.int (Int32.ofInt (zln h r)) :: rest))) : W p l e R s m args below meth c H locs cells slots Q (F0 m pc ls (zV (.inr (.inr r)) :: rest)) := by
  obtain ⟨hx, hb, -, -, hown, hts, hK, -, hb0, -⟩ := X
  obtain ⟨⟨hP, -⟩, hC, hi, hS⟩ := Y
  rcases hi.2.1 r with q | q | q
  · omega
  · rw [zV_ref (by omega)]
    have ha := zws_at (dA := dA) q.2.1 q.2.2
    have hT : ∃ ty, (zTA dA)[ztg h r - 30]? = some (dA (ztg h r), ty) := by
      have : ztg h r = 30 ∨ ztg h r = 31 ∨ ztg h r = 32 ∨ ztg h r = 33 ∨ ztg h r = 34 ∨ ztg h r = 35 ∨ ztg h r = 36 ∨ ztg h r = 37 := by omega
      rcases this with w | w | w | w | w | w | w | w <;> rw [w] <;> exact ⟨_, rfl⟩
    obtain ⟨ty, hty⟩ := hT
    by_cases h33 : ztg h r < 33
    · rw [zcell_ai (by omega) h33] at ha
      exact va_alen hx hb hK hP _ _ ha hty rfl hd kk
    · rw [zcell_ar (by omega)] at ha
      exact va_alen hx hb hK hP _ _ ha hty rfl hd kk
  · rw [zV_ref q.2.1]
    rcases q.1 with w | w | w
    · obtain ⟨cell, q1, q2, q3, q4, q5, q6, q7⟩ := (hC r).1 w
      have hlt := (Array.getElem?_eq_some_iff.mp q1).1
      exact W.alen hx hb (by rw [hS.2.1 _ hlt q7]; exact q1) q2 q5 rfl rfl hd kk
    · obtain ⟨cell, q1, q2, q3, q4, q5, q6, q7⟩ := (hC r).2.1 w
      have hlt := (Array.getElem?_eq_some_iff.mp q1).1
      exact W.alen hx hb (by rw [hS.2.1 _ hlt q7]; exact q1) q2 q5 rfl rfl hd kk
    · omega
/-- an object among the cells, for instanceof and the like -/
theorem z_recv (X : zCtx E D dA b0 mm n p R s m args meth c) (Y : zDyn D dA b0 s h H locs) {r : Nat} (h1 : 1 ≤ ztg h r) (h2 : ztg h r ≤ 12) : ∃ cell : Cell, H[r - 1]? = some cell ∧ cell.vm.isStatics = false ∧ s.vm.findClass (zRx (ztg h r - 1)) = some cell.cls := by
  obtain ⟨hx, hb, -, -, hown, hts, hK, -, hb0, -⟩ := X
  obtain ⟨⟨hP, -⟩, hC, hi, hS⟩ := Y
  obtain ⟨b1, b2⟩ := zin_ob (a := r) hi (by omega) (by omega)
  have ha := zws_at (dA := dA) b1 b2
  rw [zcell_ob (by omega)] at ha
  exact va_recv hK hP (z_cl _ (by omega)) ha
theorem zth {t : Nat} (h : zisA 20 t = true) : t = 3 ∨ t = 4 ∨ t = 6 ∨ t = 7 ∨ t = 9 := by
  have := zgrp_of h
  simpa [zgrp] using this
set_option maxRecDepth 100000 in
theorem z_cas : ∀ c ∈ [2, 3, 5, 6, 8], (zRx c, RX9) ∈ zXC := by decide +kernel
theorem z_ast (X : zCtx E D dA b0 mm n p R s m args meth c) (Y : zDyn D dA b0 s h H locs) {r v : Nat} {j : Int} (hd : decode (zC mm) pc = .ok (.aastore, 1)) (ht : zmay (ztg h r) (ztg h v) = true) (h0 : 0 ≤ j) (h1 : j < (zln h r : Int)) (hj : zR32 j)
    (kk : ∀ H1 locs1, zDyn D dA b0 s (zwr h r j.toNat (v : Int)) H1 locs1 → W p l e R s m args below meth c H1 locs1 cells slots Q (F0 m (pc + 1) ls rest)) : W p l e R s m args below meth c H locs cells slots Q (F0 m pc ls (zV (.inr (.inr v)) :: .int (Int32.ofInt j) :: zV (.inr (.inr r)) :: rest)) := by
  have X0 := X
  obtain ⟨hx, hb, -, -, hown, hts, hK, hSt, hb0, -⟩ := X
  have Y0 := Y
  obtain ⟨⟨hP, -⟩, hC, hi, hS⟩ := Y
  obtain ⟨t1, t2⟩ := zmay_of ht
  obtain ⟨b1, b2⟩ := zin_ob (a := r) hi (by omega) (by omega)
  have hv : 1 ≤ ztg h v ∧ ztg h v ≤ 12 := by
    unfold zmay at ht
    simp only [Bool.or_eq_true, Bool.and_eq_true, beq_iff_eq] at ht
    rcases ht with ((ht | ht) | ht) | ht
    · have := zth ht.2
      omega
    · omega
    · omega
    · omega
  obtain ⟨v1, v2⟩ := zin_ob (a := v) hi (by omega) (by omega)
  rw [zV_ref (by omega), zV_ref (by omega)]
  have ha := zws_at (dA := dA) b1 b2
  rw [zcell_ar t1] at ha
  have hav := zws_at (dA := dA) v1 v2
  rw [zcell_ob (by omega)] at hav
  have hcv := z_cl (ztg h v - 1) (by omega)
  obtain ⟨r', hr', cellV, g1, g2, g3, -⟩ := hP _ _ hav
  have hcls := (hK.1 _ _ hcv).2
  obtain ⟨kC, hkC, -⟩ := hcls.2
  -- the row's class, its component, and that the cell may stand there
  have key : ∃ C, (zTA dA)[ztg h r - 30]? = some (dA (ztg h r), .object C) ∧ ∀ comp, s.vm.findClass C = some comp → s.vm.assignable (D.1 (ztg h v - 1)) comp = true := by
    unfold zmay at ht
    simp only [Bool.or_eq_true, Bool.and_eq_true, beq_iff_eq] at ht
    have same : ∀ C, C = zRx (ztg h v - 1) → ∀ comp, s.vm.findClass C = some comp → s.vm.assignable (D.1 (ztg h v - 1)) comp = true := by
      intro C hC comp hcomp
      subst hC
      have : comp = D.1 (ztg h v - 1) := Option.some.inj (hcomp.symm.trans hcls.1)
      subst this
      exact va_assign hcls
    rcases ht with ((ht | ht) | ht) | ht
    · refine ⟨RX9, by rw [ht.1]; rfl, fun comp hcomp => ?_⟩
      have hmem : (zRx (ztg h v - 1), RX9) ∈ zXC := z_cas _ (by have := zth ht.2; rcases this with w | w | w | w | w <;> rw [w] <;> decide)
      exact vb_asgC (hSt.2.2.2.2.2.2.2.1 _ hmem) comp _ hcomp hcls.1
    · exact ⟨RX6, by rw [ht.1]; rfl, same _ (by rw [ht.2]; rfl)⟩
    · exact ⟨RX1, by rw [ht.1]; rfl, same _ (by rw [ht.2]; rfl)⟩
    · exact ⟨RX0, by rw [ht.1]; rfl, same _ (by rw [ht.2]; rfl)⟩
  obtain ⟨C, hT, hasg⟩ := key
  obtain ⟨kA, comp, k1, k2, k3, -⟩ := (hK.2 _ _ hT).2
  obtain ⟨kc, hkc, -⟩ := Vm.findClass_spec k3
  have hjn : j.toNat < zln h r := by omega
  refine W.aast hx hb (hP _ _ ha) (fun q h => by cases h) (fun h => by cases h) k1 k2 rfl hkc ⟨fun q => (zi_in h0 h1 hj) (Or.inl q), by show _ < (arrV _ _ _).slots.size; rw [arrV_size, zi_clamp h0 hj]; exact hjn⟩ g1 (fun q h => by rw [g3] at h; cases h) (by rw [g2]; exact hkC) (by rw [g2]; exact hasg comp k3) rfl rfl hd fun H1 e1 z oq => ?_
  refine kk H1 _ (zDyn_wr Y0 (by omega) (by omega) (fun q => by rw [zis_ref (by omega) (by omega)] at q; cases q) z oq ?_)
  rw [zcell_ar (by rw [ztg_wr]; omega)]
  show H1[r - 1]? = some (vp_cell _ _)
  rw [e1, ztg_wr, zln_wr, vp_cell_q, vp_cell_q, arrV_store, zi_clamp h0 hj]
  congr 2
  funext q
  simp only [zct_wr, true_and, updV]
  split
  · rw [Int.toNat_natCast, ← zV_ref (show 0 < v by omega)]; rfl
  · rfl
end ZR
