section ZM
variable {E : Nat → Nat} {D : va_G} {dA : Nat → ClassId} {b0 mm n : Nat} {p : Program} {l : Launch} {e : Env} {R : Room} {s : State} {m : MethodId} {args : Array Value} {below : List Frame} {meth : Method} {c : Code} {H : Heap} {locs : List Loc} {cells slots : Nat} {Q : State → Prop} {h : zHp} {pc : Nat} {ls : Array Slot} {rest : List Value}
/-- a static field, named as its own kind spells it -/
def zks (mm : Nat) (pos ix : Nat) (C nm d : String) : Bool := zAt pos (.fieldLink (zY mm).cls ix C nm d)
theorem z_gets (X : zCtx E D dA b0 mm n p R s m args meth c) (Y : zDyn D dA b0 s h H locs) {pos ix : Nat} {C nm d : String} {v : Value} (hZ : va_Z C nm d v (zA b0) s s.heap) (hk : zks mm pos ix C nm d = true) (hd : decode (zC mm) pc = .ok (.getstatic ix, 3))
    (kk : W p l e R s m args below meth c H locs cells slots Q (F0 m (pc + 3) ls (v :: rest))) : W p l e R s m args below meth c H locs cells slots Q (F0 m pc ls rest) := by
  obtain ⟨hx, hb, -, -, hown, hts, -⟩ := X
  exact va_gets hx hb hZ Y.2.2.2 hown (hts _ (zAt_in hk)) (fun _ q => q) hd kk
theorem z_ldcs (X : zCtx E D dA b0 mm n p R s m args meth c) {a ix : Nat} (ha : a < 12) (hix : (zSi.getD a (0, "")).1 = ix) (hcl : (zY mm).cls = RX1) (hd : decode (zC mm) pc = .ok (.ldc ix, 2))
    (kk : W p l e R s m args below meth c H locs cells slots Q (F0 m (pc + 2) ls (zV (.inr (.inr (E a))) :: rest))) : W p l e R s m args below meth c H locs cells slots Q (F0 m pc ls rest) := by
  obtain ⟨hx, hb, -, -, hown, hts, hK, hSt, -⟩ := X
  obtain ⟨q, e1, hr⟩ := hSt.1 a ha
  rw [e1, zV_ref (by omega)] at kk
  subst hix
  rw [hcl] at hown
  exact va_ldcS hx hb hown hr hd kk
set_option maxRecDepth 100000 in
theorem z_cpw : ∀ w ∈ [Cond.native arraycopyName, .static arraycopyName, .initialized "java/lang/System"], w ∈ lw_tbl := by decide +kernel
theorem zcell_cp {dA : Nat → ClassId} {h : zHp} {a sp b dp k q : Nat} (hq : q ≠ b) : zcell dA (zcp h a sp b dp k) q = zcell dA h q := by
  unfold zcell
  simp only [ztg_cp, zln_cp, zct_cp, hq, false_and, if_false]
theorem z_nnI {z : Int} (h0 : 0 ≤ z) (h : zR32 z) : (Int32.ofInt z).toInt = ((z.toNat : Nat) : Int) := by
  rw [Int32.toInt_ofInt_of_le (by have := h.1; omega) (by have := h.2; omega)]
  omega
theorem z_copy (X : zCtx E D dA b0 mm n p R s m args meth c) (Y : zDyn D dA b0 s h H locs) {a b ix : Nat} {sp dp k : Int} {st : List zAV} (hls : ls.size = n) (hst : st.length ≤ 4) (hd : decode (zC mm) pc = .ok (.invokestatic ix, 3)) (hl : Cond.methodLink (zY mm).cls ix arraycopyName ∈ zW) (ha : ztg h a = 30) (hb1 : ztg h b = 30) (h1 : 0 ≤ sp) (h2 : 0 ≤ dp) (h3 : 0 ≤ k) (h4 : sp + k ≤ (zln h a : Int)) (h5 : dp + k ≤ (zln h b : Int)) (r1 : zR32 sp) (r2 : zR32 dp) (r3 : zR32 k)
    (kk : ∀ H1 locs1, zDyn D dA b0 s (zcp h a sp.toNat b dp.toNat k.toNat) H1 locs1 → W p l e R s m args below meth c H1 locs1 cells slots Q (F0 m (pc + 3) ls (st.map zV))) : W p l e R s m args below meth c H locs cells slots Q (F0 m pc ls (.int (Int32.ofInt k) :: .int (Int32.ofInt dp) :: zV (.inr (.inr b)) :: .int (Int32.ofInt sp) :: zV (.inr (.inr a)) :: st.map zV)) := by
  obtain ⟨hx, hb, hml, -, hown, hts, hK, hSt, hb0, hR1, hR2⟩ := X
  obtain ⟨⟨hP, hsz⟩, hC, hi, hS⟩ := Y
  obtain ⟨a1, a2⟩ := zin_ob (a := a) hi (by omega) (by omega)
  obtain ⟨b1, b2⟩ := zin_ob (a := b) hi (by omega) (by omega)
  rw [zV_ref (show 0 < a by omega), zV_ref (show 0 < b by omega)]
  have ha0 := zws_at (dA := dA) a1 a2
  rw [zcell_ai (by omega) (by omega), ha] at ha0
  have ha1 := zws_at (dA := dA) b1 b2
  rw [zcell_ai (by omega) (by omega), hb1] at ha1
  have hcat := z_stcat hst
  have hnw : nativeFrameWords "java/lang/System" "arraycopy" 5 ≤ 30 := by decide +kernel
  have hzero : (⟨by omega, by omega⟩ : zR32 0) = ⟨by omega, by omega⟩ := rfl
  have n1 : ¬ Int32.ofInt sp < 0 := fun q => by have := (zi_lt r1 (⟨by omega, by omega⟩ : zR32 0)).mp q; omega
  have n2 : ¬ Int32.ofInt dp < 0 := fun q => by have := (zi_lt r2 (⟨by omega, by omega⟩ : zR32 0)).mp q; omega
  have n3 : ¬ Int32.ofInt k < 0 := fun q => by have := (zi_lt r3 (⟨by omega, by omega⟩ : zR32 0)).mp q; omega
  have c1 := zi_clamp h1 r1
  have c2 := zi_clamp h2 r2
  have c3 := zi_clamp h3 r3
  intro T hT XT
  have hc0 : H[a - 1]? = some (vp_cell (dA 30) (zln h a, .inl (fun i => Int32.ofInt (zct h a i)))) := hP _ _ ha0
  have hc1 : H[b - 1]? = some (vp_cell (dA 30) (zln h b, .inl (fun i => Int32.ofInt (zct h b i)))) := hP _ _ ha1
  obtain ⟨-, k0, hk0, cm0, hkk0⟩ := (hK.2 0 _ rfl).1 0 (fun _ => .null)
  obtain ⟨vm', X', step⟩ := XT.arraycopy hx hown (hts _ hl) (hts _ (z_jw (z_cpw _ (by simp)) rfl)) (hts _ (z_jw (z_cpw _ (by simp)) rfl)) (hts _ (z_jw (z_cpw _ (by simp)) rfl)) (src := a - 1) (dst := b - 1) (cs := vp_cell (dA 30) (zln h a, .inl (fun i => Int32.ofInt (zct h a i)))) (cd := vp_cell (dA 30) (zln h b, .inl (fun i => Int32.ofInt (zct h b i)))) (srcPos := Int32.ofInt sp) (destPos := Int32.ofInt dp) (n := Int32.ofInt k) (by rw [hT]; exact hc0) (by rw [hT]; exact hc1)
    (fun _ q => by cases q) (fun _ q => by cases q) (fun q => by cases q) (fun q => by cases q) hk0 hk0 hkk0 hkk0 (by simp [refKind]) n1 n2 n3
    (by rw [z_nnI h1 r1, z_nnI h3 r3]; show ¬ _ > ((arrV _ _ _).slots.size : Int); rw [arrV_size]; omega)
    (by rw [z_nnI h2 r2, z_nnI h3 r3]; show ¬ _ > ((arrV _ _ _).slots.size : Int); rw [arrV_size]; omega)
    (fun vm₁ _ i hii => by
      have e9 : (vp_cell (dA 30) (zln h a, .inl (fun i => Int32.ofInt (zct h a i)))).slots.getD ((Int32.ofInt sp).toNatClampNeg + i) .null = .int (Int32.ofInt (zct h a ((Int32.ofInt sp).toNatClampNeg + i))) := by
        show (arrV _ _ _).slots.getD _ _ = _
        rw [Array.getD_eq_getD_getElem?, arrV_read _ _ (by rw [c1]; rw [c3] at hii; omega)]
        rfl
      exact ⟨by rw [e9]; rfl, by rw [e9]; exact trivial⟩)
    (g := F0 m pc ls (.int (Int32.ofInt k) :: .int (Int32.ofInt dp) :: .ref (b - 1) :: .int (Int32.ofInt sp) :: .ref (a - 1) :: st.map zV)) rfl (by rw [hml]; exact hls) (rest := st.map zV) rfl (by rw [hb]; exact hd) hR1 (by show 2 * 0 + _ + _ ≤ _; omega)
  have e1 := va_copied (fun z => Value.int z) (dA 30) (dA 30) (n0 := zln h a) (n1 := zln h b) (sp := (Int32.ofInt sp).toNatClampNeg) (dp := (Int32.ofInt dp).toNatClampNeg) (n := (Int32.ofInt k).toNatClampNeg) (fun i => Int32.ofInt (zct h a i)) (fun i => Int32.ofInt (zct h b i)) (by rw [c1, c3]; omega)
  have e2 : copied (vp_cell (dA 30) (zln h a, .inl (fun i => Int32.ofInt (zct h a i)))) (vp_cell (dA 30) (zln h b, .inl (fun i => Int32.ofInt (zct h b i)))) (Int32.ofInt sp) (Int32.ofInt dp) (Int32.ofInt k) = vp_cell (dA 30) (zln h b, .inl (va_cpy (fun i => Int32.ofInt (zct h a i)) (fun i => Int32.ofInt (zct h b i)) (Int32.ofInt sp).toNatClampNeg (Int32.ofInt dp).toNatClampNeg (Int32.ofInt k).toNatClampNeg)) := e1
  rw [e2] at X' step
  rw [c1, c2, c3] at X' step
  have hlb : b - 1 < H.size := (Array.getElem?_eq_some_iff.mp hc1).1
  have hcellE : zcell dA (zcp h a sp.toNat b dp.toNat k.toNat) b = .inl (dA 30, zln h b, .inl (va_cpy (fun i => Int32.ofInt (zct h a i)) (fun i => Int32.ofInt (zct h b i)) sp.toNat dp.toNat k.toNat)) := by
    rw [zcell_ai (by rw [ztg_cp]; omega) (by rw [ztg_cp]; omega), ztg_cp, hb1, zln_cp]
    congr 3
    congr 1
    funext i
    simp only [zct_cp, true_and, va_cpy]
    split <;> rfl
  obtain ⟨w1, w2⟩ := zcp_ok (sp := sp.toNat) (dp := dp.toNat) (n := k.toNat) hi ha hb1
  have oq : ∀ q : Nat, q ≠ b - 1 → (H.setIfInBounds (b - 1) (vp_cell (dA 30) (zln h b, .inl (va_cpy (fun i => Int32.ofInt (zct h a i)) (fun i => Int32.ofInt (zct h b i)) sp.toNat dp.toNat k.toNat))))[q]? = H[q]? := fun q hq => by simp [Array.getElem?_setIfInBounds, Ne.symm hq]
  have hP' := hP.set (zws_D dA b0 h) (zws_at (dA := dA) b1 b2) (e := zcell dA (zcp h a sp.toNat b dp.toNat k.toNat) b) (H1 := H.setIfInBounds (b - 1) (vp_cell (dA 30) (zln h b, .inl (va_cpy (fun i => Int32.ofInt (zct h a i)) (fun i => Int32.ofInt (zct h b i)) sp.toNat dp.toNat k.toNat)))) (by
    rw [hcellE]
    show (H.setIfInBounds (b - 1) _)[b - 1]? = some _
    simp [Array.getElem?_setIfInBounds, hlb]) oq
  rw [zws_upd (dA := dA) (h := h) (h' := zcp h a sp.toNat b dp.toNat k.toNat) (a := b) rfl b1 b2 (fun q hq => zcell_cp hq)] at hP'
  obtain ⟨t, q1, q2⟩ := kk _ _ ⟨⟨hP', by rw [Array.size_setIfInBounds, hsz]; rfl⟩, hC.good w2, w1, ⟨by simp; exact hS.1, fun q g1 g2 => by
      rw [oq q (fun e => g2 (by rw [e]; unfold zA; omega))]
      exact hS.2.1 q g1 g2, fun q hq => by
      rcases List.mem_append.mp hq with z | z
      · exact hS.2.2 q z
      · obtain ⟨y, -, hy⟩ := List.mem_map.mp z
        rw [← hy]
        show b0 ≤ b - 1
        omega⟩⟩ _ (by rw [← hT]; rfl) X'
  exact ⟨t, step t q1, q2⟩
theorem z_casA (X : zCtx E D dA b0 mm n p R s m args meth c) (Y : zDyn D dA b0 s h H locs) {r ix : Nat} (hd : decode (zC mm) pc = .ok (.checkcast ix, 3)) (hl : Cond.classLink (zY mm).cls ix "[I" ∈ zW) (ht : ztg h r = 30)
    (kk : W p l e R s m args below meth c H locs cells slots Q (F0 m (pc + 3) ls (zV (.inr (.inr r)) :: rest))) : W p l e R s m args below meth c H locs cells slots Q (F0 m pc ls (zV (.inr (.inr r)) :: rest)) := by
  obtain ⟨hx, hb, hml, -, hown, hts, hK, hSt, hb0, hR1, hR2⟩ := X
  obtain ⟨⟨hP, hsz⟩, hC, hi, hS⟩ := Y
  obtain ⟨a1, a2⟩ := zin_ob (a := r) hi (by omega) (by omega)
  rw [zV_ref (by omega)] at kk ⊢
  have ha := zws_at (dA := dA) a1 a2
  rw [zcell_ai (by omega) (by omega), ht] at ha
  exact va_castA hx hb hown (hts _ hl) hP _ ha (va_nm_int (hK.2 0 _ rfl).2) hd kk
theorem z_sval (X : zCtx E D dA b0 mm n p R s m args meth c) (Y : zDyn D dA b0 s h H locs) {r : Nat} {v : Int} (hk : zAt (zpo v) (.fieldLink (zY mm).cls (zix v) "java/lang/String" "value" "[B") = true) (hd : decode (zC mm) pc = .ok (.getfield (zix v), 3)) (ht : ztg h r = 50)
    (kk : W p l e R s m args below meth c H locs cells slots Q (F0 m (pc + 3) ls (zV (.inr (.inr (zct h r 0).toNat)) :: rest))) : W p l e R s m args below meth c H locs cells slots Q (F0 m pc ls (zV (.inr (.inr r)) :: rest)) := by
  obtain ⟨hx, hb, hml, -, hown, hts, hK, hSt, hb0, hR1, hR2⟩ := X
  have h9 : 0 < r := by
    rcases Y.2.2.1.2.1 r with q | q | q
    · omega
    · omega
    · exact q.2.1
  rw [zV_ref h9]
  exact vk_getf hx hb ((Y.2.1 r).2.2 ht).2.2 Y.2.2.2 hown (hts _ (zAt_in hk)) (fun _ q => q) hd kk
theorem z_scod (X : zCtx E D dA b0 mm n p R s m args meth c) (Y : zDyn D dA b0 s h H locs) {r : Nat} {v : Int} (hk : zAt (zpo v) (.fieldLink (zY mm).cls (zix v) "java/lang/String" "coder" "B") = true) (hd : decode (zC mm) pc = .ok (.getfield (zix v), 3)) (ht : ztg h r = 50)
    (kk : W p l e R s m args below meth c H locs cells slots Q (F0 m (pc + 3) ls (.int (Int32.ofInt 0) :: rest))) : W p l e R s m args below meth c H locs cells slots Q (F0 m pc ls (zV (.inr (.inr r)) :: rest)) := by
  obtain ⟨hx, hb, hml, -, hown, hts, hK, hSt, hb0, hR1, hR2⟩ := X
  have h9 : 0 < r := by
    rcases Y.2.2.1.2.1 r with q | q | q
    · omega
    · omega
    · exact q.2.1
  rw [zV_ref h9]
  exact vk_getf hx hb ((Y.2.1 r).2.2 ht).2.1 Y.2.2.2 hown (hts _ (zAt_in hk)) (fun _ q => q) hd kk
set_option maxRecDepth 100000 in
theorem z_clw : ∀ w ∈ [Cond.sameMethod "[I" "java/lang/Object" "clone" "()Ljava/lang/Object;", .native ⟨"java/lang/Object", "clone", "()Ljava/lang/Object;"⟩, .instanceMethod ⟨"java/lang/Object", "clone", "()Ljava/lang/Object;"⟩, .selects "[I" ⟨"[I", "clone", "()Ljava/lang/Object;"⟩ ⟨"java/lang/Object", "clone", "()Ljava/lang/Object;"⟩], w ∈ lw_tbl := by decide +kernel
theorem z_clone (X : zCtx E D dA b0 mm n p R s m args meth c) (Y : zDyn D dA b0 s h H locs) {r ix : Nat} {st : List zAV} (hls : ls.size = n) (hst : st.length ≤ 4) (hd : decode (zC mm) pc = .ok (.invokevirtual ix, 3)) (hl : Cond.methodLink (zY mm).cls ix ⟨"[I", "clone", "()Ljava/lang/Object;"⟩ ∈ zW) (ht : ztg h r = 30) (hcl : cells + 1 ≤ R.cells) (hsl : slots + zln h r ≤ R.slots)
    (kk : ∀ H1, zDyn D dA b0 s (zal h 30 (zln h r) (fun k => zct h r k)) H1 locs → W p l e R s m args below meth c H1 locs (cells + 1) (slots + zln h r) Q (F0 m (pc + 3) ls (zV (.inr (.inr (znx h + 1))) :: st.map zV))) : W p l e R s m args below meth c H locs cells slots Q (F0 m pc ls (zV (.inr (.inr r)) :: st.map zV)) := by
  obtain ⟨hx, hb, hml, -, hown, hts, hK, hSt, hb0, hR1, hR2⟩ := X
  have Y0 := Y
  obtain ⟨⟨hP, hsz⟩, hC, hi, hS⟩ := Y
  obtain ⟨a1, a2⟩ := zin_ob (a := r) hi (by omega) (by omega)
  rw [zV_ref (show 0 < r by omega)]
  have ha := zws_at (dA := dA) a1 a2
  rw [zcell_ai (by omega) (by omega), ht] at ha
  have hcat := z_stcat hst
  have hnm : s.vm.findClass "[I" = some (dA 30) := va_nm_int (hK.2 0 _ rfl).2
  have hcs : (("[I", "java/lang/Cloneable") : String × String) ∈ zXC := by decide +kernel
  obtain ⟨c0, t0', f1, f2, f3⟩ := Cond.castable_spec (va_Nw.use (A := args) rfl (hSt.2.2.2.2.2.2.2.1 _ hcs))
  cases hnm.symm.trans f1
  intro T hT XT
  have hcellT : T.heap[r - 1]? = some (vp_cell (dA 30) (zln h r, .inl (fun i => Int32.ofInt (zct h r i)))) := by rw [hT]; exact hP _ _ ha
  obtain ⟨-, kA, hkA, comp, hkind⟩ := State.isArrayOf_alike XT.warmed.alike ((hK.2 0 _ rfl).1 0 (fun _ => .null))
  obtain ⟨-, kS, hkS, compS, hkindS⟩ := (hK.2 0 _ rfl).1 0 (fun _ => .null)
  obtain ⟨vm', X', st'⟩ := XT.cloneArray hx hown (hts _ hl) (hts _ (z_jw (z_clw _ (by simp)) rfl)) (hts _ (z_jw (z_clw _ (by simp)) rfl)) (hts _ (z_jw (z_clw _ (by simp)) rfl)) (hts _ (z_jw (z_clw _ (by simp)) rfl)) (a := r - 1) (cell := vp_cell (dA 30) (zln h r, .inl (fun i => Int32.ofInt (zct h r i)))) hcellT (fun k q => by cases q) (fun q => by cases q) hnm f2 f3
    (fun i v hv => by
      have hk' : T.vm.classes[dA 30]? = some kA := hkA
      have hv2 : (arrV (dA 30) (zln h r) (fun j => Value.int (Int32.ofInt (zct h r j)))).slots[i]? = some v := hv
      have hi2 : i < zln h r := by
        have := (Array.getElem?_eq_some_iff.mp hv2).1
        rw [arrV_size] at this
        exact this
      rw [arrV_read _ _ hi2] at hv2
      cases hv2
      show State.fitsSlot _ (dA 30) _ _ _ = true
      simp [State.fitsSlot, State.slotType?, hk', hkind, fits, vp_cell, arrV])
    (g := F0 m pc ls (.ref (r - 1) :: st.map zV)) rfl (by rw [hml]; exact hls) rfl (by rw [hb]; exact hd) hR1 (by show 2 * 0 + _ + 14 ≤ _; omega) hcl (by show slots + (arrV _ _ _).slots.size ≤ _; rw [arrV_size]; exact hsl) (hloader := Vm.clonesLoader_of_array hkS hkindS)
  have hcellE : ({ cls := (vp_cell (dA 30) (zln h r, .inl (fun i => Int32.ofInt (zct h r i)))).cls, slots := (vp_cell (dA 30) (zln h r, .inl (fun i => Int32.ofInt (zct h r i)))).slots } : Cell) = vp_cell (dA 30) (zln h r, .inl (fun i => Int32.ofInt (zct h r i))) := rfl
  have hsz2 : (vp_cell (dA 30) (zln h r, .inl (fun i => Int32.ofInt (zct h r i)))).slots.size = zln h r := arrV_size _ _ _
  rw [hcellE, hsz2] at X'
  generalize hH1 : H.push (vp_cell (dA 30) (zln h r, .inl (fun i => Int32.ofInt (zct h r i)))) = H1
  have z1 : H1.size = H.size + 1 := by rw [← hH1, Array.size_push]
  have e1 : H1[H.size]? = some (vp_cell (dA 30) (zln h r, .inl (fun i => Int32.ofInt (zct h r i)))) := by rw [← hH1, Array.getElem?_push_size]
  have o1 : ∀ q : Nat, q < H.size → H1[q]? = H[q]? := fun q hq => by rw [← hH1, Array.getElem?_push, if_neg (Nat.ne_of_lt hq)]
  have h2 := kk H1 (zDyn_al Y0 (Or.inr ⟨by omega, by omega⟩) (hi.2.2.2 r) (fun k _ => hi.2.2.1 r k (by rw [ht]; rfl)) z1 o1 ?_)
  · obtain ⟨t, q1, q2⟩ := h2 ((T.setVm vm').pushCell (vp_cell (dA 30) (zln h r, .inl (fun i => Int32.ofInt (zct h r i))))) (by rw [← hH1, ← hT]; rfl) X'
    refine ⟨t, st' t ?_, q2⟩
    rw [zV_ref (by omega), ← hsz] at q1
    rw [hcellE, hT]
    exact q1
  · rw [zcell_ai (by rw [ztg_al, if_pos rfl]; omega) (by rw [ztg_al, if_pos rfl]; omega)]
    show H1[znx h]? = some (vp_cell _ _)
    rw [← hsz, e1]
    simp only [ztg_al, zln_al, zct_al, hsz, if_true]
end ZM
