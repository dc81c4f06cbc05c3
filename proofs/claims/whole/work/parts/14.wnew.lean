section ZN
variable {E : Nat → Nat} {D : va_G} {dA : Nat → ClassId} {b0 mm n : Nat} {p : Program} {l : Launch} {e : Env} {R : Room} {s : State} {m : MethodId} {args : Array Value} {below : List Frame} {meth : Method} {c : Code} {H : Heap} {locs : List Loc} {cells slots : Nat} {Q : State → Prop} {h : zHp} {pc : Nat} {ls : Array Slot} {rest : List Value}
/-- a class all of whose fields are whole numbers or cells, made by 'new' -/
def zkn (mm c0 n : Nat) (v : Int) : Bool := decide (c0 < 12) && (n == zNf c0) && zAt (zpo v) (.classLink (zY mm).cls (zix v) (zRx c0)) && zAt (zPn.getD c0 0) (.instantiable (zRx c0) n) && zAt (zPni.getD c0 0) (.initialized (zRx c0)) && (List.range n).all (fun k => zint (zTy c0 k) || zrf (zTy c0 k)) && (List.range n).all (fun k => decide (zfv (zTy c0 k) 0 = defaultValue (zTy c0 k)))
theorem z_new (X : zCtx E D dA b0 mm n p R s m args meth c) (Y : zDyn D dA b0 s h H locs) {c0 nf : Nat} {v : Int} (hk : zkn mm c0 nf v = true) (hd : decode (zC mm) pc = .ok (.new (zix v), 3)) (hcl : cells + 1 ≤ R.cells) (hsl : slots + nf ≤ R.slots)
    (kk : ∀ H1, zDyn D dA b0 s (zal h (c0 + 1) nf (fun _ => 0)) H1 locs → W p l e R s m args below meth c H1 locs (cells + 1) (slots + nf) Q (F0 m (pc + 3) ls (zV (.inr (.inr (znx h + 1))) :: rest))) : W p l e R s m args below meth c H locs cells slots Q (F0 m pc ls rest) := by
  simp only [zkn, Bool.and_eq_true, decide_eq_true_eq, beq_iff_eq, List.all_eq_true, List.mem_range] at hk
  obtain ⟨⟨⟨⟨⟨⟨k1, k2⟩, k3⟩, k4⟩, k5⟩, -⟩, k7⟩ := hk
  subst k2
  obtain ⟨hx, hb, -, -, hown, hts, hK, hSt, hb0, -⟩ := X
  have Y0 := Y
  obtain ⟨⟨hP, hsz⟩, hC, hi, hS⟩ := Y
  have hc := z_cl c0 k1
  have hKn := hK.1 c0 _ hc
  have hnf : zNf c0 ≤ 100000 := by
    have : c0 = 0 ∨ c0 = 1 ∨ c0 = 2 ∨ c0 = 3 ∨ c0 = 4 ∨ c0 = 5 ∨ c0 = 6 ∨ c0 = 7 ∨ c0 = 8 ∨ c0 = 9 ∨ c0 = 10 ∨ c0 = 11 := by omega
    rcases this with rfl | rfl | rfl | rfl | rfl | rfl | rfl | rfl | rfl | rfl | rfl | rfl <;> decide
  refine W.newcK hx hb hown (hts _ (zAt_in k3)) (hts _ (zAt_in k4)) (hts _ (zAt_in k5)) rfl hd hcl hsl hKn.2.1 hsz fun H1 kC hkC e1 z1 o1 => ?_
  have h2 := kk H1 (zDyn_al Y0 (Or.inl ⟨by omega, by omega⟩) hnf (fun _ _ => ⟨by omega, by omega⟩) (by rw [z1, hsz]) (fun q hq => o1 q (by rw [← hsz]; exact hq)) ?_)
  · rw [zV_ref (by omega)] at h2
    exact h2
  · have hce : zcell dA (zal h (c0 + 1) (zNf c0) (fun _ => 0)) (znx h + 1) = .inr (c0, (List.range (zNf c0)).map fun k => zfv (zTy c0 k) 0) := by
      rw [zcell_ob (by rw [ztg_al, if_pos rfl]; omega)]
      simp only [ztg_al, zct_al, if_true, Nat.add_sub_cancel]
    rw [hce]
    refine ⟨_, hc, (u_born (zTy c0) hts (z_ws c0 k1) hKn hkC e1 (z_ty c0 k1)).to fun j hj => ?_⟩
    unfold vp_V
    rw [List.getD_eq_getElem?_getD, zfs_at hj, Option.getD_some]
    exact (k7 j hj).symm
theorem z_arc {A B : ClassId} {ty : FieldType} (hA : va_RA s A ty) (hn : ∀ C, ty ≠ .object C) (hB : s.vm.findClass ("[" ++ ty.toString) = some B) : B = A := by
  cases ty <;> first | exact Option.some.inj (hB.symm.trans hA) | exact absurd rfl (hn _)
set_option maxRecDepth 100000 in
theorem z_acl : ∀ t ∈ [FieldType.int, .boolean, .byte], Cond.arrayClass t ∈ lw_tbl := by decide +kernel
theorem z_newa (X : zCtx E D dA b0 mm n p R s m args meth c) (Y : zDyn D dA b0 s h H locs) {t : Nat} {at0 : ArrayType} {v : Int} (ht : t = 30 ∨ t = 31 ∨ t = 32) (hta : (zTA dA)[t - 30]? = some (dA t, newarray.typeOf at0)) (hd : decode (zC mm) pc = .ok (.newarray at0, 2)) (h0 : 0 ≤ v) (h1 : v ≤ 100000) (hcl : cells + 1 ≤ R.cells) (hsl : slots + v.toNat ≤ R.slots)
    (kk : ∀ H1, zDyn D dA b0 s (zal h t v.toNat (fun _ => 0)) H1 locs → W p l e R s m args below meth c H1 locs (cells + 1) (slots + v.toNat) Q (F0 m (pc + 2) ls (zV (.inr (.inr (znx h + 1))) :: rest))) : W p l e R s m args below meth c H locs cells slots Q (F0 m pc ls (.int (Int32.ofInt v) :: rest)) := by
  obtain ⟨hx, hb, -, -, hown, hts, hK, hSt, hb0, -⟩ := X
  have Y0 := Y
  obtain ⟨⟨hP, hsz⟩, hC, hi, hS⟩ := Y
  have hvr : zR32 v := ⟨by omega, by omega⟩
  have hty : newarray.typeOf at0 = .int ∨ newarray.typeOf at0 = .boolean ∨ newarray.typeOf at0 = .byte := by
    rcases ht with rfl | rfl | rfl
    · exact Or.inl (congrArg Prod.snd (Option.some.inj hta)).symm
    · exact Or.inr (Or.inl (congrArg Prod.snd (Option.some.inj hta)).symm)
    · exact Or.inr (Or.inr (congrArg Prod.snd (Option.some.inj hta)).symm)
  have hcb : componentBytes (newarray.typeOf at0) ≤ 4 := by rcases hty with e | e | e <;> rw [e] <;> decide
  refine va_newaK hx hb (hts _ (z_jw (z_acl _ (by rcases hty with e | e | e <;> rw [e] <;> simp)) rfl)) rfl hd rfl (fun q => ?_) (zi_clamp h0 hvr) ?_ hcl hsl hsz fun H1 cA e1 z1 o1 hAr hNm => ?_
  · have := (zi_lt hvr (⟨by omega, by omega⟩ : zR32 0)).mp q
    omega
  · have h9 : v.toNat ≤ 100000 := by omega
    exact Nat.le_trans (Nat.mul_le_mul h9 hcb) (by decide)
  · have h2 := kk H1 (zDyn_al Y0 (Or.inr ⟨by omega, by omega⟩) (by omega) (fun _ _ => ⟨by omega, by omega⟩) (by rw [z1, hsz]) (fun q hq => o1 q (by rw [← hsz]; exact hq)) ?_)
    · rw [zV_ref (by omega)] at h2
      exact h2
    · rw [zcell_ai (by rw [ztg_al, if_pos rfl]; omega) (by rw [ztg_al, if_pos rfl]; omega)]
      show H1[znx h]? = some (vp_cell _ _)
      have hcA : cA = dA t := z_arc (hK.2 _ _ hta).2 (fun C q => by have q : newarray.typeOf at0 = .object C := q; rw [q] at hty; rcases hty with w | w | w <;> cases w) hNm
      rw [e1, vp_cell_i, hcA]
      simp only [ztg_al, zln_al, zct_al, if_true]
      congr 2
      funext q
      rcases hty with w | w | w <;> rw [w] <;> rfl
theorem z_newq (X : zCtx E D dA b0 mm n p R s m args meth c) (Y : zDyn D dA b0 s h H locs) {t ix : Nat} {C : String} {v : Int} (ht : t = 33 ∨ t = 34 ∨ t = 35 ∨ t = 36) (hta : (zTA dA)[t - 30]? = some (dA t, .object C)) (hCO : C ∈ zXO) (hd : decode (zC mm) pc = .ok (.anewarray ix, 3)) (hl : Cond.classLink (zY mm).cls ix C ∈ zW) (h0 : 0 ≤ v) (h1 : v ≤ 100000) (hcl : cells + 1 ≤ R.cells) (hsl : slots + v.toNat ≤ R.slots)
    (kk : ∀ H1, zDyn D dA b0 s (zal h t v.toNat (fun _ => 0)) H1 locs → W p l e R s m args below meth c H1 locs (cells + 1) (slots + v.toNat) Q (F0 m (pc + 3) ls (zV (.inr (.inr (znx h + 1))) :: rest))) : W p l e R s m args below meth c H locs cells slots Q (F0 m pc ls (.int (Int32.ofInt v) :: rest)) := by
  obtain ⟨hx, hb, -, -, hown, hts, hK, hSt, hb0, -⟩ := X
  have Y0 := Y
  obtain ⟨⟨hP, hsz⟩, hC, hi, hS⟩ := Y
  have hvr : zR32 v := ⟨by omega, by omega⟩
  have hcm := zi_clamp h0 hvr
  refine W.anew hx hb hown (hts _ hl) (va_AO.use (hSt.2.2.2.2.2.2.2.2.1.1 C hCO)) rfl hd rfl (fun q => ?_) (by rw [hcm]; omega) hcl (by rw [hcm]; exact hsl) fun cA kA comp f1 f2 f3 f4 => ?_
  · have := (zi_lt hvr (⟨by omega, by omega⟩ : zR32 0)).mp q
    omega
  rw [hcm]
  generalize hH1 : H.push ({ cls := cA, slots := Array.replicate v.toNat .null, vm := .none } : Cell) = H1
  have z1 : H1.size = H.size + 1 := by rw [← hH1, Array.size_push]
  have e1 : H1[H.size]? = some (arrV cA v.toNat (fun _ => .null)) := by rw [← hH1, Array.getElem?_push_size, ← arrV_new]
  have o1 : ∀ q : Nat, q < H.size → H1[q]? = H[q]? := fun q hq => by rw [← hH1, Array.getElem?_push, if_neg (Nat.ne_of_lt hq)]
  obtain ⟨-, -, -, -, -, g4⟩ := (hK.2 _ _ hta).2
  have hcA : cA = dA t := Option.some.inj (f1.symm.trans g4)
  have h2 := kk H1 (zDyn_al Y0 (Or.inr ⟨by omega, by omega⟩) (by omega) (fun _ q => by rw [zis_ref (by omega) (by omega)] at q; cases q) z1 o1 ?_)
  · rw [zV_ref (by omega)] at h2
    rw [hsz]
    exact h2
  · rw [zcell_ar (by rw [ztg_al, if_pos rfl]; omega)]
    show H1[znx h]? = some (vp_cell _ _)
    rw [← hsz, e1, vp_cell_q, hcA]
    simp only [ztg_al, zln_al, zct_al, hsz, if_true]
    rfl
theorem z_inst (X : zCtx E D dA b0 mm n p R s m args meth c) (Y : zDyn D dA b0 s h H locs) {c0 ix r : Nat} (hc0 : c0 ∈ [2, 3, 5, 6, 8]) (hd : decode (zC mm) pc = .ok (.instanceof ix, 3)) (hl : Cond.classLink (zY mm).cls ix (zRx c0) ∈ zW) (hr : r = 0 ∨ zisA 20 (ztg h r) = true)
    (kk : W p l e R s m args below meth c H locs cells slots Q (F0 m (pc + 3) ls (.int (Int32.ofInt (if zisA c0 (ztg h r) = true then 1 else 0)) :: rest))) : W p l e R s m args below meth c H locs cells slots Q (F0 m pc ls (zV (.inr (.inr r)) :: rest)) := by
  have X0 := X
  obtain ⟨hx, hb, -, -, hown, hts, hK, hSt, hb0, -⟩ := X
  have Y0 := Y
  obtain ⟨⟨hP, hsz⟩, hC, hi, hS⟩ := Y
  have hc20 : c0 ≠ 20 := by rintro rfl; simp at hc0
  have hc12 : c0 < 12 := by simp only [List.mem_cons, List.not_mem_nil, or_false] at hc0; omega
  by_cases hr0 : r = 0
  · subst hr0
    have h0 : ztg h 0 = 0 := by
      rcases hi.2.1 0 with q | q | q
      · exact q
      · omega
      · omega
    rw [h0, if_neg (by unfold zisA; rw [if_neg hc20]; simp)] at kk
    exact lv_instN hx hb hd kk
  · have hr1 : zisA 20 (ztg h r) = true := by
      rcases hr with q | q
      · exact absurd q hr0
      · exact q
    have h5 := zth hr1
    rw [zV_ref (by omega)]
    have hrc := z_recv X0 Y0 (r := r) (by omega) (by omega)
    have hiff : zisA c0 (ztg h r) = true ↔ ztg h r - 1 = c0 := by
      unfold zisA
      rw [if_neg hc20]
      simp only [beq_iff_eq]
      omega
    by_cases hq : ztg h r - 1 = c0
    · rw [if_pos (hiff.mpr hq)] at kk
      rw [hq] at hrc
      exact va_instS hx hb hown (hts _ hl) (hK.1 c0 _ (z_cl c0 hc12)).2 hrc hd kk
    · rw [if_neg (fun y => hq (hiff.mp y))] at kk
      exact va_instNo hx hb hown (hts _ hl) (hSt.2.2.2.2.2.1 _ (by rcases h5 with w | w | w | w | w <;> rw [w] <;> decide) _ hc0 hq) hrc hd kk
theorem z_cast (X : zCtx E D dA b0 mm n p R s m args meth c) (Y : zDyn D dA b0 s h H locs) {c0 ix r : Nat} (hc0 : c0 < 12) (hd : decode (zC mm) pc = .ok (.checkcast ix, 3)) (hl : Cond.classLink (zY mm).cls ix (zRx c0) ∈ zW) (hr : zisA c0 (ztg h r) = true)
    (kk : W p l e R s m args below meth c H locs cells slots Q (F0 m (pc + 3) ls (zV (.inr (.inr r)) :: rest))) : W p l e R s m args below meth c H locs cells slots Q (F0 m pc ls (zV (.inr (.inr r)) :: rest)) := by
  have X0 := X
  obtain ⟨hx, hb, -, -, hown, hts, hK, hSt, hb0, -⟩ := X
  have hq : ztg h r = c0 + 1 := by
    unfold zisA at hr
    rw [if_neg (by omega)] at hr
    simpa using hr
  have hin := zin_ob (a := r) Y.2.2.1 (by omega) (by omega)
  have hrc := z_recv X0 Y (r := r) (by omega) (by omega)
  rw [hq, Nat.add_sub_cancel] at hrc
  rw [zV_ref (by omega)] at kk ⊢
  exact va_castS hx hb hown (hts _ hl) (hK.1 c0 _ (z_cl c0 hc0)).2 hrc hd kk
set_option maxRecDepth 100000 in
theorem z_oi : ∀ w ∈ [Cond.instanceMethod objectInit, .code objectInit ⟨#[0xb1]⟩ 1 none], w ∈ lw_tbl := by decide +kernel
theorem z_init (X : zCtx E D dA b0 mm n p R s m args meth c) {r ix : Nat} {st : List zAV} (hr : ¬ (r = 0 ∨ 8 < st.length)) (hls : ls.size = n) (hd : decode (zC mm) pc = .ok (.invokespecial ix, 3)) (hl : Cond.methodLink (zY mm).cls ix objectInit ∈ zW)
    (kk : W p l e R s m args below meth c H locs cells slots Q (F0 m (pc + 3) ls (st.map zV))) : W p l e R s m args below meth c H locs cells slots Q (F0 m pc ls (zV (.inr (.inr r)) :: st.map zV)) := by
  obtain ⟨hx, hb, hml, -, hown, hts, hK, hSt, hb0, hR1, hR2⟩ := X
  rw [zV_ref (by omega)]
  have := z_stcat (st := st) (k := 8) (by omega)
  exact W.objInit hx hb hown (hts _ hl) (hts _ (z_jw (z_oi _ (by simp)) rfl)) (hts _ (z_jw (z_oi _ (by simp)) rfl)) rfl (by rw [hml]; exact hls) rfl hd hR1 (by show 2 * 0 + _ + 12 ≤ _; omega) kk
end ZN
