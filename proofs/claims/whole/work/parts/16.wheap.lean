def zgt (c0 : Nat) (f : Nat → Bool) : Bool := (zgrp c0).all f
/-- the heap's instructions, by the tables -/
def zk3 (mm : Nat) (i : zMI) (nx : Nat) : Bool := match i with
  | (60, pc, c0, k, v, _) => zD mm pc nx (.getfield (zix v)) 3 && zkf mm c0 k v && zgt c0 (fun t => zint (zTy (t - 1) k))
  | (61, pc, c0, k, v, _) => zD mm pc nx (.getfield (zix v)) 3 && zkf mm c0 k v && zgt c0 (fun t => zrf (zTy (t - 1) k))
  | (62, pc, c0, k, v, _) => zD mm pc nx (.putfield (zix v)) 3 && zkf mm c0 k v && zfi mm c0 k && zgt c0 (fun t => decide (zTy (t - 1) k = .int))
  | (63, pc, c0, k, v, _) => zD mm pc nx (.putfield (zix v)) 3 && zkf mm c0 k v && zfi mm c0 k && zgt c0 (fun t => decide (zTy (t - 1) k = .boolean))
  | (64, pc, c0, k, v, _) => zD mm pc nx (.putfield (zix v)) 3 && zkf mm c0 k v && zfi mm c0 k && zgt c0 (fun t => zrf (zTy (t - 1) k))
  | (65, pc, _, _, _, _) => zD mm pc nx .iaload 1
  | (66, pc, _, _, _, _) => zD mm pc nx .baload 1
  | (67, pc, _, _, _, _) => zD mm pc nx .aaload 1
  | (68, pc, _, _, _, _) => zD mm pc nx .iastore 1
  | (69, pc, _, _, _, _) => zD mm pc nx .bastore 1
  | (70, pc, _, _, _, _) => zD mm pc nx .bastore 1
  | (71, pc, _, _, _, _) => zD mm pc nx .aastore 1
  | (72, pc, _, _, _, _) => zD mm pc nx .arraylength 1
  | (73, pc, c0, k, v, _) => zD mm pc nx (.new (zix v)) 3 && zkn mm c0 k v
  | (74, pc, t, _, _, _) => (t == 30 && zD mm pc nx (.newarray .int) 2) || (t == 31 && zD mm pc nx (.newarray .boolean) 2) || (t == 32 && zD mm pc nx (.newarray .byte) 2)
  | (75, pc, t, _, v, _) => zD mm pc nx (.anewarray (zix v)) 3 && ((t == 33 && zAt (zpo v) (.classLink (zY mm).cls (zix v) RX9)) || (t == 34 && zAt (zpo v) (.classLink (zY mm).cls (zix v) RX6)) || (t == 35 && zAt (zpo v) (.classLink (zY mm).cls (zix v) RX1)) || (t == 36 && zAt (zpo v) (.classLink (zY mm).cls (zix v) RX0)))
  | (76, pc, _, _, v, _) => zD mm pc nx (.multianewarray (zix v) 2) 4 && zAt (zpo v) (.classLink (zY mm).cls (zix v) "[[I")
  | (77, pc, c0, _, v, _) => zD mm pc nx (.instanceof (zix v)) 3 && [2, 3, 5, 6, 8].contains c0 && zAt (zpo v) (.classLink (zY mm).cls (zix v) (zRx c0))
  | (78, pc, c0, _, v, _) => zD mm pc nx (.checkcast (zix v)) 3 && decide (c0 < 12) && zAt (zpo v) (.classLink (zY mm).cls (zix v) (zRx c0))
  | (79, pc, _, b, v, _) => zD mm pc nx (.getstatic (b % 65536)) 3 && v == 1 && zks mm (b / 65536) (b % 65536) "java/lang/String" "COMPACT_STRINGS" "Z"
  | (80, pc, a, _, v, _) => zD mm pc nx (.getstatic (zix v)) 3 && ((a == 12 && zks mm (zpo v) (zix v) "jdk/internal/util/Preconditions" "SIOOBE_FORMATTER" "Ljava/util/function/BiFunction;") || (a == 13 && zks mm (zpo v) (zix v) RX11 "KIND_ABOVE" "[I") || (a == 14 && zks mm (zpo v) (zix v) RX11 "BODIES" "[I"))
  | (81, pc, a, _, v, _) => zD mm pc nx (.ldc (zix v)) 2 && decide (a < 12) && (zSi.getD a (0, "")).1 == zix v && (zY mm).cls == RX1
  | (82, pc, _, _, v, _) => zD mm pc nx (.invokespecial (zix v)) 3 && zAt (zpo v) (.methodLink (zY mm).cls (zix v) objectInit)
  | (83, pc, _, _, v, _) => zD mm pc nx (.invokestatic (zix v)) 3 && zAt (zpo v) (.methodLink (zY mm).cls (zix v) arraycopyName)
  | (84, pc, _, _, v, _) => zD mm pc nx (.invokevirtual (zix v)) 3 && zAt (zpo v) (.methodLink (zY mm).cls (zix v) ⟨"[I", "clone", "()Ljava/lang/Object;"⟩)
  | (85, pc, _, _, v, _) => zD mm pc nx (.checkcast (zix v)) 3 && zAt (zpo v) (.classLink (zY mm).cls (zix v) "[I")
  | (86, pc, _, _, v, _) => zD mm pc nx (.getfield (zix v)) 3 && zAt (zpo v) (.fieldLink (zY mm).cls (zix v) "java/lang/String" "value" "[B")
  | (87, pc, _, _, v, _) => zD mm pc nx (.getfield (zix v)) 3 && zAt (zpo v) (.fieldLink (zY mm).cls (zix v) "java/lang/String" "coder" "B")
  | _ => false
section ZHH
variable {E : Nat → Nat} {D : va_G} {dA : Nat → ClassId} {b0 mm n : Nat} {p : Program} {l : Launch} {e : Env} {R : Room} {s : State} {m : MethodId} {args : Array Value} {below : List Frame} {meth : Method} {c : Code} {H : Heap} {locs : List Loc} {cells slots : Nat} {Q : State → Prop} {h h' : zHp} {ls : Array Slot}
theorem z_prf {F : Heap} {n a : Nat} (h : a < n) (h2 : n ≤ F.size) : (F.extract 0 n)[a]? = F[a]? := by
  rw [Array.getElem?_extract]
  simp only [Nat.zero_add, Nat.sub_zero]
  rw [if_pos (by omega)]
theorem z_prfsz {F : Heap} {n : Nat} (h2 : n ≤ F.size) : (F.extract 0 n).size = n := by
  rw [Array.size_extract]
  omega
set_option maxHeartbeats 4000000 in
theorem z_multiS {h : zHp} {k v : Int} {H : Heap} {F : Heap} (X : va_K D vwCl (zTA dA) s) (Y : zDyn D dA b0 s h H locs) (h2 : 0 ≤ k) (h3 : k ≤ 100000) (h0 : 0 ≤ v) (h1 : v ≤ 10)
    (hs : F.size = H.size + 1 + v.toNat) (hold : ∀ x, x < H.size → F[x]? = H[x]?) (hout : F[H.size]? = some (arrV (dA 37) v.toNat (fun j => va_rf (if j < v.toNat then some (H.size + 1 + j) else none)))) (hrow : ∀ j, j < v.toNat → F[H.size + 1 + j]? = some (arrV (dA 30) k.toNat (fun _ => .int 0))) :
    ∀ i, i ≤ v.toNat → zDyn D dA b0 s ((List.range i).foldl (fun g _ => zal g 30 k.toNat (fun _ => 0)) (zal h 37 v.toNat (fun j => if j < v.toNat then ((znx h + 2 + j : Nat) : Int) else 0))) (F.extract 0 (H.size + 1 + i)) locs ∧ znx ((List.range i).foldl (fun g _ => zal g 30 k.toNat (fun _ => 0)) (zal h 37 v.toNat (fun j => if j < v.toNat then ((znx h + 2 + j : Nat) : Int) else 0))) = H.size + 1 + i := by
  have hsz : H.size = znx h := Y.1.2
  intro i
  induction i with
  | zero =>
    intro hi
    refine ⟨?_, by show znx (zal h 37 _ _) = _; rw [znx_al, hsz]⟩
    show zDyn D dA b0 s (zal h 37 v.toNat (fun j => if j < v.toNat then ((znx h + 2 + j : Nat) : Int) else 0)) (F.extract 0 (H.size + 1 + 0)) locs
    refine zDyn_al Y (Or.inr ⟨by omega, by omega⟩) (by omega) (fun _ q => by rw [zis_ref (by omega) (by omega)] at q; cases q) (z_prfsz (by omega)) (fun q hq => by rw [z_prf (by omega) (by omega)]; exact hold q hq) ?_
    rw [zcell_ar (by rw [ztg_al, if_pos rfl]; omega)]
    show (F.extract 0 (H.size + 1 + 0))[znx h]? = some (vp_cell _ _)
    rw [← hsz, z_prf (by omega) (by omega), hout, vp_cell_q]
    simp only [ztg_al, zln_al, zct_al, hsz, if_true]
    congr 2
    funext j
    by_cases hj : j < v.toNat
    · rw [if_pos hj, if_pos hj]
      rw [Int.toNat_natCast]
      rw [show znx h + 2 + j = (znx h + 1 + j) + 1 by omega]
      rfl
    · rw [if_neg hj, if_neg hj]
      rfl
  | succ i ih =>
    intro hi
    obtain ⟨Y1, e1⟩ := ih (by omega)
    rw [List.range_succ, List.foldl_append]
    show zDyn D dA b0 s (zal _ 30 k.toNat (fun _ => 0)) _ locs ∧ znx (zal _ 30 k.toNat (fun _ => 0)) = _
    refine ⟨?_, by rw [znx_al, e1]; omega⟩
    refine zDyn_al Y1 (Or.inr ⟨by omega, by omega⟩) (by omega) (fun _ _ => ⟨by omega, by omega⟩) (by rw [z_prfsz (by omega), z_prfsz (by omega)]; omega) (fun q hq => by rw [z_prfsz (by omega)] at hq; rw [z_prf (by omega) (by omega), z_prf (by omega) (by omega)]) ?_
    rw [zcell_ai (by rw [ztg_al, if_pos rfl]; omega) (by rw [ztg_al, if_pos rfl]; omega)]
    show (F.extract 0 (H.size + 1 + (i + 1)))[znx _]? = some (vp_cell _ _)
    rw [e1, z_prf (by omega) (by omega), hrow i (by omega), vp_cell_i]
    simp only [ztg_al, zln_al, zct_al, e1, if_true]
    rfl
set_option maxRecDepth 100000 in
theorem z_acl1 : Cond.arrayClass .int ∈ lw_tbl := by decide +kernel
set_option maxHeartbeats 4000000 in
theorem z_multi (X : zCtx E D dA b0 mm n p R s m args meth c) (Y : zDyn D dA b0 s h H locs) {pc ix : Nat} {k v : Int} {rest : List Value} (hd : decode (zC mm) pc = .ok (.multianewarray ix 2, 4)) (hl : Cond.classLink (zY mm).cls ix "[[I" ∈ zW) (h0 : 0 ≤ v) (h1 : v ≤ 10) (h2 : 0 ≤ k) (h3 : k ≤ 100000)
    (hcl : cells + (1 + v.toNat) ≤ R.cells) (hsl : slots + (v.toNat + v.toNat * k.toNat) ≤ R.slots)
    (kk : ∀ H1 locs1, zDyn D dA b0 s ((List.range v.toNat).foldl (fun g _ => zal g 30 k.toNat (fun _ => 0)) (zal h 37 v.toNat (fun j => if j < v.toNat then ((znx h + 2 + j : Nat) : Int) else 0))) H1 locs1 → W p l e R s m args below meth c H1 locs1 (cells + (1 + v.toNat)) (slots + (v.toNat + v.toNat * k.toNat)) Q (F0 m (pc + 4) ls (zV (.inr (.inr (znx h + 1))) :: rest))) : W p l e R s m args below meth c H locs cells slots Q (F0 m pc ls (.int (Int32.ofInt k) :: .int (Int32.ofInt v) :: rest)) := by
  obtain ⟨hx, hb, -, -, hown, hts, hK, hSt, hb0, -⟩ := X
  have hvr : zR32 v := ⟨by omega, by omega⟩
  have hkr : zR32 k := ⟨by omega, by omega⟩
  have hcv := zi_clamp h0 hvr
  have hck := zi_clamp h2 hkr
  intro T hT Xs
  have hTs : T.heap = H := hT
  have hA37 := hK.2 7 (dA 37, .array .int) rfl
  have hA30 := hK.2 0 (dA 30, .int) rfl
  have n1 : ¬ Int32.ofInt v < 0 := fun q => by
    have := (zi_lt hvr (⟨by omega, by omega⟩ : zR32 0)).mp q
    omega
  have n2 : ¬ Int32.ofInt k < 0 := fun q => by
    have := (zi_lt hkr (⟨by omega, by omega⟩ : zR32 0)).mp q
    omega
  obtain ⟨vm₁, cA, comp, -, fA, fC, -, -, X', step⟩ := Xs.multianewarray2F (ty := .int) hx hown (hts _ hl) (zAOA.use hSt.2.2.2.2.2.2.2.2.1.2) (hts _ (z_jw z_acl1 rfl)) (g := F0 m pc ls (.int (Int32.ofInt k) :: .int (Int32.ofInt v) :: rest)) rfl (by rw [hb]; exact hd) rfl n1 n2 (by rw [hcv]; omega) (by rw [hck]; show k.toNat * 4 ≤ _; omega) (by rw [hck]; omega) rfl rfl (by rw [hcv]; exact hcl) (by rw [hcv, hck]; exact hsl)
  have hcA : cA = dA 37 := Option.some.inj (fA.symm.trans hA37.2)
  have hcI : comp = dA 30 := Option.some.inj (fC.symm.trans hA30.2)
  subst hcA
  subst hcI
  rw [hcv, hck] at X' step
  generalize hF : Jvm.Free.Multi.fill (T.setVm vm₁) (dA 37) (dA 30) v.toNat k.toNat (defaultValue .int) v.toNat = F at X' step
  have hTh : (T.setVm vm₁).heap = H := hTs
  obtain ⟨f1, f2, -, -⟩ := Jvm.Free.Multi.fill_facts (T.setVm vm₁) (dA 37) (dA 30) v.toNat k.toNat (defaultValue .int) v.toNat
  rw [hF, hTh] at f1 f2
  have hold : ∀ x : Nat, x < H.size → F.heap[x]? = H[x]? := fun x hx => by
    have := Jvm.Free.Multi.fill_old (T.setVm vm₁) (dA 37) (dA 30) v.toNat k.toNat (defaultValue .int) (a := x) (by rw [hTh]; exact hx) v.toNat
    rw [hF, hTh] at this
    exact this
  have hrow : ∀ j : Nat, j < v.toNat → F.heap[H.size + 1 + j]? = some (arrV (dA 30) k.toNat (fun _ => .int 0)) := fun j hj => by
    have := Jvm.Free.Multi.fill_inner (T.setVm vm₁) (dA 37) (dA 30) v.toNat k.toNat (defaultValue .int) v.toNat j hj
    rw [hF, hTh] at this
    rw [this]
    exact congrArg some (arrV_new _ _ _)
  rw [vr_outer] at f2
  obtain ⟨Y1, e1⟩ := z_multiS hK Y h2 h3 h0 h1 f1 hold f2 hrow v.toNat (Nat.le_refl _)
  have hall : F.heap.extract 0 (H.size + 1 + v.toNat) = F.heap := by
    rw [← f1]
    exact Array.extract_size
  rw [hall] at Y1
  have hk := kk F.heap locs Y1
  rw [zV_ref (by omega), show znx h + 1 - 1 = H.size by have := Y.1.2; omega] at hk
  obtain ⟨t, a1, b1⟩ := hk F rfl (by rw [Nat.add_assoc cells, Nat.add_assoc slots] at X'; exact X')
  exact ⟨t, step t (by rw [hTs]; exact a1), b1⟩
theorem zfold_nx (k : Nat) : ∀ (l : List Nat) (h : zHp), znx (l.foldl (fun g _ => zal g 30 k (fun _ => 0)) h) = znx h + l.length ∧ zus (l.foldl (fun g _ => zal g 30 k (fun _ => 0)) h) = zus h + l.length * k
  | [], h => ⟨rfl, by simp⟩
  | _ :: l, h => by
    obtain ⟨a, b⟩ := zfold_nx k l (zal h 30 k (fun _ => 0))
    rw [List.foldl_cons, a, b, znx_al, zus_al, List.length_cons, Nat.succ_mul]
    exact ⟨by omega, by omega⟩
set_option maxHeartbeats 16000000 in
theorem zhp_W (X : zCtx E D dA b0 mm n p R s m args meth c) (Y : zDyn D dA b0 s h H locs) {nx : Nat} {i : zMI} {st st' : List zAV} (hls : ls.size = n) (hok : zk3 mm i nx = true) (hsc : zsc i = true) (he : zhp E i st h = some (st', h')) (hs : zokS st)
    (hcl : cells + (znx h' - znx h) ≤ R.cells) (hsl : slots + (zus h' - zus h) ≤ R.slots)
    (kk : ∀ H1 locs1, zDyn D dA b0 s h' H1 locs1 → W p l e R s m args below meth c H1 locs1 (cells + (znx h' - znx h)) (slots + (zus h' - zus h)) Q (F0 m nx ls (st'.map zV))) : W p l e R s m args below meth c H locs cells slots Q (F0 m i.2.1 ls (st.map zV)) := by
  unfold zhp at he
  split at he <;> (try (split at he)) <;> simp only [Option.some.injEq, Prod.mk.injEq, reduceCtorEq] at he <;> obtain ⟨rfl, rfl⟩ := he
  all_goals simp only [zk3, Bool.and_eq_true, Bool.or_eq_true, decide_eq_true_eq, beq_iff_eq] at hok
  all_goals simp only [znx_wr, zus_wr, znx_al, zus_al, znx_cp, zus_cp, Nat.sub_self, Nat.add_zero, Nat.add_sub_cancel_left, List.map_cons] at kk hcl hsl ⊢
  · rename_i g
    obtain ⟨⟨k1, k2⟩, k3⟩ := hok
    obtain ⟨d1, rfl⟩ := zD_of k1
    have := kk H locs Y
    refine z_get X Y k2 d1 g ?_
    rw [zfv_in (List.all_eq_true.mp k3 _ (zgrp_of g))]
    exact this
  · rename_i g
    obtain ⟨⟨k1, k2⟩, k3⟩ := hok
    obtain ⟨d1, rfl⟩ := zD_of k1
    have := kk H locs Y
    refine z_get X Y k2 d1 g ?_
    rw [zfv_rf (List.all_eq_true.mp k3 _ (zgrp_of g))]
    exact this
  · rename_i g
    obtain ⟨⟨⟨k1, k2⟩, k3⟩, k4⟩ := hok
    obtain ⟨d1, rfl⟩ := zD_of k1
    have k5 := of_decide_eq_true (List.all_eq_true.mp k4 _ (zgrp_of g))
    exact z_put X Y k2 k3 d1 g (by rw [k5]; rfl) (by rw [k5]; rfl) (by rw [k5]; rfl) (fun _ => zokS_head hs) kk
  · rename_i g
    obtain ⟨⟨⟨k1, k2⟩, k3⟩, k4⟩ := hok
    obtain ⟨d1, rfl⟩ := zD_of k1
    have k5 := of_decide_eq_true (List.all_eq_true.mp k4 _ (zgrp_of g.1))
    exact z_put X Y k2 k3 d1 g.1 (by rw [k5]; rfl) (by rw [k5]; rcases g.2 with w | w <;> rw [w] <;> rfl) (by rw [k5]; rcases g.2 with w | w <;> rw [w] <;> rfl) (fun _ => zokS_head hs) kk
  · rename_i g
    obtain ⟨⟨⟨k1, k2⟩, k3⟩, k4⟩ := hok
    obtain ⟨d1, rfl⟩ := zD_of k1
    have k5 := List.all_eq_true.mp k4 _ (zgrp_of g)
    have k6 := List.all_eq_true.mp hsc _ (zgrp_of g)
    exact z_put X Y k2 k3 d1 g (by rw [zfv_rf k5, Int.toNat_natCast]; rfl) (znar_rf k5 _).1 (znar_rf k5 _).2 (fun q => by rw [q] at k6; cases k6) kk
  · rename_i g
    obtain ⟨d1, rfl⟩ := zD_of hok
    exact z_iald X Y d1 g.1 g.2.1 g.2.2 (zokS_head hs) (kk H locs Y)
  · rename_i g
    obtain ⟨d1, rfl⟩ := zD_of hok
    exact z_bald X Y d1 g.1 g.2.1 g.2.2 (zokS_head hs) (kk H locs Y)
  · rename_i g
    obtain ⟨d1, rfl⟩ := zD_of hok
    exact z_aald X Y d1 g.1 g.2.1 g.2.2 (zokS_head hs) (kk H locs Y)
  · rename_i g
    obtain ⟨d1, rfl⟩ := zD_of hok
    exact z_ist X Y d1 g.1 g.2.1 g.2.2 (zokS_head (zokS_tail hs)) (zokS_head hs) kk
  · rename_i g
    obtain ⟨d1, rfl⟩ := zD_of hok
    exact z_zst X Y d1 g.1 g.2.1 g.2.2.1 g.2.2.2 (zokS_head (zokS_tail hs)) kk
  · rename_i g
    obtain ⟨d1, rfl⟩ := zD_of hok
    exact z_bst X Y d1 g.1 g.2.1 g.2.2 (zokS_head (zokS_tail hs)) kk
  · rename_i g
    obtain ⟨d1, rfl⟩ := zD_of hok
    exact z_ast X Y d1 g.1 g.2.1 g.2.2 (zokS_head (zokS_tail hs)) kk
  · rename_i g
    obtain ⟨d1, rfl⟩ := zD_of hok
    exact z_alen X Y d1 g (kk H locs Y)
  · obtain ⟨k1, k2⟩ := hok
    obtain ⟨d1, rfl⟩ := zD_of k1
    exact z_new X Y k2 d1 hcl hsl (fun H1 y => kk H1 locs y)
  · rename_i g
    rcases hok with (⟨rfl, k1⟩ | ⟨rfl, k1⟩) | ⟨rfl, k1⟩
    · obtain ⟨d1, rfl⟩ := zD_of k1
      exact z_newa X Y (Or.inl rfl) rfl d1 g.1 g.2 hcl hsl (fun H1 y => kk H1 locs y)
    · obtain ⟨d1, rfl⟩ := zD_of k1
      exact z_newa X Y (Or.inr (Or.inl rfl)) rfl d1 g.1 g.2 hcl hsl (fun H1 y => kk H1 locs y)
    · obtain ⟨d1, rfl⟩ := zD_of k1
      exact z_newa X Y (Or.inr (Or.inr rfl)) rfl d1 g.1 g.2 hcl hsl (fun H1 y => kk H1 locs y)
  · rename_i g
    obtain ⟨k1, k2⟩ := hok
    obtain ⟨d1, rfl⟩ := zD_of k1
    rcases k2 with ((⟨rfl, k3⟩ | ⟨rfl, k3⟩) | ⟨rfl, k3⟩) | ⟨rfl, k3⟩
    · exact z_newq X Y (Or.inl rfl) rfl (by decide +kernel) d1 (zAt_in k3) g.1 g.2 hcl hsl (fun H1 y => kk H1 locs y)
    · exact z_newq X Y (Or.inr (Or.inl rfl)) rfl (by decide +kernel) d1 (zAt_in k3) g.1 g.2 hcl hsl (fun H1 y => kk H1 locs y)
    · exact z_newq X Y (Or.inr (Or.inr (Or.inl rfl))) rfl (by decide +kernel) d1 (zAt_in k3) g.1 g.2 hcl hsl (fun H1 y => kk H1 locs y)
    · exact z_newq X Y (Or.inr (Or.inr (Or.inr rfl))) rfl (by decide +kernel) d1 (zAt_in k3) g.1 g.2 hcl hsl (fun H1 y => kk H1 locs y)
  · rename_i g
    obtain ⟨⟨k1, k2⟩, k3⟩ := hok
    obtain ⟨d1, rfl⟩ := zD_of k1
    exact z_inst X Y (by simpa using k2) d1 (zAt_in k3) g (kk H locs Y)
  · rename_i g
    obtain ⟨⟨k1, k2⟩, k3⟩ := hok
    obtain ⟨d1, rfl⟩ := zD_of k1
    exact z_cast X Y k2 d1 (zAt_in k3) g (kk H locs Y)
  · obtain ⟨⟨k1, k2⟩, k3⟩ := hok
    obtain ⟨d1, rfl⟩ := zD_of k1
    subst k2
    exact z_gets X Y X.2.2.2.2.2.2.2.1.2.1 k3 d1 (kk H locs Y)
  · obtain ⟨k1, k2⟩ := hok
    obtain ⟨d1, rfl⟩ := zD_of k1
    rcases k2 with (⟨rfl, k3⟩ | ⟨rfl, k3⟩) | ⟨rfl, k3⟩
    · exact z_gets X Y X.2.2.2.2.2.2.2.1.2.2.1 k3 d1 (kk H locs Y)
    · exact z_gets X Y X.2.2.2.2.2.2.2.1.2.2.2.1 k3 d1 (kk H locs Y)
    · exact z_gets X Y X.2.2.2.2.2.2.2.1.2.2.2.2.1 k3 d1 (kk H locs Y)
  · obtain ⟨⟨⟨k1, k2⟩, k3⟩, k4⟩ := hok
    obtain ⟨d1, rfl⟩ := zD_of k1
    exact z_ldcs X k2 k3 k4 d1 (kk H locs Y)
  · rename_i g
    obtain ⟨k1, k2⟩ := hok
    obtain ⟨d1, rfl⟩ := zD_of k1
    exact z_init X g hls d1 (zAt_in k2) (kk H locs Y)
  · rename_i g
    obtain ⟨k1, k2⟩ := hok
    obtain ⟨d1, rfl⟩ := zD_of k1
    obtain ⟨g1, g2, g3, g4, g5, g6, g7, g8⟩ := g
    exact z_copy X Y hls g8 d1 (zAt_in k2) g1 g2 g3 g4 g5 g6 g7 (zokS_head (zokS_tail (zokS_tail (zokS_tail hs)))) (zokS_head (zokS_tail hs)) (zokS_head hs) kk
  · rename_i g
    obtain ⟨k1, k2⟩ := hok
    obtain ⟨d1, rfl⟩ := zD_of k1
    exact z_clone X Y hls g.2 d1 (zAt_in k2) g.1 hcl hsl (fun H1 y => kk H1 locs y)
  · rename_i g
    obtain ⟨k1, k2⟩ := hok
    obtain ⟨d1, rfl⟩ := zD_of k1
    exact z_casA X Y d1 (zAt_in k2) g (kk H locs Y)
  · rename_i g
    obtain ⟨k1, k2⟩ := hok
    obtain ⟨d1, rfl⟩ := zD_of k1
    exact z_sval X Y k2 d1 g (kk H locs Y)
  · rename_i g
    obtain ⟨k1, k2⟩ := hok
    obtain ⟨d1, rfl⟩ := zD_of k1
    exact z_scod X Y k2 d1 g (kk H locs Y)
  · rename_i kz nz _ g
    obtain ⟨k1, k2⟩ := hok
    obtain ⟨d1, rfl⟩ := zD_of k1
    obtain ⟨g1, g2, g3, g4⟩ := g
    have a := zfold_nx kz.toNat (List.range nz.toNat) (zal h 37 nz.toNat (fun j => if j < nz.toNat then ((znx h + 2 + j : Nat) : Int) else 0))
    rw [List.length_range, znx_al, zus_al] at a
    obtain ⟨a1, a2⟩ := a
    rw [a1, a2, show znx h + 1 + nz.toNat - znx h = 1 + nz.toNat by omega, show zus h + nz.toNat + nz.toNat * kz.toNat - zus h = nz.toNat + nz.toNat * kz.toNat by omega] at kk
    rw [a1, show znx h + 1 + nz.toNat - znx h = 1 + nz.toNat by omega] at hcl
    rw [a2, show zus h + nz.toNat + nz.toNat * kz.toNat - zus h = nz.toNat + nz.toNat * kz.toNat by omega] at hsl
    exact z_multi X Y d1 (zAt_in k2) g1 g2 g3 g4 hcl hsl kk
end ZHH
