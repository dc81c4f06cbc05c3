/-! the heap's instructions -/
def zSFp : List Nat := [254, 256, 259, 265, 267]
def zPn : List Nat := [340, 858, 648, 730, 36, 490, 562, 106, 234, 65, 24, 1300]
def zPni : List Nat := [9, 16, 14, 15, 2, 10, 11, 5, 8, 3, 1, 6]
def zkf (mm c0 k : Nat) (v : Int) : Bool := match tables_1[zpo v]? with
  | some (.fieldLink o i r n d) => (o == (zY mm).cls) && (i == zix v) && (zgrp c0).all (fun t => decide (1 ≤ t) && decide (t ≤ 12) && decide (k < zNf (t - 1)) && (n == (zFt (t - 1) k).2.1) && (d == (zFt (t - 1) k).2.2.1) && (r == (zFt (t - 1) k).1 || zSFp.any (fun p => zAt p (.sameField r (zFt (t - 1) k).1 (zFt (t - 1) k).2.1 (zFt (t - 1) k).2.2.1))))
  | _ => false
theorem zkf_of {mm c0 k t : Nat} {v : Int} (h : zkf mm c0 k v = true) (ht : zisA c0 t = true) : ∃ ref, 1 ≤ t ∧ t ≤ 12 ∧ k < zNf (t - 1) ∧ Cond.fieldLink (zY mm).cls (zix v) ref (zFt (t - 1) k).2.1 (zFt (t - 1) k).2.2.1 ∈ zW ∧ (ref = (zFt (t - 1) k).1 ∨ Cond.sameField ref (zFt (t - 1) k).1 (zFt (t - 1) k).2.1 (zFt (t - 1) k).2.2.1 ∈ zW) := by
  unfold zkf at h
  split at h
  · rename_i o i r n d hw
    simp only [Bool.and_eq_true, beq_iff_eq] at h
    obtain ⟨⟨h1, h2⟩, h3⟩ := h
    have h4 := List.all_eq_true.mp h3 t (zgrp_of ht)
    simp only [Bool.and_eq_true, decide_eq_true_eq, beq_iff_eq, Bool.or_eq_true] at h4
    obtain ⟨⟨⟨⟨⟨g1, g2⟩, g3⟩, g4⟩, g5⟩, g6⟩ := h4
    subst h1; subst h2; subst g4; subst g5
    refine ⟨r, g1, g2, g3, zW_in hw rfl, ?_⟩
    rcases g6 with g6 | g6
    · exact Or.inl g6
    · obtain ⟨p, -, hp⟩ := List.any_eq_true.mp g6
      exact Or.inr (zAt_in hp)
  · cases h
def zCtx (E : Nat → Nat) (D : va_G) (dA : Nat → ClassId) (b0 mm n : Nat) (p : Program) (R : Room) (s : State) (m : MethodId) (args : Array Value) (meth : Method) (c : Code) : Prop :=
  p.tables.exec = Jvm.exec ∧ c.code = zC mm ∧ c.maxLocals = n ∧ meth.name = (zY mm).name ∧ s.vm.findClass (zY mm).cls = some m.cls ∧ (∀ w ∈ zW, w.before args s = true) ∧ va_K D vwCl (zTA dA) s ∧ zStm (zA b0) s s.heap E ∧ b0 ≤ s.heap.size ∧ 1 ≤ R.frames ∧ 60 ≤ R.locals
def zDyn (D : va_G) (dA : Nat → ClassId) (b0 : Nat) (s : State) (h : zHp) (H : Heap) (locs : List Loc) : Prop := zHR D dA b0 h H ∧ zCo h (zA b0) s s.heap ∧ zinv b0 h ∧ va_S (zA b0) s.heap H locs
theorem zin_ob {b0 : Nat} {h : zHp} {a : Nat} (hi : zinv b0 h) (ht : 1 ≤ ztg h a) (h2 : ztg h a < 40) : b0 < a ∧ a ≤ znx h := by
  rcases hi.2.1 a with e | e | e
  · omega
  · exact e.2
  · omega
theorem va_S_in {A : Nat → Prop} {H0 H H1 : Heap} {locs : List Loc} (hS : va_S A H0 H locs) (z : H.size ≤ H1.size) (o1 : ∀ q, q < H.size → H1[q]? = H[q]?) : va_S A H0 H1 locs :=
  ⟨Nat.le_trans hS.1 z, fun x h1 h2 => (o1 x (Nat.lt_of_lt_of_le h1 hS.1)).trans (hS.2.1 x h1 h2), hS.2.2⟩
/-- a write of one place -/
theorem zDyn_wr {D : va_G} {dA : Nat → ClassId} {b0 : Nat} {s : State} {h : zHp} {H H1 : Heap} {locs : List Loc} {r k sl : Nat} {v : Int} (Y : zDyn D dA b0 s h H locs) (ht : 1 ≤ ztg h r) (ht2 : ztg h r < 40) (hv : zis (ztg h r) k = true → zR32 v)
    (z : H1.size = H.size) (oq : ∀ q, q ≠ r - 1 → H1[q]? = H[q]?) (he : va_at D vwCl (r - 1, zcell dA (zwr h r k v) r) H1) : zDyn D dA b0 s (zwr h r k v) H1 (locs ++ [⟨r - 1, sl⟩]) := by
  obtain ⟨⟨hP, hs⟩, hC, hi, hS⟩ := Y
  obtain ⟨b1, b2⟩ := zin_ob hi ht ht2
  obtain ⟨w1, w2⟩ := zwr_ok hi ht2 hv
  refine ⟨⟨?_, by rw [z, hs]; rfl⟩, hC.good w2, w1, hS.put z oq (by unfold zA; omega)⟩
  rw [← zws_upd (dA := dA) (b0 := b0) (h := h) (h' := zwr h r k v) (a := r) rfl b1 b2 (fun q hq => zcell_wr hq)]
  exact hP.set (zws_D dA b0 h) (zws_at b1 b2) he oq
/-- a new cell -/
theorem zDyn_al {D : va_G} {dA : Nat → ClassId} {b0 : Nat} {s : State} {h : zHp} {H H1 : Heap} {locs : List Loc} {t n : Nat} {f : Nat → Int} (Y : zDyn D dA b0 s h H locs) (ht : (1 ≤ t ∧ t ≤ 12) ∨ (30 ≤ t ∧ t ≤ 37)) (hn : n ≤ 100000) (hf : ∀ k, zis t k = true → zR32 (f k))
    (z : H1.size = H.size + 1) (oq : ∀ q, q < H.size → H1[q]? = H[q]?) (he : va_at D vwCl (znx h, zcell dA (zal h t n f) (znx h + 1)) H1) : zDyn D dA b0 s (zal h t n f) H1 locs := by
  obtain ⟨⟨hP, hs⟩, hC, hi, hS⟩ := Y
  obtain ⟨w1, w2⟩ := zal_ok hi ht hn hf
  refine ⟨⟨?_, by rw [z, hs]; rfl⟩, hC.good w2, w1, va_S_in hS (by omega) oq⟩
  rw [zws_push hi.1]
  refine (hP.kept fun k x hx => oq x.1 (hP k x hx).lt).app fun k x hx => ?_
  have hz : k < 1 := (List.getElem?_eq_some_iff.mp hx).1
  rw [show k = 0 by omega] at hx
  cases hx
  exact he
theorem zfs_at {N : Nat} {f : Nat → Value} {k : Nat} (h : k < N) : ((List.range N).map f)[k]? = some (f k) := by
  rw [List.getElem?_map, List.getElem?_range h, Option.map_some]
section ZH
variable {E : Nat → Nat} {D : va_G} {dA : Nat → ClassId} {b0 mm n : Nat} {p : Program} {l : Launch} {e : Env} {R : Room} {s : State} {m : MethodId} {args : Array Value} {below : List Frame} {meth : Method} {c : Code} {H : Heap} {locs : List Loc} {cells slots : Nat} {Q : State → Prop} {h : zHp} {pc : Nat} {ls : Array Slot} {rest : List Value}
theorem z_get (X : zCtx E D dA b0 mm n p R s m args meth c) (Y : zDyn D dA b0 s h H locs) {c0 k r : Nat} {v : Int} (hk : zkf mm c0 k v = true) (hd : decode (zC mm) pc = .ok (.getfield (zix v), 3)) (ht : zisA c0 (ztg h r) = true)
    (kk : W p l e R s m args below meth c H locs cells slots Q (F0 m (pc + 3) ls (zfv (zTy (ztg h r - 1) k) (zct h r k) :: rest))) : W p l e R s m args below meth c H locs cells slots Q (F0 m pc ls (zV (.inr (.inr r)) :: rest)) := by
  obtain ⟨ref, g1, g2, g3, g4, g5⟩ := zkf_of hk ht
  obtain ⟨hx, hb, -, -, hown, hts, hK, -⟩ := X
  obtain ⟨⟨hP, -⟩, -, hi, -⟩ := Y
  obtain ⟨b1, b2⟩ := zin_ob hi g1 (by omega)
  rw [zV_ref (by omega)]
  have ha := zws_at (dA := dA) b1 b2
  rw [zcell_ob (by omega)] at ha
  refine va_get hx hb hts (z_ws _ (by omega)) hown hK hP _ ha (z_cl _ (by omega)) k g3 (hts _ g4) ?_ (zfs_at g3) hd kk
  rcases g5 with rfl | g5
  · exact fun _ hq => hq
  · exact u_same (hts _ g5)
/-- what a final field asks -/
def zfi (mm c0 k : Nat) : Bool := (zgrp c0).all fun t => (zFt (t - 1) k).2.2.2 == false || (((zY mm).name == "<init>") && ((zFt (t - 1) k).1 == (zY mm).cls))
theorem z_put (X : zCtx E D dA b0 mm n p R s m args meth c) (Y : zDyn D dA b0 s h H locs) {c0 k r : Nat} {v w : Int} {x : Value} (hk : zkf mm c0 k v = true) (hfi : zfi mm c0 k = true) (hd : decode (zC mm) pc = .ok (.putfield (zix v), 3)) (ht : zisA c0 (ztg h r) = true)
    (hxv : zfv (zTy (ztg h r - 1) k) w = x) (hn : narrow (zTy (ztg h r - 1) k) x = x) (hfit : fits (zTy (ztg h r - 1) k) x = true) (hw : zis (ztg h r) k = true → zR32 w)
    (kk : ∀ H1 locs1, zDyn D dA b0 s (zwr h r k w) H1 locs1 → W p l e R s m args below meth c H1 locs1 cells slots Q (F0 m (pc + 3) ls rest)) : W p l e R s m args below meth c H locs cells slots Q (F0 m pc ls (x :: zV (.inr (.inr r)) :: rest)) := by
  obtain ⟨ref, g1, g2, g3, g4, g5⟩ := zkf_of hk ht
  have hfi2 := List.all_eq_true.mp hfi _ (zgrp_of ht)
  obtain ⟨hx, hb, -, hnm, hown, hts, hK, -⟩ := X
  have Y0 := Y
  obtain ⟨⟨hP, -⟩, -, hi, -⟩ := Y
  obtain ⟨b1, b2⟩ := zin_ob hi g1 (by omega)
  rw [zV_ref (by omega)]
  have ha := zws_at (dA := dA) b1 b2
  rw [zcell_ob (by omega)] at ha
  have hc := z_cl (ztg h r - 1) (by omega)
  have hin := z_ws (ztg h r - 1) (by omega)
  have hty := z_ty (ztg h r - 1) (by omega)
  have hap := va_apart (own := (zY mm).cls) hts hin _ hty (z_nm _ (by omega)) hK hc
  obtain ⟨q, e1, cell, q1, q2, q3, q4⟩ := hP _ _ ha
  have hq : q = _ := Option.some.inj (e1.symm.trans hc)
  subst hq
  obtain ⟨hSl, hfc, kC, hkC, hkind⟩ := hK.1 _ _ hc
  obtain ⟨cf, kf, fi, f, hif, hsl⟩ := hSl k g3
  have hsame : s.fieldFound? ref (zFt (ztg h r - 1) k).2.1 (zFt (ztg h r - 1) k).2.2.1 = some (cf, kf, fi, f) := by
    rcases g5 with rfl | g5
    · exact hif
    · exact u_same (hts _ g5) _ hif
  have hlay := u_lays hts hin g3
  have hst := (u_facts hfc hkC hlay hif).1
  have key : ∀ H1 : Heap, H1[r - 1]? = some (cell.setSlot f.slot x) → H1.size = H.size → (∀ q, q ≠ r - 1 → H1[q]? = H[q]?) → W p l e R s m args below meth c H1 (locs ++ [⟨r - 1, f.slot⟩]) cells slots Q (F0 m (pc + 3) ls rest) := by
    intro H1 w1 w2 w3
    refine kk H1 _ (zDyn_wr Y0 g1 (by omega) hw w2 w3 ?_)
    rw [zcell_ob (by rw [ztg_wr]; omega)]
    refine ⟨_, hc, t_OB.to (V := updV (vp_V ((List.range (zNf (ztg h r - 1))).map fun k => zfv (zTy (ztg h r - 1) k) (zct h r k))) k x) ⟨_, w1, q2, q3, by rw [hsl]; exact t_set q4 hap g3 x⟩ (fun j hj => ?_)⟩
    rw [ztg_wr]
    unfold updV vp_V
    simp only [List.getD_eq_getElem?_getD, zfs_at hj, zct_wr, true_and, Option.getD_some]
    by_cases hjk : j = k
    · subst hjk
      rw [if_pos rfl, if_pos rfl, hxv]
    · rw [if_neg hjk, if_neg hjk]
  have hlt : f.slot < cell.slots.size := by rw [hsl]; exact k2_hasslot (q4 k g3)
  by_cases hfb : (zFt (ztg h r - 1) k).2.2.2 = false
  · have hl2 := hts _ (hin _ (u_in_lay g3))
    unfold u_lay at hl2
    rw [if_neg (by rw [hfb]; decide)] at hl2
    exact W.putK hx hb (f := f) ⟨hown, hts _ g4, ⟨_, _, _, hsame⟩, hst⟩ (by rw [q2]; exact u_store hfc hkC hkind hl2 hif (hty k g3) hn hfit) q1 q3 hlt rfl rfl hd key
  · have hft : (zFt (ztg h r - 1) k).2.2.2 = true := by simpa using hfb
    have hl2 := hts _ (hin _ (u_in_lay g3))
    unfold u_lay at hl2
    rw [if_pos hft] at hl2
    rw [hft] at hfi2
    simp only [Bool.or_eq_true, Bool.and_eq_true, beq_iff_eq, reduceCtorEq, false_or] at hfi2
    have hcf : m.cls = cf := by
      obtain ⟨_, _, c', _, _, _, -, -, hf', -, -, -, hown2, -⟩ := Cond.laysFinal_spec hl2
      have e1 : c' = cf := by have := hif.symm.trans hf'; simp at this; exact this.1.symm
      rw [hfi2.2] at hown2
      rw [← e1]; exact Option.some.inj (hown.symm.trans hown2)
    exact W.putFinK hx hb hown (hts _ g4) hsame hst hcf (by rw [hnm]; exact hfi2.1) (by rw [q2]; exact u_fits hfc hkC hkind (Or.inr hl2) hif (hty k g3) hn hfit) q1 q3 hlt rfl rfl hd key
end ZH
