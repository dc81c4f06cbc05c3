def zgt (c0 : Nat) (f : Nat → Bool) : Bool := (zgrp c0).all f
/-- the heap's instructions, by the tables -/
def zk3 (mm : Nat) (i : zMI) (nx : Nat) : Bool := match i with
  | (60, pc, c0, k, v, _) => zD mm pc nx (.getfield (zix v)) 3 && zkf mm c0 k v && zgt c0 (fun t => zint (zTy (t - 1) k))
  | (61, pc, c0, k, v, _) => zD mm pc nx (.getfield (zix v)) 3 && zkf mm c0 k v && zgt c0 (fun t => zrf (zTy (t - 1) k))
  | (62, pc, c0, k, v, _) => zD mm pc nx (.putfield (zix v)) 3 && zkf mm c0 k v && zfi mm c0 k && zgt c0 (fun t => decide (zTy (t - 1) k = .int))
  | (63, pc, c0, k, v, _) => zD mm pc nx (.putfield (zix v)) 3 && zkf mm c0 k v && zfi mm c0 k && zgt c0 (fun t => decide (zTy (t - 1) k = .boolean))
  | (64, pc, c0, k, v, _) => zD mm pc nx (.putfield (zix v)) 3 && zkf mm c0 k v && zfi mm c0 k && zgt c0 (fun t => zrf (zTy (t - 1) k))
  | (65, pc, _, _, _, _) => zD mm pc nx .iaload 1
  | (66, pc, _, _, _, _) => zD mm pc nx .baload 1
  | (67, pc, _, _, _, _) => zD mm pc nx .aaload 1
  | (68, pc, _, _, _, _) => zD mm pc nx .iastore 1
  | (69, pc, _, _, _, _) => zD mm pc nx .bastore 1
  | (70, pc, _, _, _, _) => zD mm pc nx .bastore 1
  | (71, pc, _, _, _, _) => zD mm pc nx .aastore 1
  | (72, pc, _, _, _, _) => zD mm pc nx .arraylength 1
  | (73, pc, c0, k, v, _) => zD mm pc nx (.new (zix v)) 3 && zkn mm c0 k v
  | (74, pc, t, _, _, _) => (t == 30 && zD mm pc nx (.newarray .int) 2) || (t == 31 && zD mm pc nx (.newarray .boolean) 2) || (t == 32 && zD mm pc nx (.newarray .byte) 2)
  | (75, pc, t, _, v, _) => zD mm pc nx (.anewarray (zix v)) 3 && ((t == 33 && zAt (zpo v) (.classLink (zY mm).cls (zix v) RX9)) || (t == 34 && zAt (zpo v) (.classLink (zY mm).cls (zix v) RX6)) || (t == 35 && zAt (zpo v) (.classLink (zY mm).cls (zix v) RX1)) || (t == 36 && zAt (zpo v) (.classLink (zY mm).cls (zix v) RX0)))
  | (76, pc, _, _, v, _) => zD mm pc nx (.multianewarray (zix v) 2) 4 && zAt (zpo v) (.classLink (zY mm).cls (zix v) "[[I")
  | (77, pc, c0, _, v, _) => zD mm pc nx (.instanceof (zix v)) 3 && [2, 3, 5, 6, 8].contains c0 && zAt (zpo v) (.classLink (zY mm).cls (zix v) (zRx c0))
  | (78, pc, c0, _, v, _) => zD mm pc nx (.checkcast (zix v)) 3 && decide (c0 < 12) && zAt (zpo v) (.classLink (zY mm).cls (zix v) (zRx c0))
  | (79, pc, _, b, v, _) => zD mm pc nx (.getstatic (b % 65536)) 3 && v == 1 && zks mm (b / 65536) (b % 65536) "java/lang/String" "COMPACT_STRINGS" "Z"
  | (80, pc, a, _, v, _) => zD mm pc nx (.getstatic (zix v)) 3 && ((a == 12 && zks mm (zpo v) (zix v) "jdk/internal/util/Preconditions" "SIOOBE_FORMATTER" "Ljava/util/function/BiFunction;") || (a == 13 && zks mm (zpo v) (zix v) RX11 "KIND_ABOVE" "[I") || (a == 14 && zks mm (zpo v) (zix v) RX11 "BODIES" "[I"))
  | (81, pc, a, _, v, _) => zD mm pc nx (.ldc (zix v)) 2 && decide (a < 12) && (zSi.getD a (0, "")).1 == zix v && (zY mm).cls == RX1
  | (82, pc, _, _, v, _) => zD mm pc nx (.invokespecial (zix v)) 3 && zAt (zpo v) (.methodLink (zY mm).cls (zix v) objectInit)
  | (83, pc, _, _, v, _) => zD mm pc nx (.invokestatic (zix v)) 3 && zAt (zpo v) (.methodLink (zY mm).cls (zix v) arraycopyName)
  | (84, pc, _, _, v, _) => zD mm pc nx (.invokevirtual (zix v)) 3 && zAt (zpo v) (.methodLink (zY mm).cls (zix v) ⟨"[I", "clone", "()Ljava/lang/Object;"⟩)
  | (85, pc, _, _, v, _) => zD mm pc nx (.checkcast (zix v)) 3 && zAt (zpo v) (.classLink (zY mm).cls (zix v) "[I")
  | (86, pc, _, _, v, _) => zD mm pc nx (.getfield (zix v)) 3 && zAt (zpo v) (.fieldLink (zY mm).cls (zix v) "java/lang/String" "value" "[B")
  | (87, pc, _, _, v, _) => zD mm pc nx (.getfield (zix v)) 3 && zAt (zpo v) (.fieldLink (zY mm).cls (zix v) "java/lang/String" "coder" "B")
  | _ => false
section ZHH
variable {E : Nat → Nat} {D : va_G} {dA : Nat → ClassId} {b0 mm n : Nat} {p : Program} {l : Launch} {e : Env} {R : Room} {s : State} {m : MethodId} {args : Array Value} {below : List Frame} {meth : Method} {c : Code} {H : Heap} {locs : List Loc} {cells slots : Nat} {Q : State → Prop} {h h' : zHp} {ls : Array Slot}
theorem z_multi (X : zCtx E D dA b0 mm n p R s m args meth c) (Y : zDyn D dA b0 s h H locs) {pc ix : Nat} {k v : Int} {rest : List Value} (hd : decode (zC mm) pc = .ok (.multianewarray ix 2, 4)) (hl : Cond.classLink (zY mm).cls ix "[[I" ∈ zW) (h0 : 0 ≤ v) (h1 : v ≤ 10) (h2 : 0 ≤ k) (h3 : k ≤ 100000)
    (hcl : cells + (1 + v.toNat) ≤ R.cells) (hsl : slots + (v.toNat + v.toNat * k.toNat) ≤ R.slots)
    (kk : ∀ H1 locs1, zDyn D dA b0 s ((List.range v.toNat).foldl (fun g _ => zal g 30 k.toNat (fun _ => 0)) (zal h 37 v.toNat (fun j => if j < v.toNat then ((znx h + 2 + j : Nat) : Int) else 0))) H1 locs1 → W p l e R s m args below meth c H1 locs1 (cells + (1 + v.toNat)) (slots + (v.toNat + v.toNat * k.toNat)) Q (F0 m (pc + 4) ls (zV (.inr (.inr (znx h + 1))) :: rest))) : W p l e R s m args below meth c H locs cells slots Q (F0 m pc ls (.int (Int32.ofInt k) :: .int (Int32.ofInt v) :: rest)) := by
  sorry
theorem zfold_nx (k : Nat) : ∀ (l : List Nat) (h : zHp), znx (l.foldl (fun g _ => zal g 30 k (fun _ => 0)) h) = znx h + l.length ∧ zus (l.foldl (fun g _ => zal g 30 k (fun _ => 0)) h) = zus h + l.length * k
  | [], h => ⟨rfl, by simp⟩
  | _ :: l, h => by
    obtain ⟨a, b⟩ := zfold_nx k l (zal h 30 k (fun _ => 0))
    rw [List.foldl_cons, a, b, znx_al, zus_al, List.length_cons, Nat.succ_mul]
    exact ⟨by omega, by omega⟩
set_option maxHeartbeats 16000000 in
theorem zhp_W (X : zCtx E D dA b0 mm n p R s m args meth c) (Y : zDyn D dA b0 s h H locs) {nx : Nat} {i : zMI} {st st' : List zAV} (hls : ls.size = n) (hok : zk3 mm i nx = true) (hsc : zsc i = true) (he : zhp E i st h = some (st', h')) (hs : zokS st)
    (hcl : cells + (znx h' - znx h) ≤ R.cells) (hsl : slots + (zus h' - zus h) ≤ R.slots)
    (kk : ∀ H1 locs1, zDyn D dA b0 s h' H1 locs1 → W p l e R s m args below meth c H1 locs1 (cells + (znx h' - znx h)) (slots + (zus h' - zus h)) Q (F0 m nx ls (st'.map zV))) : W p l e R s m args below meth c H locs cells slots Q (F0 m i.2.1 ls (st.map zV)) := by
  unfold zhp at he
  split at he <;> (try (split at he)) <;> simp only [Option.some.injEq, Prod.mk.injEq, reduceCtorEq] at he <;> obtain ⟨rfl, rfl⟩ := he
  all_goals simp only [zk3, Bool.and_eq_true, Bool.or_eq_true, decide_eq_true_eq, beq_iff_eq] at hok
  all_goals simp only [znx_wr, zus_wr, znx_al, zus_al, znx_cp, zus_cp, Nat.sub_self, Nat.add_zero, Nat.add_sub_cancel_left, List.map_cons] at kk hcl hsl ⊢
  · rename_i g
    obtain ⟨⟨k1, k2⟩, k3⟩ := hok
    obtain ⟨d1, rfl⟩ := zD_of k1
    have := kk H locs Y
    refine z_get X Y k2 d1 g ?_
    rw [zfv_in (List.all_eq_true.mp k3 _ (zgrp_of g))]
    exact this
  · rename_i g
    obtain ⟨⟨k1, k2⟩, k3⟩ := hok
    obtain ⟨d1, rfl⟩ := zD_of k1
    have := kk H locs Y
    refine z_get X Y k2 d1 g ?_
    rw [zfv_rf (List.all_eq_true.mp k3 _ (zgrp_of g))]
    exact this
  · rename_i g
    obtain ⟨⟨⟨k1, k2⟩, k3⟩, k4⟩ := hok
    obtain ⟨d1, rfl⟩ := zD_of k1
    have k5 := of_decide_eq_true (List.all_eq_true.mp k4 _ (zgrp_of g))
    exact z_put X Y k2 k3 d1 g (by rw [k5]; rfl) (by rw [k5]; rfl) (by rw [k5]; rfl) (fun _ => zokS_head hs) kk
  · rename_i g
    obtain ⟨⟨⟨k1, k2⟩, k3⟩, k4⟩ := hok
    obtain ⟨d1, rfl⟩ := zD_of k1
    have k5 := of_decide_eq_true (List.all_eq_true.mp k4 _ (zgrp_of g.1))
    exact z_put X Y k2 k3 d1 g.1 (by rw [k5]; rfl) (by rw [k5]; rcases g.2 with w | w <;> rw [w] <;> rfl) (by rw [k5]; rcases g.2 with w | w <;> rw [w] <;> rfl) (fun _ => zokS_head hs) kk
  · rename_i g
    obtain ⟨⟨⟨k1, k2⟩, k3⟩, k4⟩ := hok
    obtain ⟨d1, rfl⟩ := zD_of k1
    have k5 := List.all_eq_true.mp k4 _ (zgrp_of g)
    have k6 := List.all_eq_true.mp hsc _ (zgrp_of g)
    exact z_put X Y k2 k3 d1 g (by rw [zfv_rf k5, Int.toNat_natCast]; rfl) (znar_rf k5 _).1 (znar_rf k5 _).2 (fun q => by rw [q] at k6; cases k6) kk
  · rename_i g
    obtain ⟨d1, rfl⟩ := zD_of hok
    exact z_iald X Y d1 g.1 g.2.1 g.2.2 (zokS_head hs) (kk H locs Y)
  · rename_i g
    obtain ⟨d1, rfl⟩ := zD_of hok
    exact z_bald X Y d1 g.1 g.2.1 g.2.2 (zokS_head hs) (kk H locs Y)
  · rename_i g
    obtain ⟨d1, rfl⟩ := zD_of hok
    exact z_aald X Y d1 g.1 g.2.1 g.2.2 (zokS_head hs) (kk H locs Y)
  · rename_i g
    obtain ⟨d1, rfl⟩ := zD_of hok
    exact z_ist X Y d1 g.1 g.2.1 g.2.2 (zokS_head (zokS_tail hs)) (zokS_head hs) kk
  · rename_i g
    obtain ⟨d1, rfl⟩ := zD_of hok
    exact z_zst X Y d1 g.1 g.2.1 g.2.2.1 g.2.2.2 (zokS_head (zokS_tail hs)) kk
  · rename_i g
    obtain ⟨d1, rfl⟩ := zD_of hok
    exact z_bst X Y d1 g.1 g.2.1 g.2.2 (zokS_head (zokS_tail hs)) kk
  · rename_i g
    obtain ⟨d1, rfl⟩ := zD_of hok
    exact z_ast X Y d1 g.1 g.2.1 g.2.2 (zokS_head (zokS_tail hs)) kk
  · rename_i g
    obtain ⟨d1, rfl⟩ := zD_of hok
    exact z_alen X Y d1 g (kk H locs Y)
  · obtain ⟨k1, k2⟩ := hok
    obtain ⟨d1, rfl⟩ := zD_of k1
    exact z_new X Y k2 d1 hcl hsl (fun H1 y => kk H1 locs y)
  · rename_i g
    rcases hok with (⟨rfl, k1⟩ | ⟨rfl, k1⟩) | ⟨rfl, k1⟩
    · obtain ⟨d1, rfl⟩ := zD_of k1
      exact z_newa X Y (Or.inl rfl) rfl d1 g.1 g.2 hcl hsl (fun H1 y => kk H1 locs y)
    · obtain ⟨d1, rfl⟩ := zD_of k1
      exact z_newa X Y (Or.inr (Or.inl rfl)) rfl d1 g.1 g.2 hcl hsl (fun H1 y => kk H1 locs y)
    · obtain ⟨d1, rfl⟩ := zD_of k1
      exact z_newa X Y (Or.inr (Or.inr rfl)) rfl d1 g.1 g.2 hcl hsl (fun H1 y => kk H1 locs y)
  · rename_i g
    obtain ⟨k1, k2⟩ := hok
    obtain ⟨d1, rfl⟩ := zD_of k1
    rcases k2 with ((⟨rfl, k3⟩ | ⟨rfl, k3⟩) | ⟨rfl, k3⟩) | ⟨rfl, k3⟩
    · exact z_newq X Y (Or.inl rfl) rfl (by decide +kernel) d1 (zAt_in k3) g.1 g.2 hcl hsl (fun H1 y => kk H1 locs y)
    · exact z_newq X Y (Or.inr (Or.inl rfl)) rfl (by decide +kernel) d1 (zAt_in k3) g.1 g.2 hcl hsl (fun H1 y => kk H1 locs y)
    · exact z_newq X Y (Or.inr (Or.inr (Or.inl rfl))) rfl (by decide +kernel) d1 (zAt_in k3) g.1 g.2 hcl hsl (fun H1 y => kk H1 locs y)
    · exact z_newq X Y (Or.inr (Or.inr (Or.inr rfl))) rfl (by decide +kernel) d1 (zAt_in k3) g.1 g.2 hcl hsl (fun H1 y => kk H1 locs y)
  · rename_i g
    obtain ⟨⟨k1, k2⟩, k3⟩ := hok
    obtain ⟨d1, rfl⟩ := zD_of k1
    exact z_inst X Y (by simpa using k2) d1 (zAt_in k3) g (kk H locs Y)
  · rename_i g
    obtain ⟨⟨k1, k2⟩, k3⟩ := hok
    obtain ⟨d1, rfl⟩ := zD_of k1
    exact z_cast X Y k2 d1 (zAt_in k3) g (kk H locs Y)
  · obtain ⟨⟨k1, k2⟩, k3⟩ := hok
    obtain ⟨d1, rfl⟩ := zD_of k1
    subst k2
    exact z_gets X Y X.2.2.2.2.2.2.2.1.2.1 k3 d1 (kk H locs Y)
  · obtain ⟨k1, k2⟩ := hok
    obtain ⟨d1, rfl⟩ := zD_of k1
    rcases k2 with (⟨rfl, k3⟩ | ⟨rfl, k3⟩) | ⟨rfl, k3⟩
    · exact z_gets X Y X.2.2.2.2.2.2.2.1.2.2.1 k3 d1 (kk H locs Y)
    · exact z_gets X Y X.2.2.2.2.2.2.2.1.2.2.2.1 k3 d1 (kk H locs Y)
    · exact z_gets X Y X.2.2.2.2.2.2.2.1.2.2.2.2.1 k3 d1 (kk H locs Y)
  · obtain ⟨⟨⟨k1, k2⟩, k3⟩, k4⟩ := hok
    obtain ⟨d1, rfl⟩ := zD_of k1
    exact z_ldcs X k2 k3 k4 d1 (kk H locs Y)
  · rename_i g
    obtain ⟨k1, k2⟩ := hok
    obtain ⟨d1, rfl⟩ := zD_of k1
    exact z_init X g hls d1 (zAt_in k2) (kk H locs Y)
  · rename_i g
    obtain ⟨k1, k2⟩ := hok
    obtain ⟨d1, rfl⟩ := zD_of k1
    obtain ⟨g1, g2, g3, g4, g5, g6, g7, g8⟩ := g
    exact z_copy X Y hls g8 d1 (zAt_in k2) g1 g2 g3 g4 g5 g6 g7 (zokS_head (zokS_tail (zokS_tail (zokS_tail hs)))) (zokS_head (zokS_tail hs)) (zokS_head hs) kk
  · rename_i g
    obtain ⟨k1, k2⟩ := hok
    obtain ⟨d1, rfl⟩ := zD_of k1
    exact z_clone X Y hls g.2 d1 (zAt_in k2) g.1 hcl hsl (fun H1 y => kk H1 locs y)
  · rename_i g
    obtain ⟨k1, k2⟩ := hok
    obtain ⟨d1, rfl⟩ := zD_of k1
    exact z_casA X Y d1 (zAt_in k2) g (kk H locs Y)
  · rename_i g
    obtain ⟨k1, k2⟩ := hok
    obtain ⟨d1, rfl⟩ := zD_of k1
    exact z_sval X Y k2 d1 g (kk H locs Y)
  · rename_i g
    obtain ⟨k1, k2⟩ := hok
    obtain ⟨d1, rfl⟩ := zD_of k1
    exact z_scod X Y k2 d1 g (kk H locs Y)
  · rename_i kz nz _ g
    obtain ⟨k1, k2⟩ := hok
    obtain ⟨d1, rfl⟩ := zD_of k1
    obtain ⟨g1, g2, g3, g4⟩ := g
    have a := zfold_nx kz.toNat (List.range nz.toNat) (zal h 37 nz.toNat (fun j => if j < nz.toNat then ((znx h + 2 + j : Nat) : Int) else 0))
    rw [List.length_range, znx_al, zus_al] at a
    obtain ⟨a1, a2⟩ := a
    rw [a1, a2, show znx h + 1 + nz.toNat - znx h = 1 + nz.toNat by omega, show zus h + nz.toNat + nz.toNat * kz.toNat - zus h = nz.toNat + nz.toNat * kz.toNat by omega] at kk
    rw [a1, show znx h + 1 + nz.toNat - znx h = 1 + nz.toNat by omega] at hcl
    rw [a2, show zus h + nz.toNat + nz.toNat * kz.toNat - zus h = nz.toNat + nz.toNat * kz.toNat by omega] at hsl
    exact z_multi X Y d1 (zAt_in k2) g1 g2 g3 g4 hcl hsl kk
end ZHH
