theorem zi_lt {x y : Int} (hx : zR32 x) (hy : zR32 y) : Int32.ofInt x < Int32.ofInt y ↔ x < y := by
  rw [Int32.lt_iff_toInt_lt, Int32.toInt_ofInt_of_le (by have := hx.1; omega) (by have := hx.2; omega), Int32.toInt_ofInt_of_le (by have := hy.1; omega) (by have := hy.2; omega)]
theorem zi_le {x y : Int} (hx : zR32 x) (hy : zR32 y) : Int32.ofInt x ≤ Int32.ofInt y ↔ x ≤ y := by
  rw [Int32.le_iff_toInt_le, Int32.toInt_ofInt_of_le (by have := hx.1; omega) (by have := hx.2; omega), Int32.toInt_ofInt_of_le (by have := hy.1; omega) (by have := hy.2; omega)]
theorem zi_eq {x y : Int} (hx : zR32 x) (hy : zR32 y) : Int32.ofInt x = Int32.ofInt y ↔ x = y := by
  rw [← Int32.toInt_inj, Int32.toInt_ofInt_of_le (by have := hx.1; omega) (by have := hx.2; omega), Int32.toInt_ofInt_of_le (by have := hy.1; omega) (by have := hy.2; omega)]
theorem zi_ne0 {x : Int} (hx : zR32 x) (h : ¬ x = 0) : ¬ Int32.ofInt x = 0 := fun e => h ((zi_eq hx ⟨by omega, by omega⟩).mp e)
theorem zl_ne0 {x : Int} (hx : zR64 x) (h : ¬ x = 0) : ¬ Int64.ofInt x = 0 := by
  intro e
  have e2 : Int64.ofInt x = Int64.ofInt 0 := e
  rw [← Int64.toInt_inj, Int64.toInt_ofInt_of_le (by have := hx.1; omega) (by have := hx.2; omega), Int64.toInt_ofInt_of_le (by omega) (by omega)] at e2
  exact h e2
section ZW
variable {p : Program} {l : Launch} {e : Env} {R : Room} {s : State} {m : MethodId} {args : Array Value} {below : List Frame} {meth : Method} {c : Code} {H : Heap} {locs : List Loc} {cells slots : Nat} {Q : State → Prop}
theorem z_stcat {st : List zAV} {k : Nat} (h : st.length ≤ k) : ((st.map zV).map fun v => v.category).sum ≤ 2 * k := by
  induction st generalizing k with
  | nil => simp
  | cons v st ih =>
    simp only [List.map_cons, List.sum_cons, List.length_cons] at *
    have := ih (k := k - 1) (by omega)
    have h2 : (zV v).category ≤ 2 := by rw [zV_cat]; split <;> omega
    omega
theorem z_mx {x y : Int} (hx : zR32 x) (hy : zR32 y) : (if Int32.ofInt x < Int32.ofInt y then Int32.ofInt y else Int32.ofInt x) = Int32.ofInt (zmax x y) := by
  unfold zmax
  by_cases h : x < y
  · rw [if_pos h, if_pos ((zi_lt hx hy).mpr h)]
  · rw [if_neg h, if_neg (fun q => h ((zi_lt hx hy).mp q))]
theorem z_mn {x y : Int} (hx : zR32 x) (hy : zR32 y) : (if Int32.ofInt y < Int32.ofInt x then Int32.ofInt y else Int32.ofInt x) = Int32.ofInt (zmin x y) := by
  unfold zmin
  by_cases h : y < x
  · rw [if_pos h, if_pos ((zi_lt hy hx).mpr h)]
  · rw [if_neg h, if_neg (fun q => h ((zi_lt hy hx).mp q))]
theorem z_ldR {ls : Array Slot} {n : Nat} {L : zLo} (hL : zLR ls n L) {a : Nat} {r : Nat} (e : zld L a = some (.inr (.inr r))) : ls[a]? = some (.val (va_rf (zr2 r))) := zLR_at hL e
set_option maxRecDepth 100000 in
theorem z_jm : ∀ w ∈ [Cond.static Lib.Math.max.name, Cond.static Lib.Math.min.name, Cond.initialized "java/lang/Math"], w ∈ lw_tbl := by decide +kernel
set_option maxRecDepth 100000 in
theorem z_jm1 : Cond.code Lib.Math.max.name Lib.Math.max.code 2 (some .int) ∈ lw_tbl ∧ Cond.code Lib.Math.min.name Lib.Math.min.code 2 (some .int) ∈ lw_tbl := by decide +kernel
theorem z_jw {w : Cond} (h : w ∈ lw_tbl) (g : goodWord w = true) : w ∈ zW := List.mem_filter.mpr ⟨h, g⟩
set_option maxHeartbeats 8000000 in
theorem zps_W {mm n nx : Nat} {i : zMI} {L L' : zLo} {st st' : List zAV} {ls : Array Slot} (hx : p.tables.exec = Jvm.exec) (hb : c.code = zC mm) (hml : c.maxLocals = n) (hown : s.vm.findClass (zY mm).cls = some m.cls) (hts : ∀ w ∈ zW, w.before args s = true) (hR1 : 1 ≤ R.frames) (hR2 : 40 ≤ R.locals) (hcl : cells ≤ R.cells) (hsl : slots ≤ R.slots)
    (hok : zk1 mm i nx = true) (he : zps i L st = some (L', st')) (hL : zLR ls n L) (hs : zokS st)
    (kk : ∀ ls', zLR ls' n L' → W p l e R s m args below meth c H locs cells slots Q (F0 m nx ls' (st'.map zV))) : W p l e R s m args below meth c H locs cells slots Q (F0 m i.2.1 ls (st.map zV)) := by
  unfold zps at he
  split at he
  · -- const
    simp only [Option.some.injEq, Prod.mk.injEq] at he
    obtain ⟨rfl, rfl⟩ := he
    simp only [zk1, Bool.or_eq_true, Bool.and_eq_true, decide_eq_true_eq] at hok
    rcases hok with ((hok | hok) | hok) | hok
    · obtain ⟨h1, rfl⟩ := zD_of hok
      exact lv_iconst hx hb h1 rfl (kk ls hL)
    · obtain ⟨h1, rfl⟩ := zD_of hok.1
      exact lv_bipush hx hb h1 hok.2 (kk ls hL)
    · obtain ⟨h1, rfl⟩ := zD_of hok.1
      exact lv_sipush hx hb h1 hok.2 (kk ls hL)
    · have hw := hts _ (zAt_in hok.2)
      rcases hok.1 with h | h
      · obtain ⟨h1, rfl⟩ := zD_of h
        exact lv_ldc hx hb hown hw h1 (kk ls hL)
      · obtain ⟨h1, rfl⟩ := zD_of h
        exact lv_ldcw hx hb hown hw h1 (kk ls hL)
  · simp only [Option.some.injEq, Prod.mk.injEq] at he
    obtain ⟨rfl, rfl⟩ := he
    simp only [zk1, Bool.or_eq_true, Bool.and_eq_true, beq_iff_eq] at hok
    rcases hok with (hok | hok) | hok
    · obtain ⟨h1, rfl⟩ := zD_of hok.1
      refine lv_lconst hx hb h1 ?_ (kk ls hL)
      rw [hok.2]; rfl
    · obtain ⟨h1, rfl⟩ := zD_of hok.1
      refine lv_lconst hx hb h1 ?_ (kk ls hL)
      rw [hok.2]; rfl
    · obtain ⟨h1, rfl⟩ := zD_of hok.1
      exact lv_ldc2 hx hb hown (hts _ (zAt_in hok.2)) h1 (kk ls hL)
  · simp only [Option.some.injEq, Prod.mk.injEq] at he
    obtain ⟨rfl, rfl⟩ := he
    obtain ⟨h1, rfl⟩ := zD_of hok
    exact lv_null hx hb h1 (kk ls hL)
  · -- iload
    split at he
    · rename_i x hv
      simp only [Option.some.injEq, Prod.mk.injEq] at he
      obtain ⟨rfl, rfl⟩ := he
      simp only [zk1, Bool.or_eq_true, Bool.and_eq_true, decide_eq_true_eq] at hok
      rcases hok with h | h
      · obtain ⟨h1, rfl⟩ := zD_of h
        exact lv_iload hx hb h1 (zLR_at hL hv) (kk ls hL)
      · obtain ⟨h1, rfl⟩ := zD_of h.1
        exact lv_iload_n hx hb h1 (zfin h.2) (zLR_at hL hv) (kk ls hL)
    · cases he
  · split at he
    · rename_i x hv
      simp only [Option.some.injEq, Prod.mk.injEq] at he
      obtain ⟨rfl, rfl⟩ := he
      simp only [zk1, Bool.or_eq_true, Bool.and_eq_true, decide_eq_true_eq] at hok
      rcases hok with h | h
      · obtain ⟨h1, rfl⟩ := zD_of h
        exact lv_lload hx hb h1 (zLR_at hL hv) (kk ls hL)
      · obtain ⟨h1, rfl⟩ := zD_of h.1
        exact lv_lload_n hx hb h1 (zfin h.2) (zLR_at hL hv) (kk ls hL)
    · cases he
  · split at he
    · rename_i x hv
      simp only [Option.some.injEq, Prod.mk.injEq] at he
      obtain ⟨rfl, rfl⟩ := he
      simp only [zk1, Bool.or_eq_true, Bool.and_eq_true, decide_eq_true_eq] at hok
      have hv2 := z_ldR hL hv
      simp only [List.map_cons, zV] at kk ⊢
      rcases hz : zr2 x with _ | y
      · rw [hz] at hv2 kk
        rcases hok with h | h
        · obtain ⟨h1, rfl⟩ := zD_of h
          exact lv_aloadN hx hb h1 hv2 (kk ls hL)
        · obtain ⟨h1, rfl⟩ := zD_of h.1
          exact lv_aload_nN hx hb h1 (zfin h.2) hv2 (kk ls hL)
      · rw [hz] at hv2 kk
        rcases hok with h | h
        · obtain ⟨h1, rfl⟩ := zD_of h
          exact lv_aload hx hb h1 hv2 (kk ls hL)
        · obtain ⟨h1, rfl⟩ := zD_of h.1
          exact lv_aload_n hx hb h1 (zfin h.2) hv2 (kk ls hL)
    · cases he
  · -- istore
    split at he
    · rename_i ha
      simp only [Option.some.injEq, Prod.mk.injEq] at he
      obtain ⟨rfl, rfl⟩ := he
      simp only [zk1, Bool.or_eq_true, Bool.and_eq_true, decide_eq_true_eq] at hok
      rw [hL.1] at ha
      rcases hok with h | h
      · obtain ⟨h1, rfl⟩ := zD_of h
        exact lv_istore hx hb h1 hL.2 ha rfl (fun ls' g => kk ls' (zLR_st1 hL.1 ha g))
      · obtain ⟨h1, rfl⟩ := zD_of h.1
        exact lv_istore_n hx hb h1 (zfin h.2) hL.2 ha rfl (fun ls' g => kk ls' (zLR_st1 hL.1 ha g))
    · cases he
  · split at he
    · rename_i ha
      simp only [Option.some.injEq, Prod.mk.injEq] at he
      obtain ⟨rfl, rfl⟩ := he
      simp only [zk1, Bool.or_eq_true, Bool.and_eq_true, decide_eq_true_eq] at hok
      rw [hL.1] at ha
      rcases hok with h | h
      · obtain ⟨h1, rfl⟩ := zD_of h
        exact lv_lstore hx hb h1 hL.2 ha rfl (fun ls' g => kk ls' (zLR_st2 hL.1 ha g))
      · obtain ⟨h1, rfl⟩ := zD_of h.1
        exact lv_lstore_n hx hb h1 (zfin h.2) hL.2 ha rfl (fun ls' g => kk ls' (zLR_st2 hL.1 ha g))
    · cases he
  · split at he
    · rename_i x _ ha
      simp only [Option.some.injEq, Prod.mk.injEq] at he
      obtain ⟨rfl, rfl⟩ := he
      simp only [zk1, Bool.or_eq_true, Bool.and_eq_true, decide_eq_true_eq] at hok
      rw [hL.1] at ha
      have kk2 : ∀ ls', lv_has ls' n _ → _ := fun ls' g => kk ls' (zLR_st1 (v := .inr (.inr x)) hL.1 ha g)
      simp only [List.map_cons, zV] at kk2 ⊢
      rcases hz : zr2 x with _ | y
      · rw [hz] at kk2
        rcases hok with h | h
        · obtain ⟨h1, rfl⟩ := zD_of h
          exact lv_astoreN hx hb h1 hL.2 ha rfl kk2
        · obtain ⟨h1, rfl⟩ := zD_of h.1
          exact lv_astore_nN hx hb h1 (zfin h.2) hL.2 ha rfl kk2
      · rw [hz] at kk2
        rcases hok with h | h
        · obtain ⟨h1, rfl⟩ := zD_of h
          exact lv_astore hx hb h1 hL.2 ha rfl kk2
        · obtain ⟨h1, rfl⟩ := zD_of h.1
          exact lv_astore_n hx hb h1 (zfin h.2) hL.2 ha rfl kk2
    · cases he
  · -- iinc
    split at he
    · rename_i x hv
      split at he
      · rename_i ha
        simp only [Option.some.injEq, Prod.mk.injEq] at he
        obtain ⟨rfl, rfl⟩ := he
        simp only [zk1, Bool.or_eq_true] at hok
        rw [hL.1] at ha
        obtain ⟨k, hk⟩ := List.getElem?_of_mem (zLs_mem.mpr (show (_, Value.int (Int32.ofInt x)).1 < n ∧ _ from ⟨ha, _, hv, rfl⟩))
        rcases hok with h | h
        · obtain ⟨h1, rfl⟩ := zD_of h
          exact lv_iinc hx hb h1 hL.2 hk rfl ha rfl (fun ls' g => kk ls' (zLR_st1 hL.1 ha (by simpa only [zV, zadd, z32] using g)))
        · obtain ⟨h1, rfl⟩ := zD_of h
          exact lv_iincW hx hb h1 hL.2 hk rfl ha rfl (fun ls' g => kk ls' (zLR_st1 hL.1 ha (by simpa only [zV, zadd, z32] using g)))
      · cases he
    · cases he
  · simp only [Option.some.injEq, Prod.mk.injEq] at he
    obtain ⟨rfl, rfl⟩ := he
    obtain ⟨h1, rfl⟩ := zD_of hok
    simp only [List.map_cons, zV] at kk ⊢
    simp only [zadd, z32, z64] at kk
    exact lv_iadd hx hb h1 (kk ls hL)
  · simp only [Option.some.injEq, Prod.mk.injEq] at he
    obtain ⟨rfl, rfl⟩ := he
    obtain ⟨h1, rfl⟩ := zD_of hok
    simp only [List.map_cons, zV] at kk ⊢
    simp only [zsub, z32, z64] at kk
    exact lv_isub hx hb h1 (kk ls hL)
  · simp only [Option.some.injEq, Prod.mk.injEq] at he
    obtain ⟨rfl, rfl⟩ := he
    obtain ⟨h1, rfl⟩ := zD_of hok
    simp only [List.map_cons, zV] at kk ⊢
    simp only [zmul, z32, z64] at kk
    exact lv_imul hx hb h1 (kk ls hL)
  · simp only [Option.some.injEq, Prod.mk.injEq] at he
    obtain ⟨rfl, rfl⟩ := he
    obtain ⟨h1, rfl⟩ := zD_of hok
    simp only [List.map_cons, zV] at kk ⊢
    simp only [zneg, z32, z64] at kk
    exact lv_ineg hx hb h1 (kk ls hL)
  · simp only [Option.some.injEq, Prod.mk.injEq] at he
    obtain ⟨rfl, rfl⟩ := he
    obtain ⟨h1, rfl⟩ := zD_of hok
    simp only [List.map_cons, zV] at kk ⊢
    simp only [zshl, z32, z64] at kk
    exact lv_ishl hx hb h1 (kk ls hL)
  · simp only [Option.some.injEq, Prod.mk.injEq] at he
    obtain ⟨rfl, rfl⟩ := he
    obtain ⟨h1, rfl⟩ := zD_of hok
    simp only [List.map_cons, zV] at kk ⊢
    simp only [zshr, z32, z64] at kk
    exact lv_ishr hx hb h1 (kk ls hL)
  · simp only [Option.some.injEq, Prod.mk.injEq] at he
    obtain ⟨rfl, rfl⟩ := he
    obtain ⟨h1, rfl⟩ := zD_of hok
    simp only [List.map_cons, zV] at kk ⊢
    simp only [zushr, z32, z64] at kk
    exact lv_iushr hx hb h1 rfl (kk ls hL)
  · simp only [Option.some.injEq, Prod.mk.injEq] at he
    obtain ⟨rfl, rfl⟩ := he
    obtain ⟨h1, rfl⟩ := zD_of hok
    simp only [List.map_cons, zV] at kk ⊢
    simp only [zand, z32, z64] at kk
    exact lv_iand hx hb h1 (kk ls hL)
  · simp only [Option.some.injEq, Prod.mk.injEq] at he
    obtain ⟨rfl, rfl⟩ := he
    obtain ⟨h1, rfl⟩ := zD_of hok
    simp only [List.map_cons, zV] at kk ⊢
    simp only [zor, z32, z64] at kk
    exact lv_ior hx hb h1 (kk ls hL)
  · simp only [Option.some.injEq, Prod.mk.injEq] at he
    obtain ⟨rfl, rfl⟩ := he
    obtain ⟨h1, rfl⟩ := zD_of hok
    simp only [List.map_cons, zV] at kk ⊢
    simp only [zxor, z32, z64] at kk
    exact lv_ixor hx hb h1 (kk ls hL)
  · simp only [Option.some.injEq, Prod.mk.injEq] at he
    obtain ⟨rfl, rfl⟩ := he
    obtain ⟨h1, rfl⟩ := zD_of hok
    simp only [List.map_cons, zV] at kk ⊢
    simp only [zi2l, z32, z64] at kk
    exact lv_i2l hx hb h1 rfl (kk ls hL)
  · simp only [Option.some.injEq, Prod.mk.injEq] at he
    obtain ⟨rfl, rfl⟩ := he
    obtain ⟨h1, rfl⟩ := zD_of hok
    simp only [List.map_cons, zV] at kk ⊢
    simp only [zl2i, z32, z64] at kk
    exact lv_l2i hx hb h1 rfl (kk ls hL)
  · simp only [Option.some.injEq, Prod.mk.injEq] at he
    obtain ⟨rfl, rfl⟩ := he
    obtain ⟨h1, rfl⟩ := zD_of hok
    simp only [List.map_cons, zV] at kk ⊢
    simp only [zi2b, z32, z64] at kk
    exact lv_i2b hx hb h1 rfl (kk ls hL)
  · simp only [Option.some.injEq, Prod.mk.injEq] at he
    obtain ⟨rfl, rfl⟩ := he
    obtain ⟨h1, rfl⟩ := zD_of hok
    simp only [List.map_cons, zV] at kk ⊢
    simp only [zi2s, z32, z64] at kk
    exact lv_i2s hx hb h1 rfl (kk ls hL)
  · simp only [Option.some.injEq, Prod.mk.injEq] at he
    obtain ⟨rfl, rfl⟩ := he
    obtain ⟨h1, rfl⟩ := zD_of hok
    simp only [List.map_cons, zV] at kk ⊢
    simp only [zi2c, z32, z64] at kk
    exact lv_i2c hx hb h1 rfl (kk ls hL)
  · simp only [Option.some.injEq, Prod.mk.injEq] at he
    obtain ⟨rfl, rfl⟩ := he
    obtain ⟨h1, rfl⟩ := zD_of hok
    simp only [List.map_cons, zV] at kk ⊢
    simp only [zladd, z32, z64] at kk
    exact lv_ladd hx hb h1 (kk ls hL)
  · simp only [Option.some.injEq, Prod.mk.injEq] at he
    obtain ⟨rfl, rfl⟩ := he
    obtain ⟨h1, rfl⟩ := zD_of hok
    simp only [List.map_cons, zV] at kk ⊢
    simp only [zlmul, z32, z64] at kk
    exact lv_lmul hx hb h1 (kk ls hL)
  · simp only [Option.some.injEq, Prod.mk.injEq] at he
    obtain ⟨rfl, rfl⟩ := he
    obtain ⟨h1, rfl⟩ := zD_of hok
    simp only [List.map_cons, zV] at kk ⊢
    simp only [zlcmp, z32, z64] at kk
    exact W.lcmp hx hb h1 (kk ls hL)
  · simp only [Option.some.injEq, Prod.mk.injEq] at he
    obtain ⟨rfl, rfl⟩ := he
    obtain ⟨h1, rfl⟩ := zD_of hok
    simp only [List.map_cons, zV] at kk ⊢
    exact lv_dup hx hb h1 rfl (kk ls hL)
  · simp only [Option.some.injEq, Prod.mk.injEq] at he
    obtain ⟨rfl, rfl⟩ := he
    obtain ⟨h1, rfl⟩ := zD_of hok
    simp only [List.map_cons, zV] at kk ⊢
    exact lv_dup hx hb h1 (zV_cat (.inr (.inr _))) (kk ls hL)
  · simp only [Option.some.injEq, Prod.mk.injEq] at he
    obtain ⟨rfl, rfl⟩ := he
    obtain ⟨h1, rfl⟩ := zD_of hok
    simp only [List.map_cons, zV] at kk ⊢
    exact lv_dup2_11 hx hb h1 rfl (zV_cat (.inr (.inr _))) (kk ls hL)
  · simp only [Option.some.injEq, Prod.mk.injEq] at he
    obtain ⟨rfl, rfl⟩ := he
    obtain ⟨h1, rfl⟩ := zD_of hok
    simp only [List.map_cons, zV] at kk ⊢
    exact lv_pop hx hb h1 rfl (kk ls hL)
  · split at he
    · rename_i hlen
      simp only [Option.some.injEq, Prod.mk.injEq] at he
      obtain ⟨rfl, rfl⟩ := he
      simp only [zk1, Bool.and_eq_true] at hok
      obtain ⟨h1, rfl⟩ := zD_of hok.1
      have hq := z_stcat hlen
      simp only [List.map_cons, zV] at kk ⊢
      refine va_mmax hx hb (hml.trans hL.2.1.symm) hown (hts _ (zAt_in hok.2)) (hts _ (z_jw (z_jm (Cond.static Lib.Math.max.name) (by simp)) rfl)) (hts _ (z_jw (z_jm (Cond.initialized "java/lang/Math") (by simp)) rfl)) (hts _ (z_jw z_jm1.1 rfl)) hR1 (by omega) hcl hsl h1 ?_
      rw [z_mx (zokS_head (zokS_tail hs)) (zokS_head hs)]
      exact kk ls hL
    · cases he
  · split at he
    · rename_i hlen
      simp only [Option.some.injEq, Prod.mk.injEq] at he
      obtain ⟨rfl, rfl⟩ := he
      simp only [zk1, Bool.and_eq_true] at hok
      obtain ⟨h1, rfl⟩ := zD_of hok.1
      have hq := z_stcat hlen
      simp only [List.map_cons, zV] at kk ⊢
      refine va_mmin hx hb (hml.trans hL.2.1.symm) hown (hts _ (zAt_in hok.2)) (hts _ (z_jw (z_jm (Cond.static Lib.Math.min.name) (by simp)) rfl)) (hts _ (z_jw (z_jm (Cond.initialized "java/lang/Math") (by simp)) rfl)) (hts _ (z_jw z_jm1.2 rfl)) hR1 (by omega) hcl hsl h1 ?_
      rw [z_mn (zokS_head (zokS_tail hs)) (zokS_head hs)]
      exact kk ls hL
    · cases he
  · split at he
    · cases he
    · rename_i hne
      simp only [Option.some.injEq, Prod.mk.injEq] at he
      obtain ⟨rfl, rfl⟩ := he
      obtain ⟨h1, rfl⟩ := zD_of hok
      simp only [List.map_cons, zV] at kk ⊢
      simp only [zdiv, z32, z64] at kk
      exact lv_idiv hx hb h1 (zi_ne0 (zokS_head hs) hne) (kk ls hL)
  · split at he
    · cases he
    · rename_i hne
      simp only [Option.some.injEq, Prod.mk.injEq] at he
      obtain ⟨rfl, rfl⟩ := he
      obtain ⟨h1, rfl⟩ := zD_of hok
      simp only [List.map_cons, zV] at kk ⊢
      simp only [zrem, z32, z64] at kk
      exact lv_irem hx hb h1 (zi_ne0 (zokS_head hs) hne) (kk ls hL)
  · split at he
    · cases he
    · rename_i hne
      simp only [Option.some.injEq, Prod.mk.injEq] at he
      obtain ⟨rfl, rfl⟩ := he
      obtain ⟨h1, rfl⟩ := zD_of hok
      simp only [List.map_cons, zV] at kk ⊢
      simp only [zldiv, z32, z64] at kk
      exact lv_ldiv hx hb h1 (zl_ne0 (zokS_head hs) hne) (kk ls hL)
  · cases he
end ZW
