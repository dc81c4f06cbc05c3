theorem zrt_ok {i : zMI} {st : List zAV} {r : Option zAV} (hs : zokS st) (h : zrt i st = some r) : ∀ v, r = some v → zokV v := by
  unfold zrt at h
  split at h <;> (try (split at h)) <;> simp only [Option.some.injEq, reduceCtorEq] at h <;> subst h <;> intro v hv <;> cases hv
  all_goals exact zokS_head hs
theorem zargs_mem : ∀ (vs : List zAV) (v : zAV), some v ∈ zargs vs → v ∈ vs
  | [], v, h => by cases h
  | w :: vs, v, h => by
    unfold zargs at h
    split at h
    · rcases List.mem_cons.mp h with e | h
      · cases e
        exact List.mem_cons_self
      · rcases List.mem_cons.mp h with e | h
        · cases e
        · exact List.mem_cons_of_mem _ (zargs_mem vs v h)
    · rcases List.mem_cons.mp h with e | h
      · cases e
        exact List.mem_cons_self
      · exact List.mem_cons_of_mem _ (zargs_mem vs v h)
theorem zent_ok {mx : Nat} {vs : List zAV} (h : zokS vs) : zokL (zent mx vs) := by
  intro v hv
  unfold zent at hv
  rcases List.mem_append.mp hv with q | q
  · exact h v (zargs_mem vs v q)
  · have := (List.mem_replicate.mp q).2
    cases this
theorem zpush_ok {r : Option zAV} {st : List zAV} (hr : ∀ v, r = some v → zokV v) (h : zokS st) : zokS (zpush r st) := by
  cases r with
  | none => exact h
  | some v => exact zokS_cons (hr v rfl) h
theorem zokS_take {st : List zAV} (h : zokS st) (k : Nat) : zokS (st.take k).reverse := fun v hv => h v (List.mem_of_mem_take (List.mem_reverse.mp hv))
theorem zokS_drop {st : List zAV} (h : zokS st) (k : Nat) : zokS (st.drop k) := fun v hv => h v (List.mem_of_mem_drop hv)
theorem zps_0 {i : zMI} (h : i.1 = 0) (L : zLo) (st : List zAV) : zps i L st = none := by
  obtain ⟨o, rest⟩ := i
  have h : o = 0 := h
  subst h
  unfold zps
  split <;> first | rfl | (rename_i q _; exact absurd q (by intro h9; simp only [Prod.mk.injEq] at h9; omega)) | (rename_i q; exact absurd q (by intro h9; simp only [Prod.mk.injEq] at h9; omega)) | skip
  all_goals simp_all
theorem zexec_ok {E : Nat → Nat} {b0 : Nat} (hB : ∀ m b, zokB m (zB m b) = true) : ∀ (n d mm : Nat) (is : List zMI) (L : zLo) (st : List zAV) (h : zHp) (r : Option zAV) (h' : zHp), zexec E zB n d mm is L st h = some (r, h') → zokB mm is = true → zokL L → zokS st → zinv b0 h → zinv b0 h' ∧ zgood h h' ∧ ∀ v, r = some v → zokV v := by
  intro n
  induction n with
  | zero => intro d mm is L st h r h' he; cases he
  | succ n ih =>
    intro d mm is L st h r h' he hok hL hs hi
    cases is with
    | nil => cases he
    | cons i is =>
      unfold zokB at hok
      simp only [Bool.and_eq_true] at hok
      obtain ⟨⟨hc, hd⟩, hok⟩ := hok
      unfold zexec at he
      split at he
      · rename_i g1
        split at he
        · rename_i q hq
          obtain ⟨a1, a2⟩ := zps_ok hc hL hs hq
          have h0 : ¬ (i.1 == 0) = true := fun z => by rw [zps_0 (by simpa using z)] at hq; cases hq
          rw [if_neg h0, if_pos g1, Bool.and_eq_true] at hok
          exact ih _ _ _ _ _ _ _ _ he hok.2 a1 a2 hi
        · cases he
      · rename_i g1
        have h0 : ¬ (i.1 == 0) = true := fun z => g1 (by have : i.1 = 0 := by simpa using z
                                                         omega)
        rw [if_neg h0, if_neg g1] at hok
        split at he
        · rename_i g2
          rw [if_pos g2, Bool.and_eq_true] at hok
          split at he
          · rename_i st' hq
            exact ih _ _ _ _ _ _ _ _ he hok.2 hL (zbr_ok hs hq) hi
          · rename_i b st' hq
            exact ih _ _ _ _ _ _ _ _ he (hB _ _) hL (zbr_ok hs hq) hi
          · cases he
        · rename_i g2
          rw [if_neg g2] at hok
          split at he
          · rename_i g3
            rw [if_pos g3, Bool.and_eq_true] at hok
            split at he
            · rename_i q hq
              obtain ⟨a1, a2, a3⟩ := zhp_ok hc hd hs hi hq
              obtain ⟨b1, b2, b3⟩ := ih _ _ _ _ _ _ _ _ he hok.2 hL a1 a2
              exact ⟨b1, zgood_tr a3 b2, b3⟩
            · cases he
          · rename_i g3
            rw [if_neg g3] at hok
            split at he
            · rename_i g4
              rw [if_pos g4, Bool.and_eq_true] at hok
              split at he
              · rename_i d' m2 k mx hz
                split at he
                · split at he
                  · rename_i r1 h1 hq
                    obtain ⟨a1, a2, a3⟩ := ih _ _ _ _ _ _ _ _ hq (hB _ _) (zent_ok (zokS_take hs k)) (fun v hv => by cases hv) hi
                    obtain ⟨b1, b2, b3⟩ := ih _ _ _ _ _ _ _ _ he hok.2 hL (zpush_ok a3 (zokS_drop hs k)) a1
                    exact ⟨b1, zgood_tr a2 b2, b3⟩
                  · cases he
                · cases he
              · cases he
            · split at he
              · rename_i r1 hq
                simp only [Option.some.injEq, Prod.mk.injEq] at he
                obtain ⟨rfl, rfl⟩ := he
                exact ⟨hi, zgood_rf _, zrt_ok hs hq⟩
              · cases he
/-- the locals with which a method begins -/
theorem zargs_ld : ∀ (vs : List zAV) (a j : Nat) (v : zAV), zld (zargs vs) j = some v → (a + j, zV v) ∈ lv_args a (vs.map zV)
  | [], a, j, v, h => by simp [zargs, zld] at h
  | w :: vs, a, j, v, h => by
    unfold zargs at h
    rw [List.map_cons, lv_args, zV_cat]
    split at h
    · rename_i hl
      rw [if_pos hl, if_pos rfl]
      match j, h with
      | 0, h =>
        have : w = v := by simpa [zld] using h
        subst this
        exact List.mem_cons_self
      | 1, h => simp [zld] at h
      | j + 2, h =>
        have := zargs_ld vs (a + 2) j v (by simpa [zld] using h)
        rw [show a + (j + 2) = a + 2 + j by omega]
        exact List.mem_cons_of_mem _ this
    · rename_i hl
      rw [if_neg hl, if_neg (by omega)]
      match j, h with
      | 0, h =>
        have : w = v := by simpa [zld] using h
        subst this
        exact List.mem_cons_self
      | j + 1, h =>
        have := zargs_ld vs (a + 1) j v (by simpa [zld] using h)
        rw [show a + (j + 1) = a + 1 + j by omega]
        exact List.mem_cons_of_mem _ this
theorem zargs_len : ∀ (vs : List zAV), (lg_sl (vs.map zV)).length = (zargs vs).length
  | [] => rfl
  | w :: vs => by
    have ih := zargs_len vs
    have e : lg_sl (zV w :: vs.map zV) = (if (zV w).category = 2 then [Slot.val (zV w), Slot.second] else [Slot.val (zV w)]) ++ lg_sl (vs.map zV) := by simp [lg_sl]
    rw [List.map_cons, e, zV_cat, List.length_append, ih]
    show _ = (if zlong w = true then some w :: none :: zargs vs else some w :: zargs vs).length
    by_cases hl : zlong w = true
    · rw [if_pos hl, if_pos hl, if_pos rfl]
      simp only [List.length_cons, List.length_nil]
      omega
    · rw [if_neg hl, if_neg hl, if_neg (by omega)]
      simp only [List.length_cons, List.length_nil]
      omega
theorem zent_LR {mx : Nat} {vs : List zAV} (h : (zargs vs).length ≤ mx) : zLR ((lg_sl (vs.map zV) ++ List.replicate (mx - (lg_sl (vs.map zV)).length) Slot.unset).toArray) mx (zent mx vs) := by
  obtain ⟨h1, h2, h3⟩ := lv_entry (vs.map zV) (n := mx) (by rw [zargs_len]; exact h)
  refine ⟨by unfold zent; rw [List.length_append, List.length_replicate]; omega, h1, h2, fun q hq => h3 q ?_⟩
  obtain ⟨g1, v, g2, g3⟩ := zLs_mem.mp hq
  have g4 : zld (zargs vs) q.1 = some v := by
    unfold zent zld at g2
    unfold zld
    by_cases hl : q.1 < (zargs vs).length
    · rw [List.getElem?_append_left hl] at g2
      exact g2
    · rw [List.getElem?_append_right (by omega)] at g2
      cases hz : (List.replicate (mx - (zargs vs).length) (none : Option zAV))[q.1 - (zargs vs).length]? with
      | none => rw [hz] at g2; cases g2
      | some w =>
        rw [hz] at g2
        have := List.eq_of_mem_replicate (List.mem_of_getElem? hz)
        subst this
        cases g2
  have := zargs_ld vs 0 q.1 v g4
  rw [Nat.zero_add, g3] at this
  exact this
theorem z_narc {x : Int} (h0 : 0 ≤ x) (h1 : x < 65536) : narrow .char (.int (Int32.ofInt x)) = .int (Int32.ofInt x) := by
  have e : vp_nar .char (Int32.ofInt x) = Int32.ofInt x := by
    rw [vp_nar_char]
    obtain ⟨n, rfl⟩ := Int.eq_ofNat_of_zero_le h0
    have hn : n < 65536 := by omega
    apply Int32.toBitVec_inj.mp
    apply BitVec.eq_of_toNat_eq
    simp
    omega
  have := congrArg Value.int e
  exact this
theorem z_narb {x : Int} (h0 : -128 ≤ x) (h1 : x < 128) : narrow .byte (.int (Int32.ofInt x)) = .int (Int32.ofInt x) := by
  have e : vp_nar .byte (Int32.ofInt x) = Int32.ofInt x := by
    rw [vp_nar_byte]
    apply Int32.toInt_inj.mp
    have e1 : (Int32.ofInt x).toInt = x := Int32.toInt_ofInt_of_le (by omega) (by omega)
    rw [Int8.toInt_toInt32, Int32.toInt_toInt8, e1]
    exact Int.bmod_eq_of_le (by omega) (by omega)
  have := congrArg Value.int e
  exact this
section ZRET
variable {D : va_G} {dA : Nat → ClassId} {b0 mm : Nat} {p : Program} {l : Launch} {e : Env} {R : Room} {s : State} {m : MethodId} {args : Array Value} {below : List Frame} {meth : Method} {c : Code} {H : Heap} {locs : List Loc} {C1 S1 : Nat} {h : zHp} {ls : Array Slot}
theorem z_ret (hx : p.tables.exec = Jvm.exec) (hb : c.code = zC mm) (hr : meth.sig.returnType = zT mm) (hlocks : meth.locks = false) {i : zMI} {st : List zAV} {r : Option zAV} (hk : zk5 mm i = true) (hz : zrt i st = some r) (Y : zDyn D dA b0 s h H locs) :
    W p l e R s m args below meth c H locs C1 S1 (MQ below (zQ D dA b0 r h) args s C1 S1 (zA b0)) (F0 m i.2.1 ls (st.map zV)) := by
  have hq : ∀ (r : Option zAV) (v : Option Value), v = r.map zV → ∀ t : State, t.heap = H → s.WarmedH t.vm → zQ D dA b0 r h args s (.returned v) t := fun r v e t ht _ => ⟨by rw [e], by rw [ht]; exact Y.1, Y.2.2.2.F ht⟩
  have hf := Y.2.2.2.2.2
  unfold zrt at hz
  split at hz <;> (try (split at hz)) <;> simp only [Option.some.injEq, reduceCtorEq] at hz <;> subst hz
  all_goals simp only [zk5, Bool.and_eq_true, decide_eq_true_eq] at hk
  · exact W.iret hx hb (hr.trans hk.2) (hq _ _ rfl) hf hk.1 hlocks
  · rename_i g
    exact W.zret (ty := .boolean) hx hb (hr.trans hk.2) (by rcases g with w | w <;> rw [w] <;> rfl) (hq _ _ rfl) hf hk.1 hlocks
  · rename_i g
    exact W.zret (ty := .char) hx hb (hr.trans hk.2) (z_narc g.1 g.2) (hq _ _ rfl) hf hk.1 hlocks
  · rename_i g
    exact W.zret (ty := .byte) hx hb (hr.trans hk.2) (z_narb g.1 g.2) (hq _ _ rfl) hf hk.1 hlocks
  · exact W.lret hx hb (hr.trans hk.2) (hq _ _ rfl) hf hk.1 hlocks
  · rename_i x
    obtain ⟨k1, k2⟩ := hk
    split at k2
    · rename_i t ht
      refine W.aret hx hb (hr.trans ht) ?_ ?_ (hq _ _ rfl) hf k1 hlocks
      · cases t <;> first | exact Or.inl ⟨_, rfl⟩ | exact Or.inr ⟨_, rfl⟩ | cases k2
      · show zV (.inr (.inr x)) = .null ∨ _
        simp only [zV]
        cases zr2 x with
        | none => exact Or.inl rfl
        | some y => exact Or.inr ⟨y, rfl⟩
    · cases k2
  · exact W.vret hx hb (hr.trans hk.2) (hq none _ rfl) hf hk.1 hlocks
end ZRET
section ZMAIN
variable {E : Nat → Nat} {D : va_G} {dA : Nat → ClassId} {b0 : Nat} {l : Launch}
set_option maxHeartbeats 8000000 in
theorem z_main (hB : ∀ m b, zokB m (zB m b) = true) (hP0 : ∀ m, m < 301 → zpc (zB m 0) = 0) : ∀ (n d mm : Nat) (is : List zMI) (L : zLo) (st : List zAV) (h : zHp) (r : Option zAV) (h' : zHp), zexec E zB n d mm is L st h = some (r, h') → zokB mm is = true →
    ∀ {p : Program} {e : Env} {R : Room} {s : State} {m : MethodId} {args : Array Value} {below : List Frame} {meth : Method} {c : Code} {H : Heap} {locs : List Loc} {cells slots C1 S1 : Nat} {Q : State → Prop} {ls : Array Slot},
      zCtx E D dA b0 mm (zM mm) p R s m args meth c → zDyn D dA b0 s h H locs → zLR ls (zM mm) L → zokL L → zokS st → d + 1 ≤ R.frames → 60 * (d + 1) ≤ R.locals → cells + (znx h' - znx h) = C1 → slots + (zus h' - zus h) = S1 → C1 ≤ R.cells → S1 ≤ R.slots →
      (∀ (i : zMI) (st2 : List zAV) (ls2 : Array Slot) (H2 : Heap) (locs2 : List Loc), zk5 mm i = true → zrt i st2 = some r → zokS st2 → zDyn D dA b0 s h' H2 locs2 → W p l e R s m args below meth c H2 locs2 C1 S1 Q (F0 m i.2.1 ls2 (st2.map zV))) →
      W p l e R s m args below meth c H locs cells slots Q (F0 m (zpc is) ls (st.map zV)) := by
  intro n
  induction n with
  | zero => intro d mm is L st h r h' he; cases he
  | succ n ih =>
    intro d mm is L st h r h' he hok p e R s m args below meth c H locs cells slots C1 S1 Q ls X Y hLR hL hs hRf hRl hC1 hS1 hCR hSR hret
    have hall := zexec_ok hB _ _ _ _ _ _ _ _ _ he hok hL hs Y.2.2.1
    cases is with
    | nil => cases he
    | cons i is =>
      have hok0 := hok
      unfold zokB at hok
      simp only [Bool.and_eq_true] at hok
      obtain ⟨⟨hc, hd⟩, hok⟩ := hok
      unfold zexec at he
      show W p l e R s m args below meth c H locs cells slots Q (F0 m i.2.1 ls (st.map zV))
      split at he
      · rename_i g1
        split at he
        · rename_i q hq
          obtain ⟨a1, a2⟩ := zps_ok hc hL hs hq
          have h0 : ¬ (i.1 == 0) = true := fun z => by rw [zps_0 (by simpa using z)] at hq; cases hq
          rw [if_neg h0, if_pos g1, Bool.and_eq_true] at hok
          exact zps_W X.1 X.2.1 X.2.2.1 X.2.2.2.2.1 X.2.2.2.2.2.1 (by omega) (by omega) (by omega) (by omega) hok.1 hq hLR hs fun ls' g => ih _ _ _ _ _ _ _ _ he hok.2 X Y g a1 a2 hRf hRl hC1 hS1 hCR hSR hret
        · cases he
      · rename_i g1
        have h0 : ¬ (i.1 == 0) = true := fun z => g1 (by have : i.1 = 0 := by simpa using z
                                                         omega)
        rw [if_neg h0, if_neg g1] at hok
        split at he
        · rename_i g2
          rw [if_pos g2, Bool.and_eq_true] at hok
          split at he
          · rename_i st' hq
            exact zbr_W X.1 X.2.1 hok.1 hq hs (L := L) (ih _ _ _ _ _ _ _ _ he hok.2 X Y hLR hL (zbr_ok hs hq) hRf hRl hC1 hS1 hCR hSR hret)
          · rename_i b st' hq
            exact zbr_W X.1 X.2.1 hok.1 hq hs (L := L) (ih _ _ _ _ _ _ _ _ he (hB _ _) X Y hLR hL (zbr_ok hs hq) hRf hRl hC1 hS1 hCR hSR hret)
          · cases he
        · rename_i g2
          rw [if_neg g2] at hok
          split at he
          · rename_i g3
            rw [if_pos g3, Bool.and_eq_true] at hok
            split at he
            · rename_i q hq
              obtain ⟨a1, a2, a3⟩ := zhp_ok hc hd hs Y.2.2.1 hq
              obtain ⟨b1, b2, b3⟩ := zexec_ok hB _ _ _ _ _ _ _ _ _ he hok.2 hL a1 a2
              have m1 := a3.1
              have m2 := a3.2.1
              have m3 := b2.1
              have m4 := b2.2.1
              exact zhp_W X Y hLR.2.1 hok.1 hc hq hs (by omega) (by omega) fun H1 locs1 Y1 => ih _ _ _ _ _ _ _ _ he hok.2 X Y1 hLR hL a1 hRf hRl (by omega) (by omega) hCR hSR hret
            · cases he
          · rename_i g3
            rw [if_neg g3] at hok
            split at he
            · rename_i g4
              rw [if_pos g4, Bool.and_eq_true] at hok
              split at he
              · rename_i d' m2 k mx hz
                split at he
                · rename_i hk
                  split at he
                  · rename_i r1 h1 hq
                    obtain ⟨a1, a2, a3⟩ := zexec_ok hB _ _ _ _ _ _ _ _ _ hq (hB _ _) (zent_ok (zokS_take hs k)) (fun v hv => by cases hv) Y.2.2.1
                    obtain ⟨b1, b2, b3⟩ := zexec_ok hB _ _ _ _ _ _ _ _ _ he hok.2 hL (zpush_ok a3 (zokS_drop hs k)) a1
                    have m1 := a2.1
                    have m2' := a2.2.1
                    have m3 := b2.1
                    have m4 := b2.2.1
                    refine zcall_W (d := d') X Y hLR.2.1 hok.1 hz hk.1 hk.2.1 a1 a2 (by omega) (by omega) (fun hm hmx => ?_) (by omega) (by omega) fun H1 locs1 Y1 => ih _ _ _ _ _ _ _ _ he hok.2 X Y1 hLR hL (zpush_ok a3 (zokS_drop hs k)) hRf hRl (by omega) (by omega) hCR hSR hret
                    -- the callee's contract
                    subst hmx
                    refine Met.ofW (cc := zC m2) (maxL := zM m2) (ret := zT m2) (z_plain m2 hm) rfl ?_
                    intro p2 e2 s2 mk args2 below2 meth2 c2 s₁ B hml hv
                    obtain ⟨rfl, hK2, hSt2, hR2, hC2, hb2⟩ := hv
                    have hts2 := atoms_spec (ws := zws2 m2) B.pre
                    have hX2 : zCtx E D dA b0 m2 (zM m2) p2 (zrm d' (znx h1 - znx h) (zus h1 - zus h)) s2 mk ((st.take k).reverse.map zV).toArray meth2 c2 := ⟨B.exec, B.bytes, hml, (name_of_methodNamed B.named B.method).1, findClass_of_methodNamed B.named, fun w hw => hts2 w (List.mem_cons_of_mem _ hw), hK2, hSt2, hb2, by show 1 ≤ d' + 1; omega, by show 60 ≤ 60 * (d' + 1); omega⟩
                    have hY2 : zDyn D dA b0 s2 h s2.heap [] := ⟨hR2, hC2, Y.2.2.1, va_S.rf⟩
                    rw [lg_entry_eq]
                    have h9 := ih d' m2 (zB m2 0) _ [] h r1 h1 hq (hB _ _) hX2 hY2 (zent_LR hk.2.2) (zent_ok (zokS_take hs k)) (fun v hv => by cases hv) (by show d' + 1 ≤ d' + 1; omega) (by show 60 * (d' + 1) ≤ 60 * (d' + 1); omega) (cells := 0) (slots := 0) (C1 := znx h1 - znx h) (S1 := zus h1 - zus h) (Nat.zero_add _) (Nat.zero_add _) (Nat.le_refl _) (Nat.le_refl _) (below := below2) (e := e2) (Q := MQ below2 (zQ D dA b0 r1 h1) ((st.take k).reverse.map zV).toArray s2 (znx h1 - znx h) (zus h1 - zus h) (zA b0)) fun i2 st2 ls2 H2 locs2 w1 w2 w3 w4 => z_ret B.exec B.bytes B.returns B.notSynchronized w1 w2 w4
                    rw [hP0 m2 hm] at h9
                    exact h9
                  · cases he
                · cases he
              · cases he
            · rename_i g4
              rw [if_neg g4] at hok
              split at he
              · rename_i r1 hq
                simp only [Option.some.injEq, Prod.mk.injEq] at he
                obtain ⟨rfl, rfl⟩ := he
                have := hret i st ls H locs hok hq hs Y
                rw [Nat.sub_self, Nat.add_zero] at hC1 hS1
                rw [hC1, hS1]
                exact this
              · cases he
end ZMAIN
