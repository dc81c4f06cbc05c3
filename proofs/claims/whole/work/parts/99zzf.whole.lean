/-! THE CLAIM OUT OF ONE WALK OF THE LAW'S BODY. Your part is whole_start (and what it stands on); all else here is the same for every law, but numbers. -/
def R_law : String := "EngraversHouseLaw"
def lw_P (b : Addr) (xs : List Int32) (args : Array Value) (s : State) : Prop := args = #[.ref b] ∧ s.IntsAt b xs ∧ xs.length ≤ 4096 ∧ (Jvm.Cond.and given_1 narrow_1).before args s = true ∧ heapFits s = true
def lw_Q (_ : Array Value) (s : State) (o : Outcome) (t : State) : Prop := o = .returned (some (.int 1)) ∧ Framed s o t [] 600000 7302250
def lw_Z (below : List Frame) (a : Array Value) (s : State) : State → Prop := fun t => ∃ o, t.status = .running ∧ Ended t below o ∧ lw_Q a s o t
/-- the law's own end, with 1 on the stack, nothing written that was there before, its room as the claim has it -/
theorem lw_ret {p : Program} {l : Launch} {e : Env} {s : State} {m : MethodId} {below : List Frame} {meth : Method} {c : Code} {b : Nat} (hx : p.tables.exec = Jvm.exec) (hb : c.code = code) (hr : meth.sig.returnType = ret) (hlocks : meth.locks = false) {pc : Nat} {H : Heap} {ls : Array Slot} (hdg : decode code pc = .ok (.ireturn, 1)) : W p l e room_1 s m #[Value.ref b] below meth c H [] 600000 7302250 (lw_Z below #[Value.ref b] s) (F0 m pc ls [.int 1]) := by
  intro T hT X
  obtain ⟨fs, hret, hrun, hended, hW, hframe⟩ := X.leave (v := some (.int 1)) (hlocks := hlocks) (fun h => by rw [hr] at h; cases h)
  have hmeth' : T.vm.method? m = some meth := X.method'
  refine ⟨T.setFrames fs, ?_, .returned (some (.int 1)), hrun, hended, rfl, ⟨_, rfl⟩, hW, hframe⟩
  jvm_step X.here [X.here.top, hx, hb, hdg, hmeth', hr, ret, narrow_b1]
  (try refine ⟨rfl, ?_⟩); (try refine ⟨rfl, ?_⟩)
  first | (intro acts; rw [hret _ acts rfl rfl rfl]) | rw [hret _ _ rfl rfl rfl]
  exact Steps.refl _
/-- what holds at the law's entry: the machine, the code, the tables' words (any of lw_tbl by 'hts w (by decide +kernel)'), the script of L ints xs at the cell b, what the Statement gives of the start (any of its parts by flat_of_before) -/
def lw_At (p : Program) (s : State) (m : MethodId) (meth : Method) (c : Code) (b L : Nat) (xs : Nat → Int32) : Prop :=
  p.tables.exec = Jvm.exec ∧ c.code = code ∧ meth.sig.returnType = ret ∧ c.maxLocals = 4 ∧ s.vm.findClass R_law = some m.cls ∧ (∀ w ∈ lw_tbl, w.before #[Value.ref b] s = true) ∧ va_X b L xs s s.heap ∧ b < s.heap.size ∧ meth.locks = false ∧ (Jvm.Cond.and given_1 narrow_1).before #[Value.ref b] s = true ∧ meth.name = (zY 301).name ∧ heapFits s = true
theorem whole_start {p : Program} {e : Env} {s : State} {m : MethodId} {below : List Frame} {meth : Method} {c : Code} (l : Launch) (hflags : l.flags = flags0) {b L : Nat} {xs : Nat → Int32} (hL : L ≤ 4096) (C0 : lw_At p s m meth c b L xs) : W p l e room_1 s m #[Value.ref b] below meth c s.heap [] 0 0 (lw_Z below #[Value.ref b] s) (entryFrame m ([Value.ref b] : List Value).toArray 4) := by
  obtain ⟨hx, hb, hr, hml, hown, hts, hX, hbl, hlocks, hgv, hname, hfit⟩ := id C0
  obtain ⟨D, dA, hK⟩ := st_K hts
  have hch : ∀ i : Nat, ∃ q : Nat × Nat, i < 12 → (enTm i).eval #[Value.ref b] s none [] s = some (.ref q.1) ∧ enS s q.1 q.2 ∧ enI s q.2 .byte ((wds.getD i []).length, fun j => Int32.ofNat ((wds.getD i []).getD j 0)) := fun i => by
    by_cases hi : i < 12
    · obtain ⟨a, v, h⟩ := st_words hgv i hi
      exact ⟨(a, v), fun _ => h⟩
    · exact ⟨(0, 0), fun w => absurd w hi⟩
  obtain ⟨q, hq⟩ := Classical.axiomOfChoice hch
  obtain ⟨t, u, ⟨h13, k13⟩, h14, k14⟩ := st_rows hgv
  obtain ⟨v, hv, hvr⟩ := Cond.isRef_spec (flat_of_before _ hgv _ p_cs.2)
  obtain ⟨e12, he12⟩ : ∃ e12 : Nat, v = va_rf (zr2 e12) := by
    cases v with
    | null => exact ⟨0, rfl⟩
    | ref a => exact ⟨a + 1, by simp [zr2, va_rf]⟩
    | _ => exact Bool.noConfusion (show false = true from hvr)
  rw [he12] at hv
  let E : Nat → Nat := fun k => if k < 12 then (q k).1 + 1 else if k = 12 then e12 else if k = 13 then t + 1 else u + 1
  have E12 : ∀ i, i < 12 → E i = (q i).1 + 1 := fun i hi => if_pos hi
  have hSt : zStm (zA s.heap.size) s s.heap E := st_Stm (ad := fun i => (q i).1) hts hgv (fun i hi => ⟨(hq i hi).1, E12 i hi⟩) hv h13 rfl h14 rfl
  obtain ⟨scr, c1, c2, c3, c4, c5⟩ := id hX
  have hsc : enI s b .int (L, xs) := ⟨hL, scr, c1, c2, c3, by show L ≤ scr.slots.size; omega, by rw [c4], c5, zA_no b hbl⟩
  obtain ⟨r1, r2, r3⟩ := en_row hfit hsc
  obtain ⟨Hf, f1, f2, f3, f4⟩ := st_law (X := s.heap.size + 1) (h := enH s) (a0 := b + 1) (N := L) (E := E) rfl (by show (enT s 0).1 = 0; unfold enT; rw [if_pos rfl]) (en_EK hfit k13 rfl) (en_BK hfit k14 rfl) (en_EW hfit (ad := fun i => (q i).1) (av := fun i => (q i).2) (fun i hi => (hq i hi).2) E12) ⟨by omega, r1, r2⟩ (fun k hk => by rw [r3 k hk]; exact zr_i _) hL
  obtain ⟨n, hz⟩ := fW_law_ok (E := E) 0 (b + 1) (enH s) 1 Hf f1
  have nx : znx (enH s) = s.heap.size := rfl
  have us : zus (enH s) = 0 := rfl
  rw [nx] at f2 f3
  rw [us] at f4
  have ctx : zCtx E D dA s.heap.size 301 4 p room_1 s m #[Value.ref b] meth c := ⟨hx, hb, hml, hname, hown, fun w hw => hts w (zW_tbl w hw), hK, hSt, Nat.le_refl _, by show 1 ≤ 2048; omega, by show 60 ≤ 84000; omega⟩
  have dyn : zDyn D dA s.heap.size s (enH s) s.heap [] := ⟨⟨fun k q h => by unfold zws at h; rw [nx, Nat.sub_self] at h; simp at h, rfl⟩, en_co s, en_inv s, va_S.rf⟩
  rw [lg_entry_eq]
  have h9 := z_main z_hB (fun m hm => z_hP0 m (by omega)) n 47 301 (zB 301 0) (zent 4 [.inr (.inr (b + 1))]) [] (enH s) (some (.inl 1)) Hf hz (z_hB 301 0) (p := p) (e := e) (R := room_1) (s := s) (m := m) (args := #[Value.ref b]) (below := below) (meth := meth) (c := c) (H := s.heap) (locs := []) (cells := 0) (slots := 0) (C1 := znx Hf - s.heap.size) (S1 := zus Hf) (Q := lw_Z below #[Value.ref b] s) (l := l) ctx dyn (zent_LR (vs := [.inr (.inr (b + 1))]) (Nat.le_of_ble_eq_true rfl)) (zent_ok (fun v hv => by
      rcases List.mem_cons.mp hv with rfl | hv
      · trivial
      · cases hv)) (fun v hv => by cases hv) (by show 48 ≤ 2048; omega) (by show 60 * 48 ≤ 84000; omega) (Nat.zero_add _) (by rw [us]; omega) (by show _ ≤ 600000; omega) (by show _ ≤ 7302250; omega) (fun i st2 ls2 H2 locs2 hk hrt hok hd => ?_)
  · rw [z_hP0 301 (by decide)] at h9
    exact h9
  · have hloc := hd.2.2.2.2.2
    unfold zrt at hrt
    split at hrt <;> (try (split at hrt)) <;> simp only [Option.some.injEq, reduceCtorEq, Sum.inl.injEq] at hrt <;> (try subst hrt)
    all_goals simp only [zk5, Bool.and_eq_true, decide_eq_true_eq] at hk
    all_goals exact va_forget hloc (W.widen (by show _ ≤ _; omega) (by show _ ≤ _; omega) (lw_ret hx hb hr hlocks hk.1))
set_option maxHeartbeats 4000000 in
theorem lw_walk (l : Launch) (hflags : l.flags = flags0) (b : Addr) (xs : List Int32) : MetFree l x (headSpec (Jvm.Cond.code x code maxLocals ret :: tables_1) room_1) (lw_P b xs) (fun _ _ _ _ _ => True) lw_Q := by
  refine MetFree.of_bodyS (code := code) (maxLocals := maxLocals) (ret := ret) (by decide) ?_ ?_
  · intro args s m h hn
    obtain ⟨meth, c, h1, h2, h3, h4, h5, h6, -, -⟩ := Cond.code_spec hn (atoms_spec (ws := Jvm.Cond.code x code maxLocals ret :: tables_1) h _ List.mem_cons_self)
    exact ⟨meth, c, h1, h2, h3, h4, h5, h6⟩
  · intro p e s m args below meth c s₁ B hml0 hP _
    obtain ⟨rfl, hx, hbd, hgv, hfit⟩ := hP
    obtain ⟨scr, harrAt, hlist, hof, hsmall⟩ := hx
    obtain ⟨hcb, hkn, -, -⟩ := State.arrayAt?_spec harrAt
    have hown : s.vm.findClass R_law = some m.cls := findClass_of_methodNamed B.named
    have hts0 : ∀ c ∈ (Jvm.Cond.code x code maxLocals ret :: tables_1), c.before #[Value.ref b] s = true := atoms_spec (ws := Jvm.Cond.code x code maxLocals ret :: tables_1) B.pre
    have hts : ∀ w ∈ lw_tbl, w.before #[Value.ref b] s = true := k2_hts_sels lw_privs (fun w hw => hts0 w (List.mem_cons_of_mem _ hw)) lw_privs_ok
    have hml : c.maxLocals = 4 := B.maxLocals_eq (hts0 _ List.mem_cons_self)
    have X₀ : Stand p l e room_1 s m #[Value.ref b] below meth c s₁ [] 0 0 := Stand.of_body B
    have hh0 : s₁.heap = s.heap := by rw [B.state]; rfl
    have hsz : scr.slots.size = xs.length := by rw [← Array.length_toList, hlist, List.length_map]
    have hval : ∀ j : Nat, j < xs.length → scr.slots[j]? = some (.int (xs.getD j 0)) := fun j hj => by
      rw [← Array.getElem?_toList, hlist]
      simp [hj]
    have hbl : b < s.heap.size := (Array.getElem?_eq_some_iff.mp hcb).1
    have hX : va_X b xs.length (fun j => xs.getD j 0) s s.heap := ⟨scr, hcb, hof, hkn, hsz, hval⟩
    have K : W p l e room_1 s m #[Value.ref b] below meth c s₁.heap [] 0 0 (lw_Z below #[Value.ref b] s) (entryFrame m ([Value.ref b] : List Value).toArray 4) := by
      rw [hh0]
      exact whole_start l hflags hbd ⟨B.exec, B.bytes, B.returns, hml, hown, hts, hX, hbl, B.notSynchronized, hgv, (name_of_methodNamed B.named B.method).1, hfit⟩
    obtain ⟨t, a1, o, b1, b2, b3⟩ := K s₁ rfl X₀
    exact ⟨t, o, a1, b1, b2, b3⟩
theorem lw_pre_spec {args : Array Value} {s : State} (hheap : heapFits s = true) (h : (Jvm.Cond.and given_1 narrow_1).before args s = true) (hr : rest_1_c.before args s = true) : ∃ (b : Addr) (xs : List Int32), lw_P b xs args s := by
  have hs := flat_of_before _ h
  have hq := flat_of_before _ hr
  have hc : (Cond.count 1).before args s = true := hs _ (by decide +kernel)
  have harr : (Cond.arrayOf (.arg 0) .int).before args s = true := hs _ (by decide +kernel)
  have hle : (Cond.le (.length (.arg 0)) (.int 4096)).before args s = true := hs _ (by decide +kernel)
  have hlen : (Cond.isInt (.length (.arg 0))).before args s = true := hq _ (by decide +kernel)
  have hall : (Cond.all (.arg 0) (.isInt (.elem (.arg 0) (.index 0)))).before args s = true := hq _ (by decide +kernel)
  obtain ⟨b, xs, hb, hx⟩ := State.ints_of_pre rfl harr hlen hall
  have hsm : xs.length < 2 ^ 31 := hx.choose_spec.2.2.2
  have hev : (Term.length (.arg 0)).eval args s none [] s = some (.int xs.length.toInt32) := hx.length_eval hb
  have hv := Cond.le_ints hev (show (Term.int 4096).eval args s none [] s = some (.int 4096) from rfl)
  have hd : xs.length.toInt32 ≤ 4096 := by
    simpa [Cond.before, Cond.holds, hv] using hle
  have hN : xs.length ≤ 4096 := (Int32.ofNat_le_ofNat hsm (by decide)).mp (show Int32.ofNat xs.length ≤ Int32.ofNat 4096 from hd)
  exact ⟨b, xs, Cond.one_arg hc (show args[0]? = some (.ref b) from hb), hx, hN, h, hheap⟩
theorem lw_comes (l : Launch) (hflags : l.flags = flags0) : Comes l x (Jvm.Cond.code x code maxLocals ret :: tables_1) room_1 (fun tb e args s => Calls_1 tb e args s ∧ rest_1 tb e args s ∧ Pre_1 tb e args s)
    (fun _ _ args s o t => lw_Q args s o t) := by
  intro p e ha hc hk s m args below hf hfit hheap happ hpre
  obtain ⟨b, xs, hP⟩ := lw_pre_spec hheap hpre.2.2 hpre.2.1
  obtain ⟨k, o, h1, h2, h3, hQ⟩ := lw_walk l hflags b xs p e ha hc hk s m args below hf ((Spec.applies_iff_loose hf).mp happ).1 hP trivial
  exact ⟨k, o, h1, h2, h3, hQ⟩
theorem lw_frame {s t : State} {o : Outcome} {args : Array Value} (h : Framed s o t [] 600000 7302250) :
    Framed s o t (fieldLocs frame_1_writes args s ++ arrayLocs frame_1_arrays args s ++ staticLocs frame_1_statics s) 600000 7302250 := h
theorem lw_limb (L : Cond) (hL : ∀ (args : Array Value) (s t : State), L.after args s (.returned (some (.int 1))) t = true) :
    ArmFor flags0 classFile x code maxLocals ret World_1 tables_1 room_1 Calls_1 rest_1 Pre_1
      (fun tb e a s o t => postC L tb e a s o t ∧ Framed s o t (fieldLocs frame_1_writes a s ++ arrayLocs frame_1_arrays a s ++ staticLocs frame_1_statics s) 600000 7302250) := by
  intro l hflags _ _ p e ha hc hk s m args below hf hfit hheap happ hpre
  obtain ⟨k, o, h1, h2, h3, rfl, hF⟩ := lw_comes l hflags p e ha hc hk s m args below hf hfit hheap happ hpre
  exact ⟨k, _, h1, h2, h3, hL args s _, lw_frame hF⟩
theorem i_vc : Claimed_1_1 ∧ Claimed_1_2 := ⟨lw_limb limb_1_1 (fun args s t => by simp [limb_1_1, Cond.after, Cond.holds, Cond.value]), lw_limb limb_1_2 (fun args s t => Cond.after_iff.mpr (by
  first | (rw [show limb_1_2 = Cond.eq .result (.int 1) from rfl, Cond.eq_ints (x := 1) (y := 1) rfl rfl]; simp; done) | (simp [limb_1_2, Cond.value, Term.eval]; done)))⟩
