/-! the heap and its abstract picture -/
def zXM : List (String × Nat × MethodName × String) := [("EngraversHouse", 45, ⟨"EngraversHouse$Layout", "<init>", "()V"⟩, "EngraversHouse"), ("EngraversHouse", 74, ⟨"EngraversHouse$PrintPlan", "<init>", "()V"⟩, "EngraversHouse"), ("EngraversHouse$Score", 57, ⟨"EngraversHouse", "lengthOf", "(I)I"⟩, "EngraversHouse"), ("EngraversHouse$Score", 64, ⟨"EngraversHouse$Bar", "<init>", "()V"⟩, "EngraversHouse"), ("EngraversHouse$Bar", 22, ⟨"EngraversHouse", "lengthOf", "(I)I"⟩, "EngraversHouse"), ("EngraversHouse$Part", 15, ⟨"EngraversHouse$Bar", "<init>", "()V"⟩, "EngraversHouse"), ("EngraversHouse$Part", 55, ⟨"EngraversHouse", "shifted", "(II)I"⟩, "EngraversHouse"), ("EngraversHouse$Bar", 30, ⟨"EngraversHouse", "isRest", "(I)Z"⟩, "EngraversHouse"), ("EngraversHouse$Plate", 38, ⟨"EngraversHouse$Bar", "<init>", "()V"⟩, "EngraversHouse"), ("EngraversHouse$Bar", 40, ⟨"EngraversHouse", "shifted", "(II)I"⟩, "EngraversHouse"), ("EngraversHouse$Edition", 65, ⟨"EngraversHouse", "within", "(III)Z"⟩, "EngraversHouse"), ("EngraversHouse$Edition", 84, ⟨"EngraversHouse$Bar", "<init>", "()V"⟩, "EngraversHouse"), ("EngraversHouse$Tour", 49, ⟨"EngraversHouse", "isTown", "(I)Z"⟩, "EngraversHouse"), ("EngraversHouse$Tour", 72, ⟨"EngraversHouse", "within", "(III)Z"⟩, "EngraversHouse")]
def zXC : List (String × String) := [("[I", "java/lang/Cloneable"), ("EngraversHouse$Score", "EngraversHouse$Thing"), ("EngraversHouse$Part", "EngraversHouse$Thing"), ("EngraversHouse$Plate", "EngraversHouse$Thing"), ("EngraversHouse$Edition", "EngraversHouse$Thing"), ("EngraversHouse$Erratum", "EngraversHouse$Thing")]
def zXO : List String := ["EngraversHouse$Thing", "EngraversHouse$Plate", "EngraversHouse$Contract", "EngraversHouse$Bar"]
def zXD : List MethodName := [⟨RX9, "scoreNumber", "()I"⟩, ⟨RX9, "second", "()I"⟩, ⟨RX9, "third", "()I"⟩]
def zA (b0 : Nat) : Nat → Prop := fun q => b0 ≤ q
def zrf (t : FieldType) : Bool := match t with
  | .object _ => true
  | .array _ => true
  | _ => false
def zfv (t : FieldType) (x : Int) : Value := if zint t = true then .int (Int32.ofInt x) else va_rf (zr2 x.toNat)
def zTA (dA : Nat → ClassId) : List (ClassId × FieldType) := [(dA 30, .int), (dA 31, .boolean), (dA 32, .byte), (dA 33, .object RX9), (dA 34, .object RX6), (dA 35, .object RX1), (dA 36, .object RX0), (dA 37, .array .int)]
def zcell (dA : Nat → ClassId) (h : zHp) (a : Nat) : va_E :=
  if ztg h a < 20 then .inr (ztg h a - 1, (List.range (zNf (ztg h a - 1))).map fun k => zfv (zTy (ztg h a - 1) k) (zct h a k))
  else .inl (dA (ztg h a), zln h a, if ztg h a < 33 then .inl (fun i => Int32.ofInt (zct h a i)) else .inr (.inr (.inr (.inr fun i => zr2 (zct h a i).toNat))))
def zws (dA : Nat → ClassId) (b0 : Nat) (h : zHp) : va_W := (List.range (znx h - b0)).map fun k => (b0 + k, zcell dA h (b0 + k + 1))
def zHR (D : va_G) (dA : Nat → ClassId) (b0 : Nat) (h : zHp) (H : Heap) : Prop := va_P D vwCl (zws dA b0 h) H ∧ H.size = znx h
theorem zws_at {dA : Nat → ClassId} {b0 : Nat} {h : zHp} {a : Nat} (h1 : b0 < a) (h2 : a ≤ znx h) : (zws dA b0 h)[a - 1 - b0]? = some (a - 1, zcell dA h a) := by
  unfold zws
  rw [List.getElem?_map, List.getElem?_range (by omega), Option.map_some, show b0 + (a - 1 - b0) = a - 1 by omega, show a - 1 + 1 = a by omega]
theorem zws_D (dA : Nat → ClassId) (b0 : Nat) (h : zHp) : va_D (zA b0) (zws dA b0 h) := by
  have key : ∀ (k : Nat) (q : Nat × va_E), (zws dA b0 h)[k]? = some q → q.1 = b0 + k := by
    intro k q hq
    have hk := (List.getElem?_eq_some_iff.mp hq).1
    unfold zws at hq hk
    rw [List.length_map, List.length_range] at hk
    rw [List.getElem?_map, List.getElem?_range hk, Option.map_some] at hq
    cases hq
    rfl
  refine ⟨fun i j p q hi hj e => ?_, fun k q hk => ?_⟩
  · have := key i p hi
    have := key j q hj
    omega
  · have := key k q hk
    unfold zA
    omega
theorem zws_upd {dA : Nat → ClassId} {b0 : Nat} {h h' : zHp} {a : Nat} (hn : znx h' = znx h) (h1 : b0 < a) (h2 : a ≤ znx h) (hq : ∀ q, q ≠ a → zcell dA h' q = zcell dA h q) : (zws dA b0 h).set (a - 1 - b0) (a - 1, zcell dA h' a) = zws dA b0 h' := by
  apply List.ext_getElem?
  intro k
  by_cases hk : k < znx h - b0
  · have e2 : (zws dA b0 h')[k]? = some (b0 + k, zcell dA h' (b0 + k + 1)) := by
      unfold zws
      rw [hn, List.getElem?_map, List.getElem?_range hk, Option.map_some]
    have e1 : (zws dA b0 h)[k]? = some (b0 + k, zcell dA h (b0 + k + 1)) := by
      unfold zws
      rw [List.getElem?_map, List.getElem?_range hk, Option.map_some]
    rw [e2]
    by_cases e : k = a - 1 - b0
    · subst e
      rw [List.getElem?_set_self (List.getElem?_eq_some_iff.mp e1).1, show b0 + (a - 1 - b0) = a - 1 by omega, show a - 1 + 1 = a by omega]
    · rw [List.getElem?_set_ne (Ne.symm e), e1, hq _ (by omega)]
  · rw [List.getElem?_eq_none, List.getElem?_eq_none]
    · unfold zws; rw [List.length_map, List.length_range]; omega
    · rw [List.length_set]; unfold zws; rw [List.length_map, List.length_range]; omega
theorem zws_push {dA : Nat → ClassId} {b0 : Nat} {h : zHp} (hb : b0 ≤ znx h) (t n : Nat) (f : Nat → Int) : zws dA b0 (zal h t n f) = zws dA b0 h ++ [(znx h, zcell dA (zal h t n f) (znx h + 1))] := by
  unfold zws
  rw [znx_al, show znx h + 1 - b0 = (znx h - b0) + 1 by omega, List.range_succ, List.map_append]
  congr 1
  · apply List.map_congr_left
    intro k hk
    have := List.mem_range.mp hk
    congr 1
    unfold zcell
    have hne : ¬ b0 + k + 1 = znx h + 1 := by omega
    simp only [ztg_al, zln_al, zct_al, hne, if_false]
  · simp only [List.map_cons, List.map_nil, show b0 + (znx h - b0) = znx h by omega]
theorem zcell_wr {dA : Nat → ClassId} {h : zHp} {a k : Nat} {v : Int} {q : Nat} (hq : q ≠ a) : zcell dA (zwr h a k v) q = zcell dA h q := by
  unfold zcell
  simp only [ztg_wr, zln_wr, zct_wr, hq, false_and, if_false]
theorem zcell_ob {dA : Nat → ClassId} {h : zHp} {a : Nat} (ht : ztg h a < 20) : zcell dA h a = .inr (ztg h a - 1, (List.range (zNf (ztg h a - 1))).map fun k => zfv (zTy (ztg h a - 1) k) (zct h a k)) := by
  unfold zcell; rw [if_pos ht]
theorem zcell_ai {dA : Nat → ClassId} {h : zHp} {a : Nat} (h1 : 20 ≤ ztg h a) (h2 : ztg h a < 33) : zcell dA h a = .inl (dA (ztg h a), zln h a, .inl (fun i => Int32.ofInt (zct h a i))) := by
  unfold zcell; rw [if_neg (by omega), if_pos h2]
theorem zcell_ar {dA : Nat → ClassId} {h : zHp} {a : Nat} (h1 : 33 ≤ ztg h a) : zcell dA h a = .inl (dA (ztg h a), zln h a, .inr (.inr (.inr (.inr fun i => zr2 (zct h a i).toNat)))) := by
  unfold zcell; rw [if_neg (by omega), if_neg (by omega)]
/-- the class of int[][] is there -/
def zAOA (U : State) : Prop := (Cond.arrayOver (.array .int)).before #[] U = true
theorem zAOA.use {A : Array Value} {U : State} (h : zAOA U) : (Cond.arrayOver (.array .int)).before A U = true := h
theorem zAOA.moved {u U : State} (hvm : u.vm.Alike U.vm) (h : zAOA u) : zAOA U := by
  unfold zAOA Cond.before Cond.holds at h ⊢
  simp only [Cond.value, beq_iff_eq] at h ⊢
  cases hc : u.vm.findClass (FieldType.array .int).toString with
  | none => simp [hc] at h
  | some comp =>
    simp only [hc, Option.bind_some, Option.bind_eq_some_iff, Option.map_eq_some_iff] at h
    obtain ⟨c, hi, k, hk, hb⟩ := h
    obtain ⟨k', hk', he⟩ := hvm.2.2 _ _ hk
    have hi0 := (va_idx_bare u.vm comp).trans hi
    have hb0 : U.vm.bare = u.vm.bare := by first | exact hvm.bare_eq | exact hvm.bare_eq.symm
    rw [← hb0] at hi0
    have hi' := (va_idx_bare U.vm comp).symm.trans hi0
    have f1 : U.vm.findClass (FieldType.array .int).toString = some comp := by rw [hvm.findClass]; exact hc
    have hkind : k'.kind = k.kind := by rw [he]
    simp only [f1, Option.bind_some, Option.bind_eq_some_iff, Option.map_eq_some_iff]
    refine ⟨c, hi', k', hk', ?_⟩
    rw [hkind, hvm.findClass]
    exact hb
/-- what stands of the start's own cells, at every state -/
def zStm (A : Nat → Prop) (U : State) (H : Heap) (E : Nat → Nat) : Prop :=
  (∀ k, k < 12 → ∃ q, E k = q + 1 ∧ vk_R RX1 (zSi.getD k (0, "")).1 (zSi.getD k (0, "")).2 q U) ∧
  va_Z "java/lang/String" "COMPACT_STRINGS" "Z" (.int 1) A U H ∧ va_Z "jdk/internal/util/Preconditions" "SIOOBE_FORMATTER" "Ljava/util/function/BiFunction;" (va_rf (zr2 (E 12))) A U H ∧
  va_Z RX11 "KIND_ABOVE" "[I" (va_rf (zr2 (E 13))) A U H ∧ va_Z RX11 "BODIES" "[I" (va_rf (zr2 (E 14))) A U H ∧
  (∀ c ∈ [2, 3, 5, 6, 8], ∀ t ∈ [2, 3, 5, 6, 8], c ≠ t → va_Nc (zRx c) (zRx t) U) ∧
  (∀ q ∈ zXM, va_Nw (.methodLinkNest q.1 q.2.1 q.2.2.1 q.2.2.2) U) ∧ (∀ q ∈ zXC, va_Nw (.castable q.1 q.2) U) ∧ ((∀ q ∈ zXO, va_AO q U) ∧ zAOA U) ∧ (∀ q ∈ zXD, va_Nw (.declares q) U)
def zCo (h : zHp) (A : Nat → Prop) (U : State) (H : Heap) : Prop := ∀ a,
  (ztg h a = 40 → va_T .int (a - 1) (zln h a) (fun j => .int (Int32.ofInt (zct h a j))) A U H) ∧
  (ztg h a = 41 → va_T .byte (a - 1) (zln h a) (fun j => .int (Int32.ofInt (zct h a j))) A U H) ∧
  (ztg h a = 50 → va_O "java/lang/String" (a - 1) A U H ∧ va_OF "java/lang/String" "coder" "B" (.int 0) (a - 1) A U H ∧ va_OF "java/lang/String" "value" "[B" (va_rf (zr2 (zct h a 0).toNat)) (a - 1) A U H)
theorem zStm.warm {A : Nat → Prop} {s U : State} {H H1 : Heap} {E : Nat → Nat} (hW : s.WarmedH U.vm) (hq : ∀ a : Nat, a < H.size → ¬ A a → H1[a]? = H[a]?) (h : zStm A s H E) : zStm A U H1 E := by
  obtain ⟨h1, h2, h3, h4, h5, h6, h7, h8, h9, h10⟩ := h
  have hal := hW.alike
  refine ⟨fun k hk => ?_, va_Z.moved hal (h2.kept hq), va_Z.moved hal (h3.kept hq), va_Z.moved hal (h4.kept hq), va_Z.moved hal (h5.kept hq), fun c hc t ht hn => va_Nc.moved hal (h6 c hc t ht hn), fun q hm => va_Nw.warmM hW (h7 q hm), fun q hm => va_Nw.warmC hW (h8 q hm), ⟨fun q hm => va_AO.moved hal (h9.1 q hm), zAOA.moved hal h9.2⟩, fun q hm => va_Nw.warmD hW (h10 q hm)⟩
  obtain ⟨q, e, hr⟩ := h1 k hk
  exact ⟨q, e, vk_R.warm hW hr⟩
theorem va_T_moved {ty : FieldType} {t N : Nat} {f : Nat → Value} {A : Nat → Prop} {u U : State} {H H1 : Heap} (hvm : u.vm.Alike U.vm) (hq : ∀ a : Nat, a < H.size → ¬ A a → H1[a]? = H[a]?) (h : va_T ty t N f A u H) : va_T ty t N f A U H1 := by
  obtain ⟨cell, h1, h2, h3⟩ := h
  exact ⟨cell, by rw [hq t (Array.getElem?_eq_some_iff.mp h1).1 h3.2.2.2.2]; exact h1, State.isArrayOf_alike hvm h2, h3⟩
theorem zCo.warm {h : zHp} {A : Nat → Prop} {s U : State} {H H1 : Heap} (hal : s.vm.Alike U.vm) (hq : ∀ a : Nat, a < H.size → ¬ A a → H1[a]? = H[a]?) (hc : zCo h A s H) : zCo h A U H1 := fun a =>
  ⟨fun e => va_T_moved hal hq ((hc a).1 e), fun e => va_T_moved hal hq ((hc a).2.1 e), fun e => ⟨va_O.moved hal (((hc a).2.2 e).1.kept hq), va_OF.moved hal (((hc a).2.2 e).2.1.kept hq), va_OF.moved hal (((hc a).2.2 e).2.2.kept hq)⟩⟩
theorem zCo.good {h h' : zHp} {A : Nat → Prop} {U : State} {H : Heap} (hg : zgood h h') (hc : zCo h A U H) : zCo h' A U H := by
  intro a
  have key : 40 ≤ ztg h' a → ztg h' a = ztg h a ∧ zln h' a = zln h a ∧ ∀ k, zct h' a k = zct h a k := fun e => hg.2.2 a (Or.inr e)
  refine ⟨fun e => ?_, fun e => ?_, fun e => ?_⟩
  · obtain ⟨k1, k2, k3⟩ := key (by omega)
    simp only [k2, k3]
    exact (hc a).1 (by rw [← k1]; exact e)
  · obtain ⟨k1, k2, k3⟩ := key (by omega)
    simp only [k2, k3]
    exact (hc a).2.1 (by rw [← k1]; exact e)
  · obtain ⟨k1, k2, k3⟩ := key (by omega)
    simp only [k3]
    exact (hc a).2.2 (by rw [← k1]; exact e)
theorem zi_clamp {j : Int} (h0 : 0 ≤ j) (h : zR32 j) : (Int32.ofInt j).toNatClampNeg = j.toNat := by
  have e : (Int32.ofInt j).toInt = j := Int32.toInt_ofInt_of_le (by have := h.1; omega) (by have := h.2; omega)
  show (Int32.ofInt j).toInt.toNat = j.toNat
  rw [e]
theorem zi_in {j : Int} {n : Nat} (h0 : 0 ≤ j) (h1 : j < (n : Int)) (h : zR32 j) : vp_in (Int32.ofInt j) n := by
  rintro (q | q)
  · have := (zi_lt h (⟨by omega, by omega⟩ : zR32 0)).mp q
    omega
  · rw [zi_clamp h0 h] at q
    omega
theorem zfv_rf {t : FieldType} (h : zrf t = true) (x : Int) : zfv t x = va_rf (zr2 x.toNat) := by
  unfold zfv
  cases t <;> first | rfl | cases h
theorem zfv_in {t : FieldType} (h : zint t = true) (x : Int) : zfv t x = .int (Int32.ofInt x) := by
  unfold zfv
  rw [if_pos h]
theorem znar_rf {t : FieldType} (h : zrf t = true) (r : Option Nat) : narrow t (va_rf r) = va_rf r ∧ fits t (va_rf r) = true := by
  cases t <;> first | (cases h; done) | (cases r <;> exact ⟨rfl, rfl⟩)
