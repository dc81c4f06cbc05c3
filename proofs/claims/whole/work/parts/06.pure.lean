/-! what the abstract machine keeps: numbers within their sorts, the heap's tags -/
def zR32 (x : Int) : Prop := -2147483648 ≤ x ∧ x < 2147483648
def zR64 (x : Int) : Prop := -9223372036854775808 ≤ x ∧ x < 9223372036854775808
theorem zr_i (x : Int32) : zR32 x.toInt := by
  have h1 := Int32.le_toInt x
  have h2 := Int32.toInt_lt x
  constructor <;> omega
theorem zr_l (x : Int64) : zR64 x.toInt := by
  have h1 := Int64.le_toInt x
  have h2 := Int64.toInt_lt x
  constructor <;> omega
def zokV : zAV → Prop
  | .inl x => zR32 x
  | .inr (.inl x) => zR64 x
  | .inr (.inr _) => True
def zokS (st : List zAV) : Prop := ∀ v ∈ st, zokV v
def zokL (L : zLo) : Prop := ∀ v, some v ∈ L → zokV v
def zint (t : FieldType) : Bool := match t with
  | .int => true
  | .boolean => true
  | .byte => true
  | _ => false
/-- is place k of a cell of tag t a whole number? -/
def zis (t k : Nat) : Bool := if t < 20 then zint (zTy (t - 1) k) else (t == 30 || t == 31 || t == 32 || t == 40 || t == 41)
def zgrp (c : Nat) : List Nat := if c = 20 then [3, 4, 6, 7, 9] else [c + 1]
theorem zgrp_of {c t : Nat} (h : zisA c t = true) : t ∈ zgrp c := by
  unfold zisA at h
  unfold zgrp
  split at h
  · rename_i hc
    rw [if_pos hc]
    simp only [Bool.or_eq_true, beq_iff_eq] at h
    simp only [List.mem_cons, List.not_mem_nil, or_false]
    omega
  · rename_i hc
    rw [if_neg hc]
    simp only [beq_iff_eq] at h
    simp [h]
def zq32 (v : Int) : Bool := decide (-2147483648 ≤ v) && decide (v < 2147483648)
def zq64 (v : Int) : Bool := decide (-9223372036854775808 ≤ v) && decide (v < 9223372036854775808)
theorem zq32_of {v : Int} (h : zq32 v = true) : zR32 v := by
  simp only [zq32, Bool.and_eq_true, decide_eq_true_eq] at h
  exact h
theorem zq64_of {v : Int} (h : zq64 v = true) : zR64 v := by
  simp only [zq64, Bool.and_eq_true, decide_eq_true_eq] at h
  exact h
/-- what must stand of an instruction that sorts stay right -/
def zsc (i : zMI) : Bool := match i with
  | (1, _, _, _, v, _) => zq32 v
  | (2, _, _, _, v, _) => zq64 v
  | (79, _, _, _, v, _) => zq32 v
  | (60, _, c, k, _, _) => (zgrp c).all fun t => zis t k
  | (64, _, c, k, _, _) => (zgrp c).all fun t => !zis t k
  | (73, _, c, n, _, _) => decide (c < 12) && decide (n ≤ 100000)
  | (74, _, t, _, _, _) => t == 30 || t == 31 || t == 32
  | (75, _, t, _, _, _) => t == 33 || t == 34 || t == 35 || t == 36
  | _ => true
theorem zokS_tail {v : zAV} {st : List zAV} (h : zokS (v :: st)) : zokS st := fun w hw => h w (List.mem_cons_of_mem _ hw)
theorem zokS_head {v : zAV} {st : List zAV} (h : zokS (v :: st)) : zokV v := h v List.mem_cons_self
theorem zokS_cons {v : zAV} {st : List zAV} (hv : zokV v) (h : zokS st) : zokS (v :: st) := fun w hw => (List.mem_cons.mp hw).elim (fun e => e ▸ hv) (h w)
theorem zokL_ld {L : zLo} (h : zokL L) {a : Nat} {v : zAV} (e : zld L a = some v) : zokV v := by
  unfold zld at e
  cases hq : L[a]? with
  | none => rw [hq] at e; cases e
  | some q =>
    rw [hq] at e
    have : q = some v := e
    subst this
    exact h v (List.mem_of_getElem? hq)
theorem zokL_set {L : zLo} (h : zokL L) {a : Nat} {o : Option zAV} (ho : ∀ v, o = some v → zokV v) : zokL (L.set a o) := by
  intro v hv
  rcases List.mem_or_eq_of_mem_set hv with h1 | h1
  · exact h v h1
  · exact ho v h1.symm
theorem zokL_pre {L : zLo} (h : zokL L) (a : Nat) : zokL (zpre L a) := by
  unfold zpre
  split
  · exact h
  · split
    · exact zokL_set h (fun v hv => by cases hv)
    · exact h
theorem zokL_st1 {L : zLo} (h : zokL L) (a : Nat) {v : zAV} (hv : zokV v) : zokL (zst1 L a v) := zokL_set (zokL_pre h a) (fun w hw => by cases hw; exact hv)
theorem zokL_st2 {L : zLo} (h : zokL L) (a : Nat) {v : zAV} (hv : zokV v) : zokL (zst2 L a v) := zokL_set (zokL_set (zokL_pre h a) (fun w hw => by cases hw; exact hv)) (fun w hw => by cases hw)
theorem zr_max {x y : Int} (h1 : zR32 x) (h2 : zR32 y) : zR32 (zmax x y) := by unfold zmax; split <;> assumption
theorem zr_min {x y : Int} (h1 : zR32 x) (h2 : zR32 y) : zR32 (zmin x y) := by unfold zmin; split <;> assumption
set_option maxHeartbeats 4000000 in
theorem zps_ok {i : zMI} {L L' : zLo} {st st' : List zAV} (hc : zsc i = true) (hL : zokL L) (hs : zokS st) (h : zps i L st = some (L', st')) : zokL L' ∧ zokS st' := by
  unfold zps at h
  split at h <;> (try (split at h)) <;> (try (split at h)) <;> (try (cases h; done)) <;> simp only [Option.some.injEq, Prod.mk.injEq, reduceCtorEq] at h <;> obtain ⟨rfl, rfl⟩ := h
  all_goals first
    | exact ⟨hL, zokS_cons (zq32_of hc) hs⟩
    | exact ⟨hL, zokS_cons (zq64_of hc) hs⟩
    | exact ⟨hL, zokS_cons trivial hs⟩
    | exact ⟨hL, zokS_cons (zokL_ld hL (by assumption)) hs⟩
    | exact ⟨zokL_st1 hL _ (zokS_head hs), zokS_tail hs⟩
    | exact ⟨zokL_st2 hL _ (zokS_head hs), zokS_tail hs⟩
    | exact ⟨zokL_st1 hL _ (zr_i _), hs⟩
    | exact ⟨hL, zokS_cons (zr_i _) (zokS_tail (zokS_tail hs))⟩
    | exact ⟨hL, zokS_cons (zr_i _) (zokS_tail hs)⟩
    | exact ⟨hL, zokS_cons (zr_l _) (zokS_tail (zokS_tail hs))⟩
    | exact ⟨hL, zokS_cons (zr_l _) (zokS_tail hs)⟩
    | exact ⟨hL, zokS_cons (zr_max (zokS_head (zokS_tail hs)) (zokS_head hs)) (zokS_tail (zokS_tail hs))⟩
    | exact ⟨hL, zokS_cons (zr_min (zokS_head (zokS_tail hs)) (zokS_head hs)) (zokS_tail (zokS_tail hs))⟩
    | exact ⟨hL, zokS_cons (zokS_head hs) hs⟩
    | exact ⟨hL, zokS_cons (zokS_head hs) (zokS_cons (zokS_head (zokS_tail hs)) hs)⟩
    | exact ⟨hL, zokS_tail hs⟩
theorem zbr_ok {i : zMI} {o : Option Nat} {st st' : List zAV} (hs : zokS st) (h : zbr i st = some (o, st')) : zokS st' := by
  unfold zbr at h
  split at h <;> simp only [Option.some.injEq, Prod.mk.injEq, reduceCtorEq] at h <;> obtain ⟨-, rfl⟩ := h
  all_goals first
    | exact zokS_tail (zokS_tail hs)
    | exact zokS_tail hs
    | exact hs
