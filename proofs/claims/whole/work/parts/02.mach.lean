/-! the outer row of int[][] (it names the rest of the library: here at the head, so that every round is read over the whole of it at once) -/
theorem vr_outer (c : ClassId) (N h0 : Nat) : ∀ i : Nat, Jvm.Free.Multi.outerC c N h0 i = arrV c N (fun j => va_rf (if j < i then some (h0 + 1 + j) else none))
  | 0 => by
    show ({ cls := c, slots := Array.replicate N .null, vm := .none } : Cell) = _
    rw [arrV_new]
    refine congrArg (arrV c N) (funext fun j => ?_)
    simp [va_rf]
  | i + 1 => by
    show (Jvm.Free.Multi.outerC c N h0 i).setSlot i (.ref (h0 + 1 + i)) = _
    rw [vr_outer c N h0 i, arrV_store]
    refine congrArg (arrV c N) (funext fun j => ?_)
    by_cases e : j = i
    · subst e
      simp [updV, va_rf]
    · by_cases h : j < i
      · simp [updV, e, h, Nat.lt_succ_of_lt h]
      · simp [updV, e, h, show ¬ j < i + 1 by omega]
/-! AN ABSTRACT MACHINE over whole numbers: a value is an int, a long or a cell's number plus one (0: null); the heap is tags, lengths, contents, how many cells, how many slots -/
abbrev zAV : Type := Int ⊕ (Int ⊕ Nat)
abbrev zLo : Type := List (Option zAV)
abbrev zHp : Type := (Nat → Nat) × (Nat → Nat) × (Nat → Nat → Int) × Nat × Nat
/-- an instruction: its kind, its place, two numbers, a whole number, a table -/
abbrev zMI : Type := Nat × Nat × Nat × Nat × Int × List (Int × Nat)
def ztg (h : zHp) (a : Nat) : Nat := h.1 a
def zln (h : zHp) (a : Nat) : Nat := h.2.1 a
def zct (h : zHp) (a k : Nat) : Int := h.2.2.1 a k
def znx (h : zHp) : Nat := h.2.2.2.1
def zus (h : zHp) : Nat := h.2.2.2.2
def zwr (h : zHp) (a k : Nat) (v : Int) : zHp := (h.1, h.2.1, fun a' k' => if a' = a ∧ k' = k then v else h.2.2.1 a' k', h.2.2.2)
def zal (h : zHp) (t n : Nat) (f : Nat → Int) : zHp := (fun a => if a = znx h + 1 then t else h.1 a, fun a => if a = znx h + 1 then n else h.2.1 a, fun a k => if a = znx h + 1 then f k else h.2.2.1 a k, znx h + 1, zus h + n)
/-- n items of a's row from sp on come to b's row from dp on -/
def zcp (h : zHp) (a sp b dp n : Nat) : zHp := (h.1, h.2.1, fun a' k' => if a' = b ∧ dp ≤ k' ∧ k' < dp + n then h.2.2.1 a (sp + (k' - dp)) else h.2.2.1 a' k', h.2.2.2)
def zadd (x y : Int) : Int := (Int32.ofInt x + Int32.ofInt y).toInt
def zsub (x y : Int) : Int := (Int32.ofInt x - Int32.ofInt y).toInt
def zmul (x y : Int) : Int := (Int32.ofInt x * Int32.ofInt y).toInt
def zdiv (x y : Int) : Int := (Int32.ofInt x / Int32.ofInt y).toInt
def zrem (x y : Int) : Int := (Int32.ofInt x - Int32.ofInt x / Int32.ofInt y * Int32.ofInt y).toInt
def zmax (x y : Int) : Int := if x < y then y else x
def zmin (x y : Int) : Int := if y < x then y else x
def zneg (x : Int) : Int := (- Int32.ofInt x).toInt
def zshl (x y : Int) : Int := (Int32.ofInt x <<< (Int32.ofInt y &&& 31)).toInt
def zshr (x y : Int) : Int := (Int32.ofInt x >>> (Int32.ofInt y &&& 31)).toInt
def zushr (x y : Int) : Int := ((Int32.ofInt x).toUInt32 >>> ((Int32.ofInt y).toUInt32 &&& Int32.toUInt32 31)).toInt32.toInt
def zand (x y : Int) : Int := (Int32.ofInt x &&& Int32.ofInt y).toInt
def zor (x y : Int) : Int := (Int32.ofInt x ||| Int32.ofInt y).toInt
def zxor (x y : Int) : Int := (Int32.ofInt x ^^^ Int32.ofInt y).toInt
def zi2l (x : Int) : Int := (Int32.ofInt x).toInt64.toInt
def zl2i (x : Int) : Int := (Int64.ofInt x).toInt32.toInt
def zi2b (x : Int) : Int := ((Int32.ofInt x).toInt8.toInt32).toInt
def zi2s (x : Int) : Int := ((Int32.ofInt x).toInt16.toInt32).toInt
def zi2c (x : Int) : Int := (((Int32.ofInt x).toUInt32 % 65536).toInt32).toInt
def zladd (x y : Int) : Int := (Int64.ofInt x + Int64.ofInt y).toInt
def zlmul (x y : Int) : Int := (Int64.ofInt x * Int64.ofInt y).toInt
def zldiv (x y : Int) : Int := (Int64.ofInt x / Int64.ofInt y).toInt
def zlcmp (x y : Int) : Int := (lg_cmp (Int64.ofInt x) (Int64.ofInt y)).toInt
def zld (L : zLo) (a : Nat) : Option zAV := (L[a]?).join
/-- a long whose second half is written over is gone -/
def zpre (L : zLo) (a : Nat) : zLo := match a with
  | 0 => L
  | b + 1 => match zld L b with
    | some (.inr (.inl _)) => L.set b none
    | _ => L
def zst1 (L : zLo) (a : Nat) (v : zAV) : zLo := (zpre L a).set a (some v)
def zst2 (L : zLo) (a : Nat) (v : zAV) : zLo := ((zpre L a).set a (some v)).set (a + 1) none
/-- what works on locals and the stack alone -/
def zps (i : zMI) (L : zLo) (st : List zAV) : Option (zLo × List zAV) := match i, st with
  | (1, _, _, _, v, _), st => some (L, .inl v :: st)
  | (2, _, _, _, v, _), st => some (L, .inr (.inl v) :: st)
  | (3, _, _, _, _, _), st => some (L, .inr (.inr 0) :: st)
  | (4, _, a, _, _, _), st => match zld L a with
    | some (.inl x) => some (L, .inl x :: st)
    | _ => none
  | (5, _, a, _, _, _), st => match zld L a with
    | some (.inr (.inl x)) => some (L, .inr (.inl x) :: st)
    | _ => none
  | (6, _, a, _, _, _), st => match zld L a with
    | some (.inr (.inr x)) => some (L, .inr (.inr x) :: st)
    | _ => none
  | (7, _, a, _, _, _), .inl x :: st => if a < L.length then some (zst1 L a (.inl x), st) else none
  | (8, _, a, _, _, _), .inr (.inl x) :: st => if a + 1 < L.length then some (zst2 L a (.inr (.inl x)), st) else none
  | (9, _, a, _, _, _), .inr (.inr x) :: st => if a < L.length then some (zst1 L a (.inr (.inr x)), st) else none
  | (10, _, a, _, v, _), st => match zld L a with
    | some (.inl x) => if a < L.length then some (zst1 L a (.inl (zadd x v)), st) else none
    | _ => none
  | (11, _, _, _, _, _), .inl y :: .inl x :: st => some (L, .inl (zadd x y) :: st)
  | (12, _, _, _, _, _), .inl y :: .inl x :: st => some (L, .inl (zsub x y) :: st)
  | (13, _, _, _, _, _), .inl y :: .inl x :: st => some (L, .inl (zmul x y) :: st)
  | (16, _, _, _, _, _), .inl x :: st => some (L, .inl (zneg x) :: st)
  | (17, _, _, _, _, _), .inl y :: .inl x :: st => some (L, .inl (zshl x y) :: st)
  | (18, _, _, _, _, _), .inl y :: .inl x :: st => some (L, .inl (zshr x y) :: st)
  | (19, _, _, _, _, _), .inl y :: .inl x :: st => some (L, .inl (zushr x y) :: st)
  | (20, _, _, _, _, _), .inl y :: .inl x :: st => some (L, .inl (zand x y) :: st)
  | (21, _, _, _, _, _), .inl y :: .inl x :: st => some (L, .inl (zor x y) :: st)
  | (22, _, _, _, _, _), .inl y :: .inl x :: st => some (L, .inl (zxor x y) :: st)
  | (23, _, _, _, _, _), .inl x :: st => some (L, .inr (.inl (zi2l x)) :: st)
  | (24, _, _, _, _, _), .inr (.inl x) :: st => some (L, .inl (zl2i x) :: st)
  | (25, _, _, _, _, _), .inl x :: st => some (L, .inl (zi2b x) :: st)
  | (26, _, _, _, _, _), .inl x :: st => some (L, .inl (zi2s x) :: st)
  | (27, _, _, _, _, _), .inl x :: st => some (L, .inl (zi2c x) :: st)
  | (28, _, _, _, _, _), .inr (.inl y) :: .inr (.inl x) :: st => some (L, .inr (.inl (zladd x y)) :: st)
  | (29, _, _, _, _, _), .inr (.inl y) :: .inr (.inl x) :: st => some (L, .inr (.inl (zlmul x y)) :: st)
  | (31, _, _, _, _, _), .inr (.inl y) :: .inr (.inl x) :: st => some (L, .inl (zlcmp x y) :: st)
  | (32, _, _, _, _, _), .inl x :: st => some (L, .inl x :: .inl x :: st)
  | (33, _, _, _, _, _), .inr (.inr x) :: st => some (L, .inr (.inr x) :: .inr (.inr x) :: st)
  | (34, _, _, _, _, _), .inl y :: .inr (.inr x) :: st => some (L, .inl y :: .inr (.inr x) :: .inl y :: .inr (.inr x) :: st)
  | (35, _, _, _, _, _), .inl _ :: st => some (L, st)
  | (36, _, _, _, _, _), .inl y :: .inl x :: st => if st.length ≤ 4 then some (L, .inl (zmax x y) :: st) else none
  | (37, _, _, _, _, _), .inl y :: .inl x :: st => if st.length ≤ 4 then some (L, .inl (zmin x y) :: st) else none
  | (14, _, _, _, _, _), .inl y :: .inl x :: st => if y = 0 then none else some (L, .inl (zdiv x y) :: st)
  | (15, _, _, _, _, _), .inl y :: .inl x :: st => if y = 0 then none else some (L, .inl (zrem x y) :: st)
  | (30, _, _, _, _, _), .inr (.inl y) :: .inr (.inl x) :: st => if y = 0 then none else some (L, .inr (.inl (zldiv x y)) :: st)
  | _, _ => none
def zsw : List (Int × Nat) → Nat → Int → Nat
  | [], a, _ => a
  | q :: r, a, x => if x = q.1 then q.2 else zsw r a x
/-- where it goes on (none: behind it) -/
def zbr (i : zMI) (st : List zAV) : Option (Option Nat × List zAV) := match i, st with
  | (40, _, a, _, _, _), .inl x :: st => some (if x = 0 then some a else none, st)
  | (41, _, a, _, _, _), .inl x :: st => some (if x = 0 then none else some a, st)
  | (42, _, a, _, _, _), .inl x :: st => some (if x < 0 then some a else none, st)
  | (43, _, a, _, _, _), .inl x :: st => some (if x < 0 then none else some a, st)
  | (44, _, a, _, _, _), .inl x :: st => some (if 0 < x then some a else none, st)
  | (45, _, a, _, _, _), .inl x :: st => some (if 0 < x then none else some a, st)
  | (46, _, a, _, _, _), .inl y :: .inl x :: st => some (if x = y then some a else none, st)
  | (47, _, a, _, _, _), .inl y :: .inl x :: st => some (if x = y then none else some a, st)
  | (48, _, a, _, _, _), .inl y :: .inl x :: st => some (if x < y then some a else none, st)
  | (49, _, a, _, _, _), .inl y :: .inl x :: st => some (if x < y then none else some a, st)
  | (50, _, a, _, _, _), .inl y :: .inl x :: st => some (if y < x then some a else none, st)
  | (51, _, a, _, _, _), .inl y :: .inl x :: st => some (if y < x then none else some a, st)
  | (52, _, a, _, _, _), .inr (.inr y) :: .inr (.inr x) :: st => some (if x = y then some a else none, st)
  | (53, _, a, _, _, _), .inr (.inr y) :: .inr (.inr x) :: st => some (if x = y then none else some a, st)
  | (54, _, a, _, _, _), .inr (.inr x) :: st => some (if x = 0 then some a else none, st)
  | (55, _, a, _, _, _), .inr (.inr x) :: st => some (if x = 0 then none else some a, st)
  | (56, _, a, _, _, _), st => some (some a, st)
  | (57, _, a, _, _, _), st => some (some a, st)
  | (58, _, a, _, _, tb), .inl x :: st => some (some (zsw tb a x), st)
  | (59, _, a, _, _, tb), .inl x :: st => some (some (zsw tb a x), st)
  | _, _ => none
/-- is a cell of tag t one of kind c? (20: what is under Thing) -/
def zisA (c t : Nat) : Bool := if c = 20 then (t == 3 || t == 4 || t == 6 || t == 7 || t == 9) else t == c + 1
/-- may a row of tag t hold a cell of tag u? -/
def zmay (t u : Nat) : Bool := (t == 33 && zisA 20 u) || (t == 34 && u == 7) || (t == 35 && u == 2) || (t == 36 && u == 1)
/-- what reads and writes the heap; E: the cells that are there from the start (constants, rows of classes) -/
def zhp (E : Nat → Nat) (i : zMI) (st : List zAV) (h : zHp) : Option (List zAV × zHp) := match i, st with
  | (60, _, c, k, _, _), .inr (.inr r) :: st => if zisA c (ztg h r) = true then some (.inl (zct h r k) :: st, h) else none
  | (61, _, c, k, _, _), .inr (.inr r) :: st => if zisA c (ztg h r) = true then some (.inr (.inr (zct h r k).toNat) :: st, h) else none
  | (62, _, c, k, _, _), .inl v :: .inr (.inr r) :: st => if zisA c (ztg h r) = true then some (st, zwr h r k v) else none
  | (63, _, c, k, _, _), .inl v :: .inr (.inr r) :: st => if zisA c (ztg h r) = true ∧ (v = 0 ∨ v = 1) then some (st, zwr h r k v) else none
  | (64, _, c, k, _, _), .inr (.inr v) :: .inr (.inr r) :: st => if zisA c (ztg h r) = true then some (st, zwr h r k (v : Int)) else none
  | (65, _, _, _, _, _), .inl j :: .inr (.inr r) :: st => if (ztg h r = 30 ∨ ztg h r = 40) ∧ 0 ≤ j ∧ j < (zln h r : Int) then some (.inl (zct h r j.toNat) :: st, h) else none
  | (66, _, _, _, _, _), .inl j :: .inr (.inr r) :: st => if (ztg h r = 31 ∨ ztg h r = 32 ∨ ztg h r = 41) ∧ 0 ≤ j ∧ j < (zln h r : Int) then some (.inl (zct h r j.toNat) :: st, h) else none
  | (67, _, _, _, _, _), .inl j :: .inr (.inr r) :: st => if (33 ≤ ztg h r ∧ ztg h r ≤ 37) ∧ 0 ≤ j ∧ j < (zln h r : Int) then some (.inr (.inr (zct h r j.toNat).toNat) :: st, h) else none
  | (68, _, _, _, _, _), .inl v :: .inl j :: .inr (.inr r) :: st => if ztg h r = 30 ∧ 0 ≤ j ∧ j < (zln h r : Int) then some (st, zwr h r j.toNat v) else none
  | (69, _, _, _, _, _), .inl v :: .inl j :: .inr (.inr r) :: st => if ztg h r = 31 ∧ (v = 0 ∨ v = 1) ∧ 0 ≤ j ∧ j < (zln h r : Int) then some (st, zwr h r j.toNat v) else none
  | (70, _, _, _, _, _), .inl v :: .inl j :: .inr (.inr r) :: st => if ztg h r = 32 ∧ 0 ≤ j ∧ j < (zln h r : Int) then some (st, zwr h r j.toNat (zi2b v)) else none
  | (71, _, _, _, _, _), .inr (.inr v) :: .inl j :: .inr (.inr r) :: st => if (zmay (ztg h r) (ztg h v) = true) ∧ 0 ≤ j ∧ j < (zln h r : Int) then some (st, zwr h r j.toNat (v : Int)) else none
  | (72, _, _, _, _, _), .inr (.inr r) :: st => if 30 ≤ ztg h r ∧ ztg h r ≤ 41 then some (.inl (zln h r : Int) :: st, h) else none
  | (73, _, c, n, _, _), st => some (.inr (.inr (znx h + 1)) :: st, zal h (c + 1) n (fun _ => 0))
  | (74, _, t, _, _, _), .inl n :: st => if 0 ≤ n ∧ n ≤ 100000 then some (.inr (.inr (znx h + 1)) :: st, zal h t n.toNat (fun _ => 0)) else none
  | (75, _, t, _, _, _), .inl n :: st => if 0 ≤ n ∧ n ≤ 100000 then some (.inr (.inr (znx h + 1)) :: st, zal h t n.toNat (fun _ => 0)) else none
  | (77, _, c, _, _, _), .inr (.inr r) :: st => if r = 0 ∨ zisA 20 (ztg h r) = true then some (.inl (if zisA c (ztg h r) = true then 1 else 0) :: st, h) else none
  | (78, _, c, _, _, _), .inr (.inr r) :: st => if zisA c (ztg h r) = true then some (.inr (.inr r) :: st, h) else none
  | (79, _, _, _, v, _), st => some (.inl v :: st, h)
  | (80, _, a, _, _, _), st => some (.inr (.inr (E a)) :: st, h)
  | (81, _, a, _, _, _), st => some (.inr (.inr (E a)) :: st, h)
  | (82, _, _, _, _, _), .inr (.inr r) :: st => if r = 0 ∨ 8 < st.length then none else some (st, h)
  | (83, _, _, _, _, _), .inl n :: .inl dp :: .inr (.inr b) :: .inl sp :: .inr (.inr a) :: st => if ztg h a = 30 ∧ ztg h b = 30 ∧ 0 ≤ sp ∧ 0 ≤ dp ∧ 0 ≤ n ∧ sp + n ≤ (zln h a : Int) ∧ dp + n ≤ (zln h b : Int) ∧ st.length ≤ 4 then some (st, zcp h a sp.toNat b dp.toNat n.toNat) else none
  | (84, _, _, _, _, _), .inr (.inr r) :: st => if ztg h r = 30 ∧ st.length ≤ 4 then some (.inr (.inr (znx h + 1)) :: st, zal h 30 (zln h r) (fun k => zct h r k)) else none
  | (85, _, _, _, _, _), .inr (.inr r) :: st => if ztg h r = 30 then some (.inr (.inr r) :: st, h) else none
  | (86, _, _, _, _, _), .inr (.inr r) :: st => if ztg h r = 50 then some (.inr (.inr (zct h r 0).toNat) :: st, h) else none
  | (87, _, _, _, _, _), .inr (.inr r) :: st => if ztg h r = 50 then some (.inl 0 :: st, h) else none
  | (76, _, _, _, _, _), .inl k :: .inl n :: st => if 0 ≤ n ∧ n ≤ 10 ∧ 0 ≤ k ∧ k ≤ 100000 then some (.inr (.inr (znx h + 1)) :: st, (List.range n.toNat).foldl (fun g _ => zal g 30 k.toNat (fun _ => 0)) (zal h 37 n.toNat (fun j => if j < n.toNat then ((znx h + 2 + j : Nat) : Int) else 0))) else none
  | _, _ => none
def zlong : zAV → Bool
  | .inr (.inl _) => true
  | _ => false
def zargs : List zAV → zLo
  | [] => []
  | v :: vs => if zlong v = true then some v :: none :: zargs vs else some v :: zargs vs
def zent (mx : Nat) (vs : List zAV) : zLo := zargs vs ++ List.replicate (mx - (zargs vs).length) none
/-- which method a call runs, with how many numbers (its own cell too), how many locals -/
def zcall (i : zMI) (st : List zAV) (h : zHp) : Option (Nat × Nat × Nat) := match i with
  | (90, _, m, n, mx, _) => some (m, n, mx.toNat)
  | (91, _, m, n, mx, _) => match (st.take n).reverse with
    | .inr (.inr r) :: _ => if 0 < r then some (m, n, mx.toNat) else none
    | _ => none
  | (92, _, m, n, mx, tb) => match (st.take n).reverse with
    | .inr (.inr r) :: _ => if (tb.any fun q => zisA q.2 (ztg h r)) = true then some (m, n, mx.toNat) else none
    | _ => none
  | (93, _, _, n, mx, tb) => match (st.take n).reverse with
    | .inr (.inr r) :: _ => match tb.find? (fun q => q.1 == (ztg h r : Int)) with
      | some q => some (q.2, n, mx.toNat)
      | none => none
    | _ => none
  | _ => none
/-- what a method's end answers -/
def zrt (i : zMI) (st : List zAV) : Option (Option zAV) := match i, st with
  | (95, _, _, _, _, _), [.inl x] => some (some (.inl x))
  | (96, _, _, _, _, _), [.inl x] => if x = 0 ∨ x = 1 then some (some (.inl x)) else none
  | (97, _, _, _, _, _), [.inl x] => if 0 ≤ x ∧ x < 65536 then some (some (.inl x)) else none
  | (98, _, _, _, _, _), [.inl x] => if -128 ≤ x ∧ x < 128 then some (some (.inl x)) else none
  | (99, _, _, _, _, _), [.inr (.inl x)] => some (some (.inr (.inl x)))
  | (100, _, _, _, _, _), [.inr (.inr x)] => some (some (.inr (.inr x)))
  | (101, _, _, _, _, _), [] => some none
  | _, _ => none
def zpush : Option zAV → List zAV → List zAV
  | none, st => st
  | some v, st => v :: st
/-- the machine: n steps at most, calls d deep at most; B: the blocks of a method -/
def zexec (E : Nat → Nat) (B : Nat → Nat → List zMI) : Nat → Nat → Nat → List zMI → zLo → List zAV → zHp → Option (Option zAV × zHp)
  | 0, _, _, _, _, _, _ => none
  | _ + 1, _, _, [], _, _, _ => none
  | n + 1, d, m, i :: is, L, st, h =>
    if i.1 < 40 then match zps i L st with
      | some q => zexec E B n d m is q.1 q.2 h
      | none => none
    else if i.1 < 60 then match zbr i st with
      | some (none, st') => zexec E B n d m is L st' h
      | some (some b, st') => zexec E B n d m (B m b) L st' h
      | none => none
    else if i.1 < 90 then match zhp E i st h with
      | some q => zexec E B n d m is L q.1 q.2
      | none => none
    else if i.1 < 95 then match d, zcall i st h with
      | d' + 1, some (m2, k, mx) => if k ≤ st.length ∧ (st.drop k).length ≤ 4 ∧ (zargs (st.take k).reverse).length ≤ mx then
          match zexec E B n d' m2 (B m2 0) (zent mx (st.take k).reverse) [] h with
          | some (r, h') => zexec E B n d m is L (zpush r (st.drop k)) h'
          | none => none
        else none
      | _, _ => none
    else match zrt i st with
      | some r => some (r, h)
      | none => none
