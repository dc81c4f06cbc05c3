/-! CODE: what a condition is kept as, and what it comes to -/
/-- one step of the code: kind w with number x, asked for derived d, years y, minutes z -/
def stepC (d y z w x : Int) : List Bool → List Bool
  | st => if w = 1 then decide (d ≠ 0) :: st else if w = 2 then decide (y < x) :: st else if w = 3 then decide (x < y) :: st else if w = 4 then decide (z < x) :: st else if w = 5 then decide (x < z) :: st else
    if w = 6 then (match st with | b :: r => (!b) :: r | [] => []) else if w = 7 then (match st with | b :: a :: r => (a && b) :: r | _ => []) else (match st with | b :: a :: r => (a || b) :: r | _ => [])
/-- k steps from place a -/
def runC (ks ws : Nat → Int) (d y z : Int) (a : Nat) : Nat → List Bool → List Bool
  | 0, st => st
  | k + 1, st => stepC d y z (ks (a + k)) (ws (a + k)) (runC ks ws d y z a k st)
/-- the code from a to b says v -/
def CV (ks ws : Nat → Int) (d y z : Int) (a b : Nat) (v : Bool) : Prop := a < b ∧ ∀ st, runC ks ws d y z a (b - a) st = v :: st
section CODE
variable {ks ws : Nat → Int} {d y z : Int} {a b c : Nat} {v w : Bool}
theorem runC_add : ∀ (l k : Nat) (st : List Bool), runC ks ws d y z a (k + l) st = runC ks ws d y z (a + k) l (runC ks ws d y z a k st)
  | 0, _, _ => rfl
  | l + 1, k, st => by
    show stepC d y z (ks (a + (k + l))) (ws (a + (k + l))) (runC ks ws d y z a (k + l) st) = stepC d y z (ks (a + k + l)) (ws (a + k + l)) _
    rw [runC_add l k st, Nat.add_assoc]
theorem runC_eq {ks' ws' : Nat → Int} : ∀ (k : Nat) (st : List Bool), (∀ j, a ≤ j → j < a + k → ks' j = ks j ∧ ws' j = ws j) → runC ks' ws' d y z a k st = runC ks ws d y z a k st
  | 0, _, _ => rfl
  | k + 1, st, h => by
    show stepC d y z (ks' (a + k)) (ws' (a + k)) (runC ks' ws' d y z a k st) = stepC d y z (ks (a + k)) (ws (a + k)) (runC ks ws d y z a k st)
    rw [runC_eq k st (fun j h1 h2 => h j h1 (by omega)), (h (a + k) (by omega) (by omega)).1, (h (a + k) (by omega) (by omega)).2]
theorem CV.eq {ks' ws' : Nat → Int} (h : CV ks ws d y z a b v) (e : ∀ j, a ≤ j → j < b → ks' j = ks j ∧ ws' j = ws j) : CV ks' ws' d y z a b v := ⟨h.1, fun st => by
  have := h.1
  rw [runC_eq (b - a) st (fun j h1 h2 => e j h1 (by omega))]
  exact h.2 st⟩
theorem CV.one (h : ∀ st, stepC d y z (ks a) (ws a) st = v :: st) : CV ks ws d y z a (a + 1) v := ⟨Nat.lt_succ_self a, fun st => by
  rw [Nat.add_sub_cancel_left]
  exact h st⟩
theorem CV.last (h : CV ks ws d y z a b v) (st : List Bool) : runC ks ws d y z a (b + 1 - a) st = stepC d y z (ks b) (ws b) (v :: st) := by
  have := h.1
  rw [show b + 1 - a = (b - a) + 1 by omega]
  show stepC d y z (ks (a + (b - a))) (ws (a + (b - a))) (runC ks ws d y z a (b - a) st) = _
  rw [h.2 st, show a + (b - a) = b by omega]
theorem CV.no (h : CV ks ws d y z a b v) (k : ks b = 6) : CV ks ws d y z a (b + 1) (!v) := ⟨Nat.lt_succ_of_lt h.1, fun st => by
  rw [h.last, k]
  rfl⟩
theorem CV.two (h : CV ks ws d y z a b v) (g : CV ks ws d y z b c w) (st : List Bool) : runC ks ws d y z a (c + 1 - a) st = stepC d y z (ks c) (ws c) (w :: v :: st) := by
  have h1 := h.1
  have g1 := g.1
  rw [show c + 1 - a = (c - a) + 1 by omega]
  show stepC d y z (ks (a + (c - a))) (ws (a + (c - a))) (runC ks ws d y z a (c - a) st) = _
  rw [show c - a = (b - a) + (c - b) by omega, runC_add, h.2 st, show a + (b - a) = b by omega, g.2, show a + (b - a + (c - b)) = c by omega]
theorem CV.both (h : CV ks ws d y z a b v) (g : CV ks ws d y z b c w) (k : ks c = 7) : CV ks ws d y z a (c + 1) (v && w) := ⟨Nat.lt_succ_of_lt (Nat.lt_trans h.1 g.1), fun st => by
  rw [h.two g, k]
  rfl⟩
theorem CV.either (h : CV ks ws d y z a b v) (g : CV ks ws d y z b c w) (k : ks c = 8) : CV ks ws d y z a (c + 1) (v || w) := ⟨Nat.lt_succ_of_lt (Nat.lt_trans h.1 g.1), fun st => by
  rw [h.two g, k]
  rfl⟩
end CODE
