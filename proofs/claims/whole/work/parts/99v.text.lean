/-! CODE: what a condition is kept as, and what it comes to -/
section CODE
variable {ks ws : Nat → Int} {d y z : Int} {a b c : Nat} {v w : Bool}
theorem runC_add : ∀ (l k : Nat) (st : List Bool), runC ks ws d y z a (k + l) st = (runC ks ws d y z a k st).bind (fun t => runC ks ws d y z (a + k) l t)
  | 0, k, st => by
    show runC ks ws d y z a k st = (runC ks ws d y z a k st).bind (fun t => some t)
    cases runC ks ws d y z a k st <;> rfl
  | l + 1, k, st => by
    show (runC ks ws d y z a (k + l) st).bind (stepC d y z (ks (a + (k + l))) (ws (a + (k + l)))) = (runC ks ws d y z a k st).bind (fun t => (runC ks ws d y z (a + k) l t).bind (stepC d y z (ks (a + k + l)) (ws (a + k + l))))
    rw [runC_add l k st, Nat.add_assoc]
    cases runC ks ws d y z a k st <;> rfl
theorem runC_eq {ks' ws' : Nat → Int} : ∀ (k : Nat) (st : List Bool), (∀ j, a ≤ j → j < a + k → ks' j = ks j ∧ ws' j = ws j) → runC ks' ws' d y z a k st = runC ks ws d y z a k st
  | 0, _, _ => rfl
  | k + 1, st, h => by
    show (runC ks' ws' d y z a k st).bind (stepC d y z (ks' (a + k)) (ws' (a + k))) = (runC ks ws d y z a k st).bind (stepC d y z (ks (a + k)) (ws (a + k)))
    rw [runC_eq k st (fun j h1 h2 => h j h1 (by omega)), (h (a + k) (by omega) (by omega)).1, (h (a + k) (by omega) (by omega)).2]
theorem CV.eq {ks' ws' : Nat → Int} (h : CV ks ws d y z a b v) (e : ∀ j, a ≤ j → j < b → ks' j = ks j ∧ ws' j = ws j) : CV ks' ws' d y z a b v := ⟨h.1, fun st => by
  have := h.1
  rw [runC_eq (b - a) st (fun j h1 h2 => e j h1 (by omega))]
  exact h.2 st⟩
theorem CV.one (h : ∀ st, stepC d y z (ks a) (ws a) st = some (v :: st)) : CV ks ws d y z a (a + 1) v := ⟨Nat.lt_succ_self a, fun st => by
  rw [Nat.add_sub_cancel_left]
  exact h st⟩
theorem CV.last (h : CV ks ws d y z a b v) (st : List Bool) : runC ks ws d y z a (b + 1 - a) st = stepC d y z (ks b) (ws b) (v :: st) := by
  have := h.1
  rw [show b + 1 - a = (b - a) + 1 by omega]
  show (runC ks ws d y z a (b - a) st).bind (stepC d y z (ks (a + (b - a))) (ws (a + (b - a)))) = _
  rw [h.2 st, show a + (b - a) = b by omega]
  rfl
theorem CV.no (h : CV ks ws d y z a b v) (k : ks b = 6) : CV ks ws d y z a (b + 1) (!v) := ⟨Nat.lt_succ_of_lt h.1, fun st => by
  rw [h.last, k]
  rfl⟩
theorem CV.two (h : CV ks ws d y z a b v) (g : CV ks ws d y z b c w) (st : List Bool) : runC ks ws d y z a (c + 1 - a) st = stepC d y z (ks c) (ws c) (w :: v :: st) := by
  have h1 := h.1
  have g1 := g.1
  rw [show c + 1 - a = (c - a) + 1 by omega]
  show (runC ks ws d y z a (c - a) st).bind (stepC d y z (ks (a + (c - a))) (ws (a + (c - a)))) = _
  rw [show c - a = (b - a) + (c - b) by omega, runC_add, h.2 st, show a + (b - a) = b by omega, show a + (b - a + (c - b)) = c by omega]
  show (runC ks ws d y z b (c - b) (v :: st)).bind _ = _
  rw [g.2]
  rfl
theorem CV.both (h : CV ks ws d y z a b v) (g : CV ks ws d y z b c w) (k : ks c = 7) : CV ks ws d y z a (c + 1) (v && w) := ⟨Nat.lt_succ_of_lt (Nat.lt_trans h.1 g.1), fun st => by
  rw [h.two g, k]
  rfl⟩
theorem CV.either (h : CV ks ws d y z a b v) (g : CV ks ws d y z b c w) (k : ks c = 8) : CV ks ws d y z a (c + 1) (v || w) := ⟨Nat.lt_succ_of_lt (Nat.lt_trans h.1 g.1), fun st => by
  rw [h.two g, k]
  rfl⟩
end CODE
