/-! TEXTS OF CONTRACTS: words, code, what a contract says -/
/-- a word of the class: its signs -/
def SA (H : zHp) (a : Nat) (l : List Nat) : Prop := ztg H a = 50 ∧ (ztg H (zct H a 0).toNat = 31 ∨ ztg H (zct H a 0).toNat = 32 ∨ ztg H (zct H a 0).toNat = 41) ∧ zln H (zct H a 0).toNat = l.length ∧ l.length ≤ 10 ∧ ∀ k, k < l.length → zct H (zct H a 0).toNat k = ((l.getD k 0 : Nat) : Int) ∧ l.getD k 0 < 128
/-- the words the text is read by -/
def wds : List (List Nat) := [[108], [105, 101], [102, 101, 32], [97, 115, 116, 32], [48, 49, 50, 51, 52, 53, 54, 55, 56, 57], [97, 114], [115, 104, 112], [32], [32, 105, 102, 32], [120, 121, 109, 33, 40], [41], [60, 62]]
/-- only the reading's own cells of C change -/
def CW (C : Nat) (H H' : zHp) : Prop := (H'.1 = H.1 ∧ H'.2.1 = H.2.1 ∧ H'.2.2.2 = H.2.2.2) ∧ (∀ a, a ≠ C → ∀ k, zct H' a k = zct H a k) ∧ ∀ k, k < 3 ∨ (8 ≤ k ∧ k ≤ 10) → zct H' C k = zct H C k
/-- a contract C with its text, and the words -/
def CT (H : zHp) (C n : Nat) (f : Nat → Int) (E : Nat → Nat) : Prop := (ztg H C = 2 ∧ ztg H (zct H C 2).toNat = 30 ∧ zln H (zct H C 2).toNat = n ∧ (zct H C 2).toNat ≠ C ∧ n ≤ 120) ∧ (∀ k, k < n → zct H (zct H C 2).toNat k = f k ∧ 0 ≤ f k ∧ f k ≤ 255) ∧ ∀ i, i < 12 → SA H (E i) (wds.getD i []) ∧ E i ≠ C ∧ (zct H (E i) 0).toNat ≠ C
/-- where the reading stands -/
def PS (H : zHp) (C p : Nat) (b : Int) : Prop := zct H C 3 = (p : Int) ∧ zct H C 4 = b
/-- the sign at a place, -1 behind the text -/
def chr1 (n : Nat) (f : Nat → Int) (p : Nat) : Int := if p < n then f p else -1
/-- a truth as a number -/
def bi (b : Bool) : Int := if b then 1 else 0
/-- one step of the code: kind w with number x, asked for derived d, years y, minutes z -/
def stepC (d y z w x : Int) (st : List Bool) : Option (List Bool) :=
  if w = 1 then some (decide (d ≠ 0) :: st) else if w = 2 then some (decide (y < x) :: st) else if w = 3 then some (decide (x < y) :: st) else if w = 4 then some (decide (z < x) :: st) else if w = 5 then some (decide (x < z) :: st) else
    if w = 6 then (match st with | b :: r => some ((!b) :: r) | [] => none) else if w = 7 then (match st with | b :: a :: r => some ((a && b) :: r) | _ => none) else if w = 8 then (match st with | b :: a :: r => some ((a || b) :: r) | _ => none) else none
/-- k steps from place a -/
def runC (ks ws : Nat → Int) (d y z : Int) (a : Nat) : Nat → List Bool → Option (List Bool)
  | 0, st => some st
  | k + 1, st => (runC ks ws d y z a k st).bind (stepC d y z (ks (a + k)) (ws (a + k)))
/-- the code from a to b says v -/
def CV (ks ws : Nat → Int) (d y z : Int) (a b : Nat) (v : Bool) : Prop := a < b ∧ ∀ st, runC ks ws d y z a (b - a) st = some (v :: st)
/-- whether clause i of contract c holds -/
def hC (r53 r54 r55 r56 : Nat → Int) (d y z : Int) (c i : Nat) : Bool := if r53 (8 * c + i) = r54 (8 * c + i) then true else
  match runC (sh r55 (140 * c)) (sh r56 (140 * c)) d y z (r53 (8 * c + i)).toNat ((r54 (8 * c + i)).toNat - (r53 (8 * c + i)).toNat) [] with
  | some (b :: _) => b
  | _ => false
/-- what the first clauses give a payee for an act, and whether one of them holds -/
def sumC (r50 r51 r52 : Nat → Int) (h : Nat → Bool) (pa ac : Int) (c : Nat) : Nat → Int × Bool
  | 0 => (0, false)
  | k + 1 => if r50 (8 * c + k) = pa ∧ r51 (8 * c + k) = ac ∧ h k = true then ((sumC r50 r51 r52 h pa ac c k).1 + r52 (8 * c + k), true) else sumC r50 r51 r52 h pa ac c k
/-- the text of a contract, and what the reference has made of it -/
def CPar (f : Nat → Int) (n : Nat) (s : zSg) (c : Nat) : Prop := (∀ k, k < n → 0 ≤ f k ∧ f k ≤ 255) ∧ (0 ≤ s 49 c ∧ s 49 c ≤ 8) ∧
  (∀ i : Nat, (i : Int) < s 49 c → (0 ≤ s 52 (8 * c + i) ∧ s 52 (8 * c + i) ≤ 999) ∧ ∃ a b : Nat, s 53 (8 * c + i) = (a : Int) ∧ s 54 (8 * c + i) = (b : Int) ∧ b ≤ 120 ∧ (a = b ∨ ∀ d y z, ∃ v, CV (sh (s 55) (140 * c)) (sh (s 56) (140 * c)) d y z a b v)) ∧
  ∀ (H : zHp) (C : Nat) (E : Nat → Nat) (pa ac : Int), CT H C n f E → (zct H C 8 = 0 ∨ zct H C 8 = 1) → zct H C 5 = s 47 c → zct H C 6 = s 48 c → ∃ H', fContract_readAll E C pa ac H = some (1, H') ∧ CW C H H' ∧ (zct H' C 5 = s 47 c ∧ zct H' C 6 = s 48 c ∧ zct H' C 7 = s 49 c) ∧
    zct H' C 11 = (sumC (s 50) (s 51) (s 52) (hC (s 53) (s 54) (s 55) (s 56) (zct H C 8) (zct H C 9) (zct H C 10) c) pa ac c (s 49 c).toNat).1 ∧ zct H' C 12 = bi (sumC (s 50) (s 51) (s 52) (hC (s 53) (s 54) (s 55) (s 56) (zct H C 8) (zct H C 9) (zct H C 10) c) pa ac c (s 49 c).toNat).2
theorem CPar.eq {f : Nat → Int} {n c : Nat} {s s' : zSg} (h : CPar f n s c) (e : ∀ k, 47 ≤ k → k ≤ 56 → s' k = s k) : CPar f n s' c := by
  unfold CPar
  rw [e 47 (by omega) (by omega), e 48 (by omega) (by omega), e 49 (by omega) (by omega), e 50 (by omega) (by omega), e 51 (by omega) (by omega), e 52 (by omega) (by omega), e 53 (by omega) (by omega), e 54 (by omega) (by omega), e 55 (by omega) (by omega), e 56 (by omega) (by omega)]
  exact h
