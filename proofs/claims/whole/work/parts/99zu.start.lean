/-! THE START: the class -/
section START2
variable {X : Nat} {h : zHp} {r : List (Nat × Nat × Nat × Int)}
theorem z_na {A : Type} {t n o : Nat} {K : Nat → zHp → Option A} (hX : znx h + 1 = X) (ho : numR r = o) (hn : n ≤ 100000) : yna t ((n : Nat) : Int) (zopsR X h r) K = K (X + o) (zopsR X h ((0, t, n, 0) :: r)) := by
  have e : znx (zopsR X h r) + 1 = X + o := by have := (zopsR_ok hX r).1.1; omega
  unfold yna
  rw [if_pos ⟨by omega, by omega⟩, Int.toNat_natCast, e]
  rfl
theorem z_nw {A : Type} {c n o : Nat} {K : Nat → zHp → Option A} (hX : znx h + 1 = X) (ho : numR r = o) : ynw c n (zopsR X h r) K = K (X + o) (zopsR X h ((0, c + 1, n, 0) :: r)) := by
  have e : znx (zopsR X h r) + 1 = X + o := by have := (zopsR_ok hX r).1.1; omega
  unfold ynw
  rw [e]
  rfl
theorem z_nmu {A : Type} {o : Nat} {K : Nat → zHp → Option A} (hX : znx h + 1 = X) (ho : numR r = o) : ynm 6 60 (zopsR X h r) K = K (X + o) (zopsR X h ((0, 30, 60, 0) :: (0, 30, 60, 0) :: (0, 30, 60, 0) :: (0, 30, 60, 0) :: (0, 30, 60, 0) :: (0, 30, 60, 0) :: (4, 37, 6, 0) :: r)) := by
  have e : znx (zopsR X h r) + 1 = X + o := by have := (zopsR_ok hX r).1.1; omega
  unfold ynm
  rw [if_pos (by decide), e]
  rfl
theorem z_n0 {A : Type} {o : Nat} {x : Option A} (hX : znx h + 1 = X) : yn0 (X + o) x = x := if_pos (by omega)
theorem z_pi {A : Type} {c k o : Nat} {v : Int} {K : zHp → Option A} (hX : znx h + 1 = X) (ht : zisA c (tgR r o) = true) (ho : o < numR r) : ypi c k (X + o) v (zopsR X h r) K = K (zopsR X h ((1, o, k, v) :: r)) := by
  unfold ypi
  rw [((zopsR_ok hX r).2.2 o ho).1, if_pos ht]
  rfl
theorem z_pr {A : Type} {c k o p : Nat} {K : zHp → Option A} (hX : znx h + 1 = X) (ht : zisA c (tgR r o) = true) (ho : o < numR r) : ypr c k (X + o) (X + p) (zopsR X h r) K = K (zopsR X h ((2, o, k, (p : Int)) :: r)) := by
  unfold ypr
  rw [((zopsR_ok hX r).2.2 o ho).1, if_pos ht]
  rfl
theorem z_gr {A : Type} {c k o p : Nat} {K : Nat → Option A} (hX : znx h + 1 = X) (ht : zisA c (tgR r o) = true) (ho : o < numR r) (hc : cellR r o k = (1, (p : Int))) : ygr c k (X + o) (zopsR X h r) K = K (X + p) := by
  unfold ygr
  rw [((zopsR_ok hX r).2.2 o ho).1, if_pos ht, ((zopsR_ok hX r).2.2 o ho).2.2 k, hc]
  show K (((X + ((p : Int)).toNat : Nat) : Int)).toNat = K (X + p)
  rw [Int.toNat_natCast, Int.toNat_natCast]
theorem z_bd {A B : Type} {o : Option (A × zHp)} {a : A} {s' : zHp} {K : A → zHp → Option (B × zHp)} (e : o = some (a, s')) : ybd o K = K a s' := by rw [e]; rfl
theorem z_fill {A : Type} {o n : Nat} {v : Int} {K : Unit → zHp → Option (A × zHp)} (hX : znx h + 1 = X) (ht : tgR r o = 30) (hl : lnR r o = n) (hn : n ≤ 100000) (ho : o < numR r) : ybd (fJArrays_fill (X + o) v (zopsR X h r)) K = K () (zopsR X h ((3, o, n, v) :: r)) := by
  obtain ⟨q1, q2, -⟩ := (zopsR_ok hX r).2.2 o ho
  rw [e_fill hn (q1.trans ht) (q2.trans hl)]
  rfl
theorem z_si {A : Type} {o j : Nat} {v : Int} {K : zHp → Option A} (hX : znx h + 1 = X) (ht : tgR r o = 30) (hl : j < lnR r o) (ho : o < numR r) : ysi (X + o) (j : Int) v (zopsR X h r) K = K (zopsR X h ((1, o, j, v) :: r)) := by
  obtain ⟨q1, q2, -⟩ := (zopsR_ok hX r).2.2 o ho
  unfold ysi
  rw [if_pos ⟨q1.trans ht, by omega, by rw [q2]; omega⟩, Int.toNat_natCast]
  rfl
/-- the way from a town to itself -/
def dg : Nat → List (Nat × Nat × Nat × Int) → List (Nat × Nat × Nat × Int)
  | 0, r => r
  | m + 1, r => (1, 13, 7 * m, 0) :: dg m r
theorem dg_ok : ∀ m, numR (dg m r) = numR r ∧ (∀ o, tgR (dg m r) o = tgR r o ∧ lnR (dg m r) o = lnR r o) ∧ cellR (dg m r) 12 0 = cellR r 12 0
  | 0 => ⟨rfl, fun _ => ⟨rfl, rfl⟩, rfl⟩
  | m + 1 => by
    obtain ⟨a, b, c⟩ := dg_ok m
    refine ⟨a, fun o => ⟨(b o).1, (b o).2⟩, c⟩
theorem st_tour_l (hX : znx h + 1 = X) (h9 : zisA 9 (tgR r 12) = true) (h30 : tgR r 13 = 30) (hl : lnR r 13 = 36) (ho : 13 < numR r) (hc : cellR r 12 0 = (1, 13)) : ∀ (d m f : Nat), 6 - m = d → d < f → m ≤ 6 → fTour_init_l1 f (X + 12) (m : Int) (zopsR X h (dg m r)) = some ((), zopsR X h (dg 6 r)) := by
  intro d
  induction d with
  | zero =>
    intro m f h1 h2 h3
    obtain ⟨f, rfl⟩ : ∃ f', f = f' + 1 := ⟨f - 1, by omega⟩
    obtain rfl : m = 6 := by omega
    rw [fTour_init_l1, if_neg (by decide)]
  | succ d ih =>
    intro m f h1 h2 h3
    obtain ⟨f, rfl⟩ : ∃ f', f = f' + 1 := ⟨f - 1, by omega⟩
    obtain ⟨a, b, c⟩ := dg_ok (r := r) m
    have e : zadd (zmul (m : Int) 6) (m : Int) = ((7 * m : Nat) : Int) := by rw [zmul_e (by omega) (by omega), zadd_e (by omega) (by omega)]; omega
    have e1 : zadd (m : Int) 1 = ((m + 1 : Nat) : Int) := by rw [zadd_e (by omega) (by omega)]; omega
    rw [fTour_init_l1, if_pos (by omega), e, e1]
    refine (z_gr (o := 12) (p := 13) hX (by rw [(b 12).1]; exact h9) (by rw [a]; omega) (c.trans hc)).trans ?_
    refine (z_si (o := 13) (j := 7 * m) hX ((b 13).1.trans h30) (by rw [(b 13).2, hl]; omega) (by rw [a]; exact ho)).trans ?_
    exact ih (m + 1) f (by omega) (by omega) (by omega)
theorem st_tour {o : Nat} (hX : znx h + 1 = X) (h9 : zisA 9 (tgR r 12) = true) (h30 : tgR r 13 = 30) (hl : lnR r 13 = 36) (ho : o < numR r) (hc : cellR r 12 0 = (1, 13)) (h13 : o = 13 := by rfl) : fTour_init_l1 zFU (X + 12) 0 (zopsR X h r) = some ((), zopsR X h (dg 6 r)) := st_tour_l hX h9 h30 hl (by omega) hc 6 0 zFU (by omega) (by rw [zFU_e]; omega) (by omega)
def oLH : List (Nat × Nat × Nat × Int) := [(3, 34, 6, -1), (1, 0, 19, 0), (2, 0, 18, 36), (0, 30, 20, 0), (2, 0, 17, 35), (0, 30, 6, 0), (2, 0, 16, 34), (0, 30, 6, 0), (2, 0, 15, 27), (0, 30, 60, 0), (0, 30, 60, 0), (0, 30, 60, 0), (0, 30, 60, 0), (0, 30, 60, 0), (0, 30, 60, 0), (4, 37, 6, 0), (2, 0, 14, 22), (2, 22, 7, 26), (0, 30, 11, 0), (2, 22, 6, 25), (0, 30, 11, 0), (2, 22, 5, 24), (0, 30, 11, 0), (2, 22, 4, 23), (0, 30, 10, 0), (1, 22, 3, 0), (1, 22, 2, 9999), (1, 22, 1, 0), (1, 22, 0, 0), (0, 8, 8, 0), (2, 0, 13, 12), (1, 13, 35, 0), (1, 13, 28, 0), (1, 13, 21, 0), (1, 13, 14, 0), (1, 13, 7, 0), (1, 13, 0, 0), (3, 13, 36, 1), (2, 12, 9, 21), (0, 30, 9, 0), (2, 12, 8, 20), (0, 30, 9, 0), (2, 12, 7, 19), (0, 30, 9, 0), (2, 12, 6, 18), (0, 30, 9, 0), (2, 12, 5, 17), (0, 30, 9, 0), (2, 12, 4, 16), (0, 30, 9, 0), (2, 12, 3, 15), (0, 30, 9, 0), (2, 12, 2, 14), (0, 30, 9, 0), (1, 12, 1, 0), (2, 12, 0, 13), (0, 30, 36, 0), (0, 10, 10, 0), (1, 0, 12, 0), (2, 0, 11, 11), (0, 35, 12, 0), (1, 0, 10, 0), (2, 0, 9, 10), (0, 30, 120, 0), (2, 0, 8, 4), (2, 4, 5, 9), (0, 30, 84, 0), (2, 4, 4, 8), (0, 30, 84, 0), (2, 4, 3, 7), (0, 31, 20, 0), (2, 4, 2, 6), (0, 31, 20, 0), (2, 4, 1, 5), (0, 30, 20, 0), (1, 4, 0, 0), (0, 5, 6, 0), (1, 0, 7, 0), (2, 0, 6, 3), (0, 34, 12, 0), (1, 0, 5, -1), (1, 0, 4, 0), (2, 0, 3, 2), (0, 33, 60, 0), (1, 0, 2, 0), (2, 0, 1, 1), (0, 30, 12, 0), (1, 0, 0, 0), (0, 11, 20, 0)]
theorem st_fLayout_init (hX : znx h + 1 = X) : fLayout_init (X + 4) (zopsR X h [(0, 5, 6, 0), (1, 0, 7, 0), (2, 0, 6, 3), (0, 34, 12, 0), (1, 0, 5, -1), (1, 0, 4, 0), (2, 0, 3, 2), (0, 33, 60, 0), (1, 0, 2, 0), (2, 0, 1, 1), (0, 30, 12, 0), (1, 0, 0, 0), (0, 11, 20, 0)]) = some ((), zopsR X h [(2, 4, 5, 9), (0, 30, 84, 0), (2, 4, 4, 8), (0, 30, 84, 0), (2, 4, 3, 7), (0, 31, 20, 0), (2, 4, 2, 6), (0, 31, 20, 0), (2, 4, 1, 5), (0, 30, 20, 0), (1, 4, 0, 0), (0, 5, 6, 0), (1, 0, 7, 0), (2, 0, 6, 3), (0, 34, 12, 0), (1, 0, 5, -1), (1, 0, 4, 0), (2, 0, 3, 2), (0, 33, 60, 0), (1, 0, 2, 0), (2, 0, 1, 1), (0, 30, 12, 0), (1, 0, 0, 0), (0, 11, 20, 0)]) := by
  unfold fLayout_init
  refine (z_n0 (o := 4) hX).trans ?_
  refine (z_pi (o := 4) (k := 0) hX rfl (by decide)).trans ?_
  refine (z_na (o := 5) (n := 20) hX rfl (by decide)).trans ?_
  refine (z_pr (o := 4) (p := 5) (k := 1) hX rfl (by decide)).trans ?_
  refine (z_na (o := 6) (n := 20) hX rfl (by decide)).trans ?_
  refine (z_pr (o := 4) (p := 6) (k := 2) hX rfl (by decide)).trans ?_
  refine (z_na (o := 7) (n := 20) hX rfl (by decide)).trans ?_
  refine (z_pr (o := 4) (p := 7) (k := 3) hX rfl (by decide)).trans ?_
  refine (z_na (o := 8) (n := 84) hX rfl (by decide)).trans ?_
  refine (z_pr (o := 4) (p := 8) (k := 4) hX rfl (by decide)).trans ?_
  refine (z_na (o := 9) (n := 84) hX rfl (by decide)).trans ?_
  refine (z_pr (o := 4) (p := 9) (k := 5) hX rfl (by decide)).trans ?_
  rfl
theorem st_fTour_init (hX : znx h + 1 = X) : fTour_init (X + 12) (zopsR X h [(0, 10, 10, 0), (1, 0, 12, 0), (2, 0, 11, 11), (0, 35, 12, 0), (1, 0, 10, 0), (2, 0, 9, 10), (0, 30, 120, 0), (2, 0, 8, 4), (2, 4, 5, 9), (0, 30, 84, 0), (2, 4, 4, 8), (0, 30, 84, 0), (2, 4, 3, 7), (0, 31, 20, 0), (2, 4, 2, 6), (0, 31, 20, 0), (2, 4, 1, 5), (0, 30, 20, 0), (1, 4, 0, 0), (0, 5, 6, 0), (1, 0, 7, 0), (2, 0, 6, 3), (0, 34, 12, 0), (1, 0, 5, -1), (1, 0, 4, 0), (2, 0, 3, 2), (0, 33, 60, 0), (1, 0, 2, 0), (2, 0, 1, 1), (0, 30, 12, 0), (1, 0, 0, 0), (0, 11, 20, 0)]) = some ((), zopsR X h [(1, 13, 35, 0), (1, 13, 28, 0), (1, 13, 21, 0), (1, 13, 14, 0), (1, 13, 7, 0), (1, 13, 0, 0), (3, 13, 36, 1), (2, 12, 9, 21), (0, 30, 9, 0), (2, 12, 8, 20), (0, 30, 9, 0), (2, 12, 7, 19), (0, 30, 9, 0), (2, 12, 6, 18), (0, 30, 9, 0), (2, 12, 5, 17), (0, 30, 9, 0), (2, 12, 4, 16), (0, 30, 9, 0), (2, 12, 3, 15), (0, 30, 9, 0), (2, 12, 2, 14), (0, 30, 9, 0), (1, 12, 1, 0), (2, 12, 0, 13), (0, 30, 36, 0), (0, 10, 10, 0), (1, 0, 12, 0), (2, 0, 11, 11), (0, 35, 12, 0), (1, 0, 10, 0), (2, 0, 9, 10), (0, 30, 120, 0), (2, 0, 8, 4), (2, 4, 5, 9), (0, 30, 84, 0), (2, 4, 4, 8), (0, 30, 84, 0), (2, 4, 3, 7), (0, 31, 20, 0), (2, 4, 2, 6), (0, 31, 20, 0), (2, 4, 1, 5), (0, 30, 20, 0), (1, 4, 0, 0), (0, 5, 6, 0), (1, 0, 7, 0), (2, 0, 6, 3), (0, 34, 12, 0), (1, 0, 5, -1), (1, 0, 4, 0), (2, 0, 3, 2), (0, 33, 60, 0), (1, 0, 2, 0), (2, 0, 1, 1), (0, 30, 12, 0), (1, 0, 0, 0), (0, 11, 20, 0)]) := by
  unfold fTour_init
  refine (z_n0 (o := 12) hX).trans ?_
  refine (z_na (o := 13) (n := 36) hX rfl (by decide)).trans ?_
  refine (z_pr (o := 12) (p := 13) (k := 0) hX rfl (by decide)).trans ?_
  refine (z_pi (o := 12) (k := 1) hX rfl (by decide)).trans ?_
  refine (z_na (o := 14) (n := 9) hX rfl (by decide)).trans ?_
  refine (z_pr (o := 12) (p := 14) (k := 2) hX rfl (by decide)).trans ?_
  refine (z_na (o := 15) (n := 9) hX rfl (by decide)).trans ?_
  refine (z_pr (o := 12) (p := 15) (k := 3) hX rfl (by decide)).trans ?_
  refine (z_na (o := 16) (n := 9) hX rfl (by decide)).trans ?_
  refine (z_pr (o := 12) (p := 16) (k := 4) hX rfl (by decide)).trans ?_
  refine (z_na (o := 17) (n := 9) hX rfl (by decide)).trans ?_
  refine (z_pr (o := 12) (p := 17) (k := 5) hX rfl (by decide)).trans ?_
  refine (z_na (o := 18) (n := 9) hX rfl (by decide)).trans ?_
  refine (z_pr (o := 12) (p := 18) (k := 6) hX rfl (by decide)).trans ?_
  refine (z_na (o := 19) (n := 9) hX rfl (by decide)).trans ?_
  refine (z_pr (o := 12) (p := 19) (k := 7) hX rfl (by decide)).trans ?_
  refine (z_na (o := 20) (n := 9) hX rfl (by decide)).trans ?_
  refine (z_pr (o := 12) (p := 20) (k := 8) hX rfl (by decide)).trans ?_
  refine (z_na (o := 21) (n := 9) hX rfl (by decide)).trans ?_
  refine (z_pr (o := 12) (p := 21) (k := 9) hX rfl (by decide)).trans ?_
  refine (z_gr (o := 12) (p := 13) hX rfl (by decide) rfl).trans ?_
  refine (z_fill (o := 13) (n := 36) hX rfl rfl (by decide) (by decide)).trans ?_
  refine (st_tour (o := 13) hX rfl rfl rfl (by decide) (by decide)).trans ?_
  rfl
theorem st_fPrintPlan_init (hX : znx h + 1 = X) : fPrintPlan_init (X + 22) (zopsR X h [(0, 8, 8, 0), (2, 0, 13, 12), (1, 13, 35, 0), (1, 13, 28, 0), (1, 13, 21, 0), (1, 13, 14, 0), (1, 13, 7, 0), (1, 13, 0, 0), (3, 13, 36, 1), (2, 12, 9, 21), (0, 30, 9, 0), (2, 12, 8, 20), (0, 30, 9, 0), (2, 12, 7, 19), (0, 30, 9, 0), (2, 12, 6, 18), (0, 30, 9, 0), (2, 12, 5, 17), (0, 30, 9, 0), (2, 12, 4, 16), (0, 30, 9, 0), (2, 12, 3, 15), (0, 30, 9, 0), (2, 12, 2, 14), (0, 30, 9, 0), (1, 12, 1, 0), (2, 12, 0, 13), (0, 30, 36, 0), (0, 10, 10, 0), (1, 0, 12, 0), (2, 0, 11, 11), (0, 35, 12, 0), (1, 0, 10, 0), (2, 0, 9, 10), (0, 30, 120, 0), (2, 0, 8, 4), (2, 4, 5, 9), (0, 30, 84, 0), (2, 4, 4, 8), (0, 30, 84, 0), (2, 4, 3, 7), (0, 31, 20, 0), (2, 4, 2, 6), (0, 31, 20, 0), (2, 4, 1, 5), (0, 30, 20, 0), (1, 4, 0, 0), (0, 5, 6, 0), (1, 0, 7, 0), (2, 0, 6, 3), (0, 34, 12, 0), (1, 0, 5, -1), (1, 0, 4, 0), (2, 0, 3, 2), (0, 33, 60, 0), (1, 0, 2, 0), (2, 0, 1, 1), (0, 30, 12, 0), (1, 0, 0, 0), (0, 11, 20, 0)]) = some ((), zopsR X h [(2, 22, 7, 26), (0, 30, 11, 0), (2, 22, 6, 25), (0, 30, 11, 0), (2, 22, 5, 24), (0, 30, 11, 0), (2, 22, 4, 23), (0, 30, 10, 0), (1, 22, 3, 0), (1, 22, 2, 9999), (1, 22, 1, 0), (1, 22, 0, 0), (0, 8, 8, 0), (2, 0, 13, 12), (1, 13, 35, 0), (1, 13, 28, 0), (1, 13, 21, 0), (1, 13, 14, 0), (1, 13, 7, 0), (1, 13, 0, 0), (3, 13, 36, 1), (2, 12, 9, 21), (0, 30, 9, 0), (2, 12, 8, 20), (0, 30, 9, 0), (2, 12, 7, 19), (0, 30, 9, 0), (2, 12, 6, 18), (0, 30, 9, 0), (2, 12, 5, 17), (0, 30, 9, 0), (2, 12, 4, 16), (0, 30, 9, 0), (2, 12, 3, 15), (0, 30, 9, 0), (2, 12, 2, 14), (0, 30, 9, 0), (1, 12, 1, 0), (2, 12, 0, 13), (0, 30, 36, 0), (0, 10, 10, 0), (1, 0, 12, 0), (2, 0, 11, 11), (0, 35, 12, 0), (1, 0, 10, 0), (2, 0, 9, 10), (0, 30, 120, 0), (2, 0, 8, 4), (2, 4, 5, 9), (0, 30, 84, 0), (2, 4, 4, 8), (0, 30, 84, 0), (2, 4, 3, 7), (0, 31, 20, 0), (2, 4, 2, 6), (0, 31, 20, 0), (2, 4, 1, 5), (0, 30, 20, 0), (1, 4, 0, 0), (0, 5, 6, 0), (1, 0, 7, 0), (2, 0, 6, 3), (0, 34, 12, 0), (1, 0, 5, -1), (1, 0, 4, 0), (2, 0, 3, 2), (0, 33, 60, 0), (1, 0, 2, 0), (2, 0, 1, 1), (0, 30, 12, 0), (1, 0, 0, 0), (0, 11, 20, 0)]) := by
  unfold fPrintPlan_init
  refine (z_n0 (o := 22) hX).trans ?_
  refine (z_pi (o := 22) (k := 0) hX rfl (by decide)).trans ?_
  refine (z_pi (o := 22) (k := 1) hX rfl (by decide)).trans ?_
  refine (z_pi (o := 22) (k := 2) hX rfl (by decide)).trans ?_
  refine (z_pi (o := 22) (k := 3) hX rfl (by decide)).trans ?_
  refine (z_na (o := 23) (n := 10) hX rfl (by decide)).trans ?_
  refine (z_pr (o := 22) (p := 23) (k := 4) hX rfl (by decide)).trans ?_
  refine (z_na (o := 24) (n := 11) hX rfl (by decide)).trans ?_
  refine (z_pr (o := 22) (p := 24) (k := 5) hX rfl (by decide)).trans ?_
  refine (z_na (o := 25) (n := 11) hX rfl (by decide)).trans ?_
  refine (z_pr (o := 22) (p := 25) (k := 6) hX rfl (by decide)).trans ?_
  refine (z_na (o := 26) (n := 11) hX rfl (by decide)).trans ?_
  refine (z_pr (o := 22) (p := 26) (k := 7) hX rfl (by decide)).trans ?_
  rfl
theorem st_H (hX : znx h + 1 = X) : fH_init X (zopsR X h [(0, 11, 20, 0)]) = some ((), zopsR X h oLH) := by
  unfold fH_init
  refine (z_n0 (o := 0) hX).trans ?_
  refine (z_pi (o := 0) (k := 0) hX rfl (by decide)).trans ?_
  refine (z_na (o := 1) (n := 12) hX rfl (by decide)).trans ?_
  refine (z_pr (o := 0) (p := 1) (k := 1) hX rfl (by decide)).trans ?_
  refine (z_pi (o := 0) (k := 2) hX rfl (by decide)).trans ?_
  refine (z_na (o := 2) (n := 60) hX rfl (by decide)).trans ?_
  refine (z_pr (o := 0) (p := 2) (k := 3) hX rfl (by decide)).trans ?_
  refine (z_pi (o := 0) (k := 4) hX rfl (by decide)).trans ?_
  refine (z_pi (o := 0) (k := 5) hX rfl (by decide)).trans ?_
  refine (z_na (o := 3) (n := 12) hX rfl (by decide)).trans ?_
  refine (z_pr (o := 0) (p := 3) (k := 6) hX rfl (by decide)).trans ?_
  refine (z_pi (o := 0) (k := 7) hX rfl (by decide)).trans ?_
  refine (z_nw (o := 4) hX rfl).trans ?_
  refine (z_n0 (o := 4) hX).trans ?_
  refine (z_bd (st_fLayout_init hX)).trans ?_
  refine (z_pr (o := 0) (p := 4) (k := 8) hX rfl (by decide)).trans ?_
  refine (z_na (o := 10) (n := 120) hX rfl (by decide)).trans ?_
  refine (z_pr (o := 0) (p := 10) (k := 9) hX rfl (by decide)).trans ?_
  refine (z_pi (o := 0) (k := 10) hX rfl (by decide)).trans ?_
  refine (z_na (o := 11) (n := 12) hX rfl (by decide)).trans ?_
  refine (z_pr (o := 0) (p := 11) (k := 11) hX rfl (by decide)).trans ?_
  refine (z_pi (o := 0) (k := 12) hX rfl (by decide)).trans ?_
  refine (z_nw (o := 12) hX rfl).trans ?_
  refine (z_n0 (o := 12) hX).trans ?_
  refine (z_bd (st_fTour_init hX)).trans ?_
  refine (z_pr (o := 0) (p := 12) (k := 13) hX rfl (by decide)).trans ?_
  refine (z_nw (o := 22) hX rfl).trans ?_
  refine (z_n0 (o := 22) hX).trans ?_
  refine (z_bd (st_fPrintPlan_init hX)).trans ?_
  refine (z_pr (o := 0) (p := 22) (k := 14) hX rfl (by decide)).trans ?_
  refine (z_nmu (o := 27) hX rfl).trans ?_
  refine (z_pr (o := 0) (p := 27) (k := 15) hX rfl (by decide)).trans ?_
  refine (z_na (o := 34) (n := 6) hX rfl (by decide)).trans ?_
  refine (z_pr (o := 0) (p := 34) (k := 16) hX rfl (by decide)).trans ?_
  refine (z_na (o := 35) (n := 6) hX rfl (by decide)).trans ?_
  refine (z_pr (o := 0) (p := 35) (k := 17) hX rfl (by decide)).trans ?_
  refine (z_na (o := 36) (n := 20) hX rfl (by decide)).trans ?_
  refine (z_pr (o := 0) (p := 36) (k := 18) hX rfl (by decide)).trans ?_
  refine (z_pi (o := 0) (k := 19) hX rfl (by decide)).trans ?_
  refine (z_gr (o := 0) (p := 34) hX rfl (by decide) rfl).trans ?_
  refine (z_fill (o := 34) (n := 6) hX rfl rfl (by decide) (by decide)).trans ?_
  rfl
end START2
