/-! paid: the reference runs the code of a clause -/
/-- the truths on the stack (the top one first) -/
def ST : List Bool → zSg → Prop
  | [], _ => True
  | b :: r, s => s 62 r.length = bi b ∧ ST r s
def R62 (s s' : zSg) : Prop := ∀ k j, k ≠ 62 → s' k j = s k j
theorem R62.rf {s : zSg} : R62 s s := fun _ _ _ => rfl
theorem R62.tr {a b c : zSg} (h : R62 a b) (g : R62 b c) : R62 a c := fun k j w => (g k j w).trans (h k j w)
theorem R62.up {s : zSg} {j : Nat} {v : Int} : R62 s (zup s 62 j v) := fun k i w => by
  unfold zup
  rw [if_neg (fun e => w e.1)]
theorem R62.row {s s' : zSg} (h : R62 s s') {k : Nat} (hk : k ≠ 62) : s' k = s k := funext fun j => h k j hk
theorem ST.keep {s : zSg} {j : Nat} {v : Int} : ∀ st : List Bool, ST st s → st.length ≤ j → ST st (zup s 62 j v)
  | [], _, _ => trivial
  | b :: r, h, hj => by
    have hl : (b :: r).length = r.length + 1 := rfl
    refine ⟨?_, ST.keep r h.2 (by omega)⟩
    unfold zup
    rw [if_neg (by omega)]
    exact h.1
theorem ST.push {s : zSg} {b : Bool} {st : List Bool} (h : ST st s) : ST (b :: st) (zup s 62 st.length (bi b)) := ⟨by unfold zup; rw [if_pos ⟨rfl, rfl⟩], ST.keep st h (Nat.le_refl _)⟩
theorem ywz_v {α : Type} {n k j : Nat} (h : j < n) {v : Int} (hv : v = 0 ∨ v = 1) {s : zSg} {f : zSg → Option (α × zSg)} : ywz n k (j : Int) v s f = f (zup s k j v) := by
  unfold ywz
  rw [if_pos ⟨hv, by omega, by omega⟩, Int.toNat_natCast]
section HOLDS
variable {ks ws : Nat → Int} {d y z : Int} {row base a b : Nat}
theorem runC_front {k : Nat} {st : List Bool} : runC ks ws d y z a (k + 1) st = (stepC d y z (ks a) (ws a) st).bind (fun t => runC ks ws d y z (a + 1) k t) := by
  rw [Nat.add_comm k 1, runC_add]
  rfl
theorem stepC_some {w x : Int} {st t : List Bool} (h : stepC d y z w x st = some t) : (w = 1 ∧ t = decide (d ≠ 0) :: st) ∨ (w = 2 ∧ t = decide (y < x) :: st) ∨ (w = 3 ∧ t = decide (x < y) :: st) ∨ (w = 4 ∧ t = decide (z < x) :: st) ∨ (w = 5 ∧ t = decide (x < z) :: st) ∨ (w = 6 ∧ ∃ b r, st = b :: r ∧ t = (!b) :: r) ∨ (w = 7 ∧ ∃ b a r, st = b :: a :: r ∧ t = (a && b) :: r) ∨ (w = 8 ∧ ∃ b a r, st = b :: a :: r ∧ t = (a || b) :: r) := by
  unfold stepC at h
  by_cases h1 : w = 1
  · rw [if_pos h1] at h; exact Or.inl ⟨h1, (Option.some.inj h).symm⟩
  · rw [if_neg h1] at h
    refine Or.inr ?_
    by_cases h2 : w = 2
    · rw [if_pos h2] at h; exact Or.inl ⟨h2, (Option.some.inj h).symm⟩
    · rw [if_neg h2] at h
      refine Or.inr ?_
      by_cases h3 : w = 3
      · rw [if_pos h3] at h; exact Or.inl ⟨h3, (Option.some.inj h).symm⟩
      · rw [if_neg h3] at h
        refine Or.inr ?_
        by_cases h4 : w = 4
        · rw [if_pos h4] at h; exact Or.inl ⟨h4, (Option.some.inj h).symm⟩
        · rw [if_neg h4] at h
          refine Or.inr ?_
          by_cases h5 : w = 5
          · rw [if_pos h5] at h; exact Or.inl ⟨h5, (Option.some.inj h).symm⟩
          · rw [if_neg h5] at h
            refine Or.inr ?_
            by_cases h6 : w = 6
            · rw [if_pos h6] at h
              match st, h with
              | [], h => cases h
              | b :: r, h => exact Or.inl ⟨h6, b, r, rfl, (Option.some.inj h).symm⟩
            · rw [if_neg h6] at h
              refine Or.inr ?_
              by_cases h7 : w = 7
              · rw [if_pos h7] at h
                match st, h with
                | [], h => cases h
                | [b], h => cases h
                | b :: a :: r, h => exact Or.inl ⟨h7, b, a, r, rfl, (Option.some.inj h).symm⟩
              · rw [if_neg h7] at h
                by_cases h8 : w = 8
                · rw [if_pos h8] at h
                  match st, h with
                  | [], h => cases h
                  | [b], h => cases h
                  | b :: a :: r, h => exact Or.inr ⟨h8, b, a, r, rfl, (Option.some.inj h).symm⟩
                · rw [if_neg h8] at h
                  cases h
theorem yjn_p {A : Sort _} {α St : Type} {a : A} {f : A → Option (α × St)} : yjn a f = f a := Eq.trans rfl rfl
theorem yvl_p {A : Sort _} {α St : Type} {a : A} {f : A → Option (α × St)} : yvl a f = f a := Eq.trans rfl rfl
set_option maxRecDepth 100000 in
/-- one step of the reference's loop, plainly -/
theorem hl2_eq {n : Nat} {x5 x6 x7 x8 x9 x10 x11 : Int} {s : zSg} {K : zSg → Option (Int × zSg)} : gM_holdsFor_l2 (n + 1) x5 x6 x7 x8 x9 x10 x11 s K =
    yrd 104 54 x5 s fun v24 => if x11 < v24 then (yrd 1820 56 (zadd x9 x11) s fun v25 => yrd 1820 55 (zadd x9 x11) s fun v26 =>
      if v26 = 1 then ywz 130 62 x10 x6 s (fun s27 => gM_holdsFor_l2 n x5 x6 x7 x8 x9 (zadd x10 1) (zadd x11 1) s27 K)
      else if v26 = 2 then (if x7 < v25 then ywz 130 62 x10 1 s (fun s27 => gM_holdsFor_l2 n x5 x6 x7 x8 x9 (zadd x10 1) (zadd x11 1) s27 K) else ywz 130 62 x10 0 s (fun s27 => gM_holdsFor_l2 n x5 x6 x7 x8 x9 (zadd x10 1) (zadd x11 1) s27 K))
      else if v26 = 3 then (if v25 < x7 then ywz 130 62 x10 1 s (fun s27 => gM_holdsFor_l2 n x5 x6 x7 x8 x9 (zadd x10 1) (zadd x11 1) s27 K) else ywz 130 62 x10 0 s (fun s27 => gM_holdsFor_l2 n x5 x6 x7 x8 x9 (zadd x10 1) (zadd x11 1) s27 K))
      else if v26 = 4 then (if x8 < v25 then ywz 130 62 x10 1 s (fun s27 => gM_holdsFor_l2 n x5 x6 x7 x8 x9 (zadd x10 1) (zadd x11 1) s27 K) else ywz 130 62 x10 0 s (fun s27 => gM_holdsFor_l2 n x5 x6 x7 x8 x9 (zadd x10 1) (zadd x11 1) s27 K))
      else if v26 = 5 then (if v25 < x8 then ywz 130 62 x10 1 s (fun s27 => gM_holdsFor_l2 n x5 x6 x7 x8 x9 (zadd x10 1) (zadd x11 1) s27 K) else ywz 130 62 x10 0 s (fun s27 => gM_holdsFor_l2 n x5 x6 x7 x8 x9 (zadd x10 1) (zadd x11 1) s27 K))
      else if v26 = 6 then (yrd 130 62 (zsub x10 1) s fun v93 => if v93 = 0 then ywz 130 62 (zsub x10 1) 1 s (fun s27 => gM_holdsFor_l2 n x5 x6 x7 x8 x9 x10 (zadd x11 1) s27 K) else ywz 130 62 (zsub x10 1) 0 s (fun s27 => gM_holdsFor_l2 n x5 x6 x7 x8 x9 x10 (zadd x11 1) s27 K))
      else if v26 = 7 then (yrd 130 62 (zsub (zadd x10 (-1)) 1) s fun v117 => if v117 = 0 then ywz 130 62 (zsub (zadd x10 (-1)) 1) 0 s (fun s27 => gM_holdsFor_l2 n x5 x6 x7 x8 x9 (zadd x10 (-1)) (zadd x11 1) s27 K) else yrd 130 62 (zadd x10 (-1)) s fun v118 => if v118 = 0 then ywz 130 62 (zsub (zadd x10 (-1)) 1) 0 s (fun s27 => gM_holdsFor_l2 n x5 x6 x7 x8 x9 (zadd x10 (-1)) (zadd x11 1) s27 K) else ywz 130 62 (zsub (zadd x10 (-1)) 1) 1 s (fun s27 => gM_holdsFor_l2 n x5 x6 x7 x8 x9 (zadd x10 (-1)) (zadd x11 1) s27 K))
      else (yrd 130 62 (zsub (zadd x10 (-1)) 1) s fun v142 => if v142 = 0 then (yrd 130 62 (zadd x10 (-1)) s fun v143 => if v143 = 0 then ywz 130 62 (zsub (zadd x10 (-1)) 1) 0 s (fun s27 => gM_holdsFor_l2 n x5 x6 x7 x8 x9 (zadd x10 (-1)) (zadd x11 1) s27 K) else ywz 130 62 (zsub (zadd x10 (-1)) 1) 1 s (fun s27 => gM_holdsFor_l2 n x5 x6 x7 x8 x9 (zadd x10 (-1)) (zadd x11 1) s27 K)) else ywz 130 62 (zsub (zadd x10 (-1)) 1) 1 s (fun s27 => gM_holdsFor_l2 n x5 x6 x7 x8 x9 (zadd x10 (-1)) (zadd x11 1) s27 K)))
      else K s := by
  rw [gM_holdsFor_l2]
  generalize gM_holdsFor_l2 n = L
  simp only [↓yjn_p, ↓yvl_p]
theorem zs_1 {m : Nat} (h : m < 1000) : zsub ((m + 1 : Nat) : Int) 1 = (m : Int) := by rw [zsub_e (by omega) (by omega)]; omega
theorem za_1 {m : Nat} (h : m < 10000) : zadd (m : Int) 1 = ((m + 1 : Nat) : Int) := by rw [zadd_e (by omega) (by omega)]; omega
theorem za_2 {m k : Nat} (h : m + k < 10000) : zadd (m : Int) (k : Int) = ((m + k : Nat) : Int) := by rw [zadd_e (by omega) (by omega)]; omega
theorem za_m {m : Nat} (h : m < 1000) : zadd ((m + 2 : Nat) : Int) (-1) = ((m + 1 : Nat) : Int) := by
  have e : ((m + 2 : Nat) : Int) + (-1) = ((m + 1 : Nat) : Int) := by omega
  rw [zadd_e (by omega) (by omega), e]
theorem m_step_and {s : zSg} {pc g m : Nat} {p q : Bool} {K : zSg → Option (Int × zSg)} (hrow : row < 104) (e54 : s 54 row = (b : Int)) (lt : (pc : Int) < (b : Int)) (bp : base + pc < 1820) (hm : m + 1 < 130) (lm : m < 130) (hw : s 55 (base + pc) = 7) (e1 : s 62 (m + 1) = bi p) (e2 : s 62 m = bi q) (ep : zadd (pc : Int) 1 = ((pc + 1 : Nat) : Int)) (ei : zadd (base : Int) (pc : Int) = ((base + pc : Nat) : Int)) (es : zadd ((m + 2 : Nat) : Int) (-1) = ((m + 1 : Nat) : Int)) (es2 : zsub ((m + 1 : Nat) : Int) 1 = (m : Int)) : gM_holdsFor_l2 (g + 1) (row : Int) d y z (base : Int) ((m + 2 : Nat) : Int) (pc : Int) s K = gM_holdsFor_l2 g (row : Int) d y z (base : Int) ((m + 1 : Nat) : Int) ((pc + 1 : Nat) : Int) (zup s 62 m (bi (q && p))) K := by
  have n10 : ¬ (1 : Int) = 0 := by decide
  rw [hl2_eq]
  generalize gM_holdsFor_l2 g = L
  cases p <;> cases q <;> simp only [yrd_n hrow, e54, lt, if_true, ei, yrd_n bp, hw, show ¬ (7 : Int) = 1 by decide, show ¬ (7 : Int) = 2 by decide, show ¬ (7 : Int) = 3 by decide, show ¬ (7 : Int) = 4 by decide, show ¬ (7 : Int) = 5 by decide, show ¬ (7 : Int) = 6 by decide, if_false, es, es2, yrd_n lm, yrd_n hm, e1, e2, bi_f, bi_t, n10, Bool.and_true, Bool.and_false, Bool.or_true, Bool.or_false, ywz_v lm (Or.inr rfl : (1 : Int) = 0 ∨ (1 : Int) = 1), ywz_v lm (Or.inl rfl : (0 : Int) = 0 ∨ (0 : Int) = 1), ep]
theorem m_step_or {s : zSg} {pc g m : Nat} {p q : Bool} {K : zSg → Option (Int × zSg)} (hrow : row < 104) (e54 : s 54 row = (b : Int)) (lt : (pc : Int) < (b : Int)) (bp : base + pc < 1820) (hm : m + 1 < 130) (lm : m < 130) (hw : s 55 (base + pc) = 8) (e1 : s 62 (m + 1) = bi p) (e2 : s 62 m = bi q) (ep : zadd (pc : Int) 1 = ((pc + 1 : Nat) : Int)) (ei : zadd (base : Int) (pc : Int) = ((base + pc : Nat) : Int)) (es : zadd ((m + 2 : Nat) : Int) (-1) = ((m + 1 : Nat) : Int)) (es2 : zsub ((m + 1 : Nat) : Int) 1 = (m : Int)) : gM_holdsFor_l2 (g + 1) (row : Int) d y z (base : Int) ((m + 2 : Nat) : Int) (pc : Int) s K = gM_holdsFor_l2 g (row : Int) d y z (base : Int) ((m + 1 : Nat) : Int) ((pc + 1 : Nat) : Int) (zup s 62 m (bi (q || p))) K := by
  have n10 : ¬ (1 : Int) = 0 := by decide
  rw [hl2_eq]
  generalize gM_holdsFor_l2 g = L
  cases p <;> cases q <;> simp only [yrd_n hrow, e54, lt, if_true, ei, yrd_n bp, hw, show ¬ (8 : Int) = 1 by decide, show ¬ (8 : Int) = 2 by decide, show ¬ (8 : Int) = 3 by decide, show ¬ (8 : Int) = 4 by decide, show ¬ (8 : Int) = 5 by decide, show ¬ (8 : Int) = 6 by decide, show ¬ (8 : Int) = 7 by decide, if_false, es, es2, yrd_n lm, yrd_n hm, e1, e2, bi_f, bi_t, n10, Bool.and_true, Bool.and_false, Bool.or_true, Bool.or_false, ywz_v lm (Or.inr rfl : (1 : Int) = 0 ∨ (1 : Int) = 1), ywz_v lm (Or.inl rfl : (0 : Int) = 0 ∨ (0 : Int) = 1), ep]
theorem m_holds_step (d01 : d = 0 ∨ d = 1) {s : zSg} {pc g : Nat} {st t : List Bool} (hrow : row < 104) (e54 : s 54 row = (b : Int)) (hpc : pc < b) (hb : base + b ≤ 1820) (len : st.length + 1 ≤ 129) (hst : ST st s) (hs : stepC d y z (s 55 (base + pc)) (s 56 (base + pc)) st = some t) :
    ∃ s', (∀ K, gM_holdsFor_l2 (g + 1) (row : Int) d y z (base : Int) (st.length : Int) (pc : Int) s K = gM_holdsFor_l2 g (row : Int) d y z (base : Int) (t.length : Int) ((pc + 1 : Nat) : Int) s' K) ∧ ST t s' ∧ R62 s s' ∧ t.length ≤ st.length + 1 := by
  have ep : zadd (pc : Int) 1 = ((pc + 1 : Nat) : Int) := by rw [zadd_e (by omega) (by omega)]; omega
  have ei : zadd (base : Int) (pc : Int) = ((base + pc : Nat) : Int) := by rw [zadd_e (by omega) (by omega)]; omega
  have lt : ((pc : Int) < (b : Int)) = True := eq_true (by omega)
  have el : zadd (st.length : Int) 1 = ((st.length + 1 : Nat) : Int) := by rw [zadd_e (by omega) (by omega)]; omega
  obtain ⟨w, hw⟩ : ∃ w, s 55 (base + pc) = w := ⟨_, rfl⟩
  obtain ⟨x, hx⟩ : ∃ x, s 56 (base + pc) = x := ⟨_, rfl⟩
  rw [hw, hx] at hs
  have fin : ∀ v : Bool, t = v :: st → (∀ K, gM_holdsFor_l2 (g + 1) (row : Int) d y z (base : Int) (st.length : Int) (pc : Int) s K = gM_holdsFor_l2 g (row : Int) d y z (base : Int) ((st.length + 1 : Nat) : Int) ((pc + 1 : Nat) : Int) (zup s 62 st.length (bi v)) K) → ∃ s', (∀ K, gM_holdsFor_l2 (g + 1) (row : Int) d y z (base : Int) (st.length : Int) (pc : Int) s K = gM_holdsFor_l2 g (row : Int) d y z (base : Int) (t.length : Int) ((pc + 1 : Nat) : Int) s' K) ∧ ST t s' ∧ R62 s s' ∧ t.length ≤ st.length + 1 := fun v ht hk => by
    subst ht
    exact ⟨_, hk, hst.push, R62.up, Nat.le_refl _⟩
  rcases stepC_some hs with ⟨h1, ht⟩ | ⟨h1, ht⟩ | ⟨h1, ht⟩ | ⟨h1, ht⟩ | ⟨h1, ht⟩ | ⟨h1, p, r, hp, ht⟩ | ⟨h1, p, q, r, hp, ht⟩ | ⟨h1, p, q, r, hp, ht⟩
  · refine fin _ ht fun K => ?_
    have ed : bi (decide (d ≠ 0)) = d := by rcases d01 with rfl | rfl <;> rfl
    rw [hl2_eq, ed]
    simp only [yrd_n hrow, e54, lt, if_true, ei, yrd_n (show base + pc < 1820 by omega), hw, hx, h1, ywz_v (show st.length < 130 by omega) d01, el, ep]
  · refine fin _ ht fun K => ?_
    rw [hl2_eq]
    by_cases c : y < x
    · simp only [yrd_n hrow, e54, lt, if_true, ei, yrd_n (show base + pc < 1820 by omega), hw, hx, h1, show ¬ (2 : Int) = 1 by decide, if_false, c, decide_true, bi_t, ywz_v (show st.length < 130 by omega) (Or.inr rfl), el, ep]
    · simp only [yrd_n hrow, e54, lt, if_true, ei, yrd_n (show base + pc < 1820 by omega), hw, hx, h1, show ¬ (2 : Int) = 1 by decide, if_false, c, decide_false, bi_f, ywz_v (show st.length < 130 by omega) (Or.inl rfl), el, ep]
  · refine fin _ ht fun K => ?_
    rw [hl2_eq]
    by_cases c : x < y
    · simp only [yrd_n hrow, e54, lt, if_true, ei, yrd_n (show base + pc < 1820 by omega), hw, hx, h1, show ¬ (3 : Int) = 1 by decide, show ¬ (3 : Int) = 2 by decide, if_false, c, decide_true, bi_t, ywz_v (show st.length < 130 by omega) (Or.inr rfl), el, ep]
    · simp only [yrd_n hrow, e54, lt, if_true, ei, yrd_n (show base + pc < 1820 by omega), hw, hx, h1, show ¬ (3 : Int) = 1 by decide, show ¬ (3 : Int) = 2 by decide, if_false, c, decide_false, bi_f, ywz_v (show st.length < 130 by omega) (Or.inl rfl), el, ep]
  · refine fin _ ht fun K => ?_
    rw [hl2_eq]
    by_cases c : z < x
    · simp only [yrd_n hrow, e54, lt, if_true, ei, yrd_n (show base + pc < 1820 by omega), hw, hx, h1, show ¬ (4 : Int) = 1 by decide, show ¬ (4 : Int) = 2 by decide, show ¬ (4 : Int) = 3 by decide, if_false, c, decide_true, bi_t, ywz_v (show st.length < 130 by omega) (Or.inr rfl), el, ep]
    · simp only [yrd_n hrow, e54, lt, if_true, ei, yrd_n (show base + pc < 1820 by omega), hw, hx, h1, show ¬ (4 : Int) = 1 by decide, show ¬ (4 : Int) = 2 by decide, show ¬ (4 : Int) = 3 by decide, if_false, c, decide_false, bi_f, ywz_v (show st.length < 130 by omega) (Or.inl rfl), el, ep]
  · refine fin _ ht fun K => ?_
    rw [hl2_eq]
    by_cases c : x < z
    · simp only [yrd_n hrow, e54, lt, if_true, ei, yrd_n (show base + pc < 1820 by omega), hw, hx, h1, show ¬ (5 : Int) = 1 by decide, show ¬ (5 : Int) = 2 by decide, show ¬ (5 : Int) = 3 by decide, show ¬ (5 : Int) = 4 by decide, if_false, c, decide_true, bi_t, ywz_v (show st.length < 130 by omega) (Or.inr rfl), el, ep]
    · simp only [yrd_n hrow, e54, lt, if_true, ei, yrd_n (show base + pc < 1820 by omega), hw, hx, h1, show ¬ (5 : Int) = 1 by decide, show ¬ (5 : Int) = 2 by decide, show ¬ (5 : Int) = 3 by decide, show ¬ (5 : Int) = 4 by decide, if_false, c, decide_false, bi_f, ywz_v (show st.length < 130 by omega) (Or.inl rfl), el, ep]
  · subst hp
    subst ht
    have hl : (p :: r).length = r.length + 1 := rfl
    have es : zsub ((r.length + 1 : Nat) : Int) 1 = (r.length : Int) := by rw [zsub_e (by omega) (by omega)]; omega
    have e1 := hst.1
    refine ⟨zup s 62 r.length (bi (!p)), fun K => ?_, ST.push hst.2, R62.up, by show r.length + 1 ≤ r.length + 1 + 1; omega⟩
    rw [hl2_eq]
    show _ = gM_holdsFor_l2 g (row : Int) d y z (base : Int) ((r.length + 1 : Nat) : Int) ((pc + 1 : Nat) : Int) _ K
    cases p
    · simp only [hl, yrd_n hrow, e54, lt, if_true, ei, yrd_n (show base + pc < 1820 by omega), hw, hx, h1, show ¬ (6 : Int) = 1 by decide, show ¬ (6 : Int) = 2 by decide, show ¬ (6 : Int) = 3 by decide, show ¬ (6 : Int) = 4 by decide, show ¬ (6 : Int) = 5 by decide, if_false, es, yrd_n (show r.length < 130 by omega), e1, bi_f, bi_t, Bool.not_false, ywz_v (show r.length < 130 by omega) (Or.inr rfl), ep]
    · simp only [hl, yrd_n hrow, e54, lt, if_true, ei, yrd_n (show base + pc < 1820 by omega), hw, hx, h1, show ¬ (6 : Int) = 1 by decide, show ¬ (6 : Int) = 2 by decide, show ¬ (6 : Int) = 3 by decide, show ¬ (6 : Int) = 4 by decide, show ¬ (6 : Int) = 5 by decide, if_false, es, yrd_n (show r.length < 130 by omega), e1, bi_f, bi_t, Bool.not_true, show ¬ (1 : Int) = 0 by decide, ywz_v (show r.length < 130 by omega) (Or.inl rfl), ep]
  · subst hp
    subst ht
    rw [h1] at hw
    exact ⟨zup s 62 r.length (bi (q && p)), fun K => m_step_and hrow e54 (Int.ofNat_lt.mpr hpc) (by omega) (Nat.lt_of_lt_of_le (Nat.lt_succ_self _) (Nat.le_succ_of_le (Nat.le_of_succ_le len))) (by have : (p :: q :: r).length = r.length + 2 := rfl; omega) hw hst.1 hst.2.1 ep ei (za_m (by have : (p :: q :: r).length = r.length + 2 := rfl; omega)) (zs_1 (by have : (p :: q :: r).length = r.length + 2 := rfl; omega)), ST.push hst.2.2, R62.up, Nat.le_succ_of_le (Nat.le_succ _)⟩
  · subst hp
    subst ht
    rw [h1] at hw
    exact ⟨zup s 62 r.length (bi (q || p)), fun K => m_step_or hrow e54 (Int.ofNat_lt.mpr hpc) (by omega) (Nat.lt_of_lt_of_le (Nat.lt_succ_self _) (Nat.le_succ_of_le (Nat.le_of_succ_le len))) (by have : (p :: q :: r).length = r.length + 2 := rfl; omega) hw hst.1 hst.2.1 ep ei (za_m (by have : (p :: q :: r).length = r.length + 2 := rfl; omega)) (zs_1 (by have : (p :: q :: r).length = r.length + 2 := rfl; omega)), ST.push hst.2.2, R62.up, Nat.le_succ_of_le (Nat.le_succ _)⟩
/-- the code is run -/
theorem m_holds_l (d01 : d = 0 ∨ d = 1) (hrow : row < 104) (hb : base + b ≤ 1820) : ∀ (k pc g : Nat) (st t : List Bool) (s : zSg), pc + k = b → k < g → st.length + k ≤ 129 → s 54 row = (b : Int) → ST st s → runC (sh (s 55) base) (sh (s 56) base) d y z pc k st = some t →
    ∃ s', (∀ K, gM_holdsFor_l2 g (row : Int) d y z (base : Int) (st.length : Int) (pc : Int) s K = K s') ∧ ST t s' ∧ R62 s s' := by
  intro k
  induction k with
  | zero =>
    intro pc g st t s h1 h2 h3 h4 h5 h6
    obtain ⟨g, rfl⟩ : ∃ g', g = g' + 1 := ⟨g - 1, by omega⟩
    have et : st = t := Option.some.inj h6
    subst et
    refine ⟨s, fun K => ?_, h5, R62.rf⟩
    rw [hl2_eq, yrd_n hrow, h4, if_neg (by omega)]
  | succ k ih =>
    intro pc g st t s h1 h2 h3 h4 h5 h6
    obtain ⟨g, rfl⟩ : ∃ g', g = g' + 1 := ⟨g - 1, by omega⟩
    rw [runC_front] at h6
    cases hs : stepC d y z (sh (s 55) base pc) (sh (s 56) base pc) st with
    | none => rw [hs] at h6; cases h6
    | some t1 =>
      rw [hs] at h6
      obtain ⟨s1, i1, i2, i3, i4⟩ := m_holds_step (g := g) d01 hrow h4 (by omega) hb (by omega) h5 hs
      obtain ⟨s', j1, j2, j3⟩ := ih (pc + 1) g t1 t s1 (by omega) (by omega) (by omega) (by rw [i3 54 row (by decide)]; exact h4) i2 (by rw [i3.row (by decide), i3.row (by decide)]; exact h6)
      exact ⟨s', fun K => (i1 K).trans (j1 K), j2, i3.tr j3⟩
theorem m_holds {s : zSg} {c i : Nat} (d01 : d = 0 ∨ d = 1) (c12 : c ≤ 12) (i8 : i < 8) (e53 : s 53 (8 * c + i) = (a : Int)) (e54 : s 54 (8 * c + i) = (b : Int)) (b120 : b ≤ 120) (hc : a = b ∨ ∃ v, CV (sh (s 55) (140 * c)) (sh (s 56) (140 * c)) d y z a b v) : ∃ s', gM_holdsFor ((8 * c + i : Nat) : Int) d y z s = some (bi (hC (s 53) (s 54) (s 55) (s 56) d y z c i), s') ∧ R62 s s' := by
  have e1 : zmul 140 (zdiv ((8 * c + i : Nat) : Int) 8) = ((140 * c : Nat) : Int) := by
    rw [zdiv_e ⟨by omega, by omega⟩ (by omega) (by omega) (by omega), zmul_e (by omega) (by omega)]
    omega
  unfold gM_holdsFor
  simp only [yvl, yrd_n (show 8 * c + i < 104 by omega), e53, e54, e1]
  by_cases g : a = b
  · refine ⟨s, ?_, R62.rf⟩
    rw [if_pos (by omega), hC_no (by rw [e53, e54, g])]
    rfl
  · obtain ⟨v, cv⟩ := hc.resolve_left g
    have ab := cv.1
    obtain ⟨s', j1, j2, j3⟩ := m_holds_l (row := 8 * c + i) (base := 140 * c) (b := b) d01 (by omega) (by omega) (b - a) a zFU [] [v] s (by omega) (by rw [zFU_e]; omega) (by show 0 + (b - a) ≤ 129; omega) e54 trivial (cv.2 [])
    refine ⟨s', ?_, j3⟩
    rw [if_neg (by omega), hC_cv e53 e54 cv]
    have j1' : ∀ K, gM_holdsFor_l2 zFU ((8 * c + i : Nat) : Int) d y z ((140 * c : Nat) : Int) 0 (a : Int) s K = K s' := j1
    rw [j1']
    have e62 : s' 62 0 = bi v := j2.1
    show (yrd 130 62 ((0 : Nat) : Int) s' fun v145 => yrb v145 s') = _
    rw [yrd_n (by omega), e62]
    cases v <;> rfl
end HOLDS
