section ADD
variable {X : Nat} {H H' : zHp} {s s' : zSg} {A A' : Nat → Nat} {B B' : Nat → Nat → Nat} {K : Nat → Nat} {ow ow' : Nat → Nat × Nat} {gs : List Nat} {n x : Nat}
theorem alike_eq {q r : Nat} (hq : s' 29 q = s 29 q) (hr : s' 29 r = s 29 r) (b : s 29 q ≤ 8) (b2 : s 29 r ≤ 8) (h : ∀ i, i < 8 → (s' 26 (8 * q + i) = s 26 (8 * q + i) ∧ s' 27 (8 * q + i) = s 27 (8 * q + i) ∧ s' 28 (8 * q + i) = s 28 (8 * q + i)) ∧ s' 26 (8 * r + i) = s 26 (8 * r + i) ∧ s' 27 (8 * r + i) = s 27 (8 * r + i) ∧ s' 28 (8 * r + i) = s 28 (8 * r + i)) : alike s' q r = alike s q r := by
  unfold alike
  rw [hq, hr]
  congr 1
  rw [Bool.eq_iff_iff, List.all_eq_true, List.all_eq_true]
  refine ⟨fun g i hi => ?_, fun g i hi => ?_⟩
  · have g' := g i hi
    rw [List.mem_range] at hi
    obtain ⟨⟨a1, a2, a3⟩, b1, b2, b3⟩ := h i (by omega)
    rw [a1, a2, a3, b1, b2, b3] at g'
    exact g'
  · have g' := g i hi
    rw [List.mem_range] at hi
    obtain ⟨⟨a1, a2, a3⟩, b1, b2, b3⟩ := h i (by omega)
    rw [a1, a2, a3, b1, b2, b3]
    exact g'
theorem edL_m {e v q : Nat} (h : q ∈ edL s e v) (hv : v < 4) : ∃ j, j < 80 ∧ q = 80 * e + j := by
  unfold edL at h
  rw [List.mem_map] at h
  obtain ⟨k, hk, rfl⟩ := h
  rw [List.mem_filter, List.mem_range] at hk
  exact ⟨20 * v + k, by omega, by omega⟩
theorem edD_eq {c c' : Nat → Nat → Bool} {f g : Nat → Nat} {m k : Nat} (h : ∀ i j, i < m → j < k → c' (f i) (g j) = c (f i) (g j)) : ∀ i, i ≤ m → ∀ j, j ≤ k → edD c' f g i j = edD c f g i j := by
  intro i
  induction i with
  | zero => intro _ j _; rfl
  | succ i ih =>
    intro hi j hj
    show edrow (edD c' f g i) (i + 1) (fun j => c' (f i) (g j)) j = edrow (edD c f g i) (i + 1) (fun j => c (f i) (g j)) j
    induction j with
    | zero => rfl
    | succ j jh =>
      show min (min (edD c' f g i j + if c' (f i) (g j) then 0 else 1) (edD c' f g i (j + 1) + 1)) (edrow _ _ _ j + 1) = min (min (edD c f g i j + if c (f i) (g j) then 0 else 1) (edD c f g i (j + 1) + 1)) (edrow _ _ _ j + 1)
      rw [ih (by omega) j (by omega), ih (by omega) (j + 1) (by omega), h i j (by omega) (by omega), jh (by omega)]
theorem edist_blk {a b : Nat} (ha : ∀ j, j < 80 → s' 29 (80 * a + j) = s 29 (80 * a + j) ∧ s 29 (80 * a + j) ≤ 8) (hb : ∀ j, j < 80 → s' 29 (80 * b + j) = s 29 (80 * b + j) ∧ s 29 (80 * b + j) ≤ 8)
    (na : ∀ j, j < 640 → s' 26 (640 * a + j) = s 26 (640 * a + j) ∧ s' 27 (640 * a + j) = s 27 (640 * a + j) ∧ s' 28 (640 * a + j) = s 28 (640 * a + j)) (nb : ∀ j, j < 640 → s' 26 (640 * b + j) = s 26 (640 * b + j) ∧ s' 27 (640 * b + j) = s 27 (640 * b + j) ∧ s' 28 (640 * b + j) = s 28 (640 * b + j)) : edist s' a b = edist s a b := by
  have lv : ∀ e v, v < 4 → (∀ j, j < 80 → s' 29 (80 * e + j) = s 29 (80 * e + j)) → edL s' e v = edL s e v := fun e v hv h => by
    unfold edL
    congr 1
    refine List.filter_congr fun k hk => ?_
    rw [List.mem_range] at hk
    rw [show 80 * e + 20 * v + k = 80 * e + (20 * v + k) by omega, h _ (by omega)]
  have dv : ∀ v, v < 4 → edV s' a b v = edV s a b v := fun v hv => by
    unfold edV
    rw [lv a v hv fun j hj => (ha j hj).1, lv b v hv fun j hj => (hb j hj).1]
    refine edD_eq (m := (edL s a v).length) (k := (edL s b v).length) (fun i j hi hj => ?_) _ (Nat.le_refl _) _ (Nat.le_refl _)
    obtain ⟨p, hp, ep⟩ := edL_m (List.getElem_mem hi) hv
    obtain ⟨q, hq, eq⟩ := edL_m (List.getElem_mem hj) hv
    have ga : (edL s a v).getD i 0 = 80 * a + p := by rw [List.getD_eq_getElem?_getD, List.getElem?_eq_getElem hi, Option.getD_some, ep]
    have gb : (edL s b v).getD j 0 = 80 * b + q := by rw [List.getD_eq_getElem?_getD, List.getElem?_eq_getElem hj, Option.getD_some, eq]
    rw [ga, gb]
    refine alike_eq (ha p hp).1 (hb q hq).1 (ha p hp).2 (hb q hq).2 fun i hi => ?_
    have e1 := na (8 * p + i) (by omega)
    have e2 := nb (8 * q + i) (by omega)
    rw [show 640 * a + (8 * p + i) = 8 * (80 * a + p) + i by omega] at e1
    rw [show 640 * b + (8 * q + i) = 8 * (80 * b + q) + i by omega] at e2
    exact ⟨e1, e2⟩
  unfold edist
  rw [dv 0 (by omega), dv 1 (by omega), dv 2 (by omega), dv 3 (by omega)]
theorem IV.add (I : IV X H s A B K ow) (hn : s 0 2 = (n : Int)) (h59 : n ≤ 59) (h1 : zst H H') (h2 : zfx X [10] H H') (h04 : zct H' X 4 = ((n + 1 : Nat) : Int)) (h02 : ∀ k, zct H' (X + 2) k = if k = n then ((A' n : Nat) : Int) else zct H (X + 2) k) (h3 : zfd X (fun a => X + 99 < a ∧ (ow a).1 = x + 1) H H') (h4 : zfs (10 :: gs) s s')
    (hz : NCh n s s') (n2 : s' 0 2 = ((n + 1 : Nat) : Int)) (hA : ∀ u, u ≠ n → A' u = A u) (hB : ∀ u, u ≠ n → u ≠ x → ∀ j, B' u j = B u j) (hw : ∀ a, a ≤ znx H → ow' a = ow a) (to : TO X H' s' A' B' ow' n) (eo : EO H' s' A' (n + 1) n) (tx : x < n → TO X H' s' A' B' ow' x ∧ EO H' s' A' (n + 1) x) (k7 : ∀ u, u < n → u ≠ x → ¬ (s' 3 n = 7 ∧ s' 4 n = (u : Int))) (si : SI s')
    (g : gs = [] ∨ gs = [11]) (hx : x ≤ n) : IV X H' s' A' B' K ow' := by
  obtain ⟨F, ⟨k1, k2, k3, k4, k5, k6, k7', k8, k9, k10⟩, kt, kc, ks, ko⟩ := I
  have cons : ∀ q, q ≠ 10 → q ≠ 11 → (10 :: gs).contains q = false := fun q hq1 hq2 => by
    rcases g with rfl | rfl
    · simp [hq1]
    · simp [hq1, hq2]
  have hc : zfc (10 :: gs) (zcx X H) (zcx X H') := fun o k a b => h2 o k a (by
    rw [List.contains_cons, Bool.or_eq_false_iff] at b
    simp only [List.contains_cons, b.1, List.contains_nil, Bool.or_false])
  have hc1 : zfc [10] (zcx X H) (zcx X H') := fun o k a b => h2 o k a b
  have n44 : s' 0 44 = s 0 44 := h4 0 44 (cons 4 (by decide) (by decide))
  have how : ∀ o, o ≠ 0 → o ≠ x + 1 → zown ow o H H' := fun o ho h9 a ha hb k => by
    have hx : ¬ a ≤ X + 99 := fun q => ho (by rw [← hb]; exact ko a q)
    exact h3 a (Or.inr (by omega)) ha (fun w => h9 (hb.symm.trans w.2)) k
  refine ⟨F.fr h1 h2 rfl, ⟨k1.fr hc h4 (cons _ (by decide) (by decide)), k2.fr hc h4 (cons _ (by decide) (by decide)) (fun k hk => hA _ ?_), k3.fr hc h4 (cons _ (by decide) (by decide)), ?_, k5.fr hc h4 (cons _ (by decide) (by decide)), k6.fr hc h4 (cons _ (by decide) (by decide)), k7'.fr hc h4 (cons _ (by decide) (by decide)), k8.fr hc h4 (cons _ (by decide) (by decide)), k9.fr hc h4 (cons _ (by decide) (by decide)), ?_⟩, fun u hu => ?_, fun c hcn => ?_, si, fun a ha => ?_⟩
  · have := (ks.2.2.2 k hk).1
    have := (k2.2.2.2 k hk).2
    omega
  · obtain ⟨a1, a2, a3, a4⟩ := k4
    unfold G4
    rw [hc1 0 12 (by omega) rfl, n44]
    exact ⟨a1, a2, a3, fun k hk => by rw [hc1 11 k (by omega) rfl]; exact a4 k hk⟩
  · obtain ⟨a1, a2, a3, a4⟩ := k10
    refine ⟨?_, by omega, by omega, fun k hk => ?_⟩
    · rw [n2]; exact h04
    · show zct H' (X + 2) k = _
      rw [h02]
      by_cases e : k = n
      · rw [if_pos e, e]
      · rw [if_neg e, hA k e]
        exact a4 k (by omega)
  · rw [n2, Int.toNat_natCast]
    by_cases e : u = n
    · subst e
      exact ⟨to, eo⟩
    · by_cases e' : u = x
      · subst e'
        exact tx (by omega)
      · have hu' : (u : Int) < s 0 2 := by omega
        obtain ⟨tu, eu⟩ := kt u hu'
        have st := ks.1 u hu'
        have hz' := hz.zts e
        have h4u : (s 4 u).toNat ≠ n := by
          obtain ⟨q0, q1, q2, q3, q4, q5⟩ := st
          by_cases w : s 3 u = 1
          · have := (q1 (Or.inl w)).2.2.2.1 w; omega
          · by_cases w6 : s 3 u = 6
            · have := (q1 (Or.inr w6)).2.2.2.2.1 w6; omega
            · by_cases w2 : s 3 u = 2 ∨ s 3 u = 5
              · have := (q2 w2).1; omega
              · by_cases w3 : s 3 u = 3
                · have := (q3 w3).1; omega
                · by_cases w4 : s 3 u = 4
                  · have := (q4 w4).1; omega
                  · have := (q5 (by omega)).1; omega
        refine ⟨tu.fr hz' h1 (how _ (by omega) (by omega)) hw (hA u e) (hA _ h4u) (hB u e e') (fun w v hv => ((st.2.1 w).2.2.2.2.2 v hv).1.2) (fun w => (st.2.2.2.1 w).2.2.2.1.2), fun w => ?_⟩
        rw [hz'.1 3 (by omega)] at w
        obtain ⟨f1, f2⟩ := eu w
        obtain ⟨⟨m0, -, -, -, m4⟩, -⟩ := tu.2.2.2.1 w
        rw [hA u e]
        refine ⟨?_, fun j hj => ?_⟩
        · rw [m0.ct (how _ (by omega) (by omega)), f1]
          show errN s u (s 0 2).toNat = errN s' u n + if s' 3 n = 7 ∧ s' 4 n = (u : Int) then 1 else 0
          rw [if_neg (k7 u (by omega) e'), Int.add_zero, hn, Int.toNat_natCast]
          exact (errN_eq _ fun i hi => ⟨(hz.zts (u := i) (by omega)).1 3 (by omega), (hz.zts (u := i) (by omega)).1 4 (by omega)⟩).symm
        · have b8 : ∀ v : Nat, (v : Int) < s 0 2 → ∀ j, j < 80 → s 29 (80 * v + j) ≤ 8 := fun v hv j hj => by
            by_cases w4 : s 3 v = 4
            · exact (((ks.1 v hv).2.2.2.2.1 w4).2.2.2 j hj).1.2
            · rw [(ks.2.2.1 v hv).1 w4 j hj]; omega
          have zj := hz.zts (u := j) (by omega)
          rw [m4.ct (how _ (by omega) (by omega)), edist_blk (fun j hj => ⟨hz'.2.2.2.2.1 29 (by omega) j hj, b8 u hu' j hj⟩) (fun i hi => ⟨zj.2.2.2.2.1 29 (by omega) i hi, b8 j (by omega) i hi⟩) (fun i hi => ⟨hz'.2.2.2.2.2 26 (by omega) i hi, hz'.2.2.2.2.2 27 (by omega) i hi, hz'.2.2.2.2.2 28 (by omega) i hi⟩) (fun i hi => ⟨zj.2.2.2.2.2 26 (by omega) i hi, zj.2.2.2.2.2 27 (by omega) i hi, zj.2.2.2.2.2 28 (by omega) i hi⟩)]
          exact f2 j hj
  · rw [n44] at hcn
    have := k4.2.2.1
    exact (kc c hcn).fr h4 (cons _ (by decide) (by decide)) h1 (how _ (by omega) (by omega)) hw
  · rw [hw a (by have := F.2.1.1; omega)]
    exact ko a ha
end ADD
