/-! WHAT A CONTRACT SAYS STANDS; a new contract in the invariant -/
theorem stepC_d {d e y z w x : Int} {st : List Bool} (h : decide (d ≠ 0) = decide (e ≠ 0)) : stepC d y z w x st = stepC e y z w x st := by
  unfold stepC
  rw [h]
theorem runC_d {ks ws : Nat → Int} {d e y z : Int} {a : Nat} (h : decide (d ≠ 0) = decide (e ≠ 0)) : ∀ (k : Nat) (st : List Bool), runC ks ws d y z a k st = runC ks ws e y z a k st
  | 0, _ => rfl
  | k + 1, st => by
    show (runC ks ws d y z a k st).bind (stepC d y z (ks (a + k)) (ws (a + k))) = (runC ks ws e y z a k st).bind (stepC e y z (ks (a + k)) (ws (a + k)))
    rw [runC_d h k st]
    cases runC ks ws e y z a k st with
    | none => rfl
    | some t => exact stepC_d h
theorem CV.d {ks ws : Nat → Int} {d e y z : Int} {a b : Nat} {v : Bool} (c : CV ks ws d y z a b v) (h : decide (d ≠ 0) = decide (e ≠ 0)) : CV ks ws e y z a b v := ⟨c.1, fun st => by rw [← runC_d h]; exact c.2 st⟩
theorem SA.cell {C k : Nat} {v : Int} {H : zHp} {a : Nat} {l : List Nat} (h : SA H a l) (h1 : a ≠ C) (h2 : (zct H a 0).toNat ≠ C) : SA (zwr H C k v) a l := by
  obtain ⟨g1, g2, g3, g4, g5⟩ := h
  unfold SA
  rw [zct_wr, if_neg (fun e => h1 e.1)]
  exact ⟨g1, g2, g3, g4, fun j hj => by rw [zct_wr, if_neg (fun e => h2 e.1)]; exact g5 j hj⟩
theorem CT.cell {H : zHp} {C n k : Nat} {v : Int} {f : Nat → Int} {E : Nat → Nat} (h : CT H C n f E) (hk : 3 ≤ k) : CT (zwr H C k v) C n f E := by
  obtain ⟨⟨a1, a2, a3, a4, a5⟩, b, c⟩ := h
  unfold CT
  rw [zct_wr, if_neg (by omega)]
  refine ⟨⟨a1, a2, a3, a4, a5⟩, fun j hj => by rw [zct_wr, if_neg (fun e => a4 e.1)]; exact b j hj, fun i hi => ?_⟩
  obtain ⟨c1, c2, c3⟩ := c i hi
  exact ⟨c1.cell c2 c3, c2, by rw [zct_wr, if_neg (fun e => c2 e.1)]; exact c3⟩
theorem CPar.of {c C n : Nat} {f : Nat → Int} {E : Nat → Nat} {H : zHp} {s s' : zSg} (c12 : c ≤ 12) (ct : CT H C n f E) (lk : LK s n f) (e57 : s 0 57 = 0) (e58 : s 0 58 = 0) (e59 : s 0 59 = (c : Int)) (e49 : s 49 c = 0) (e47 : s 47 c = 10) (e48 : s 48 c = 0)
    (hr : ∀ a1 a2 K', (ybd (gM_clause s) fun v s1 => gM_contract_l4 zFU a1 a2 1 v s1 K') = K' a1 a2 1 s') (hq : s' 0 57 = (n : Int)) : CPar f n s' c := by
  have n120 := lk.2.1
  have key : ∀ (H : zHp) (C : Nat) (E : Nat → Nat) (pa ac : Int), CT H C n f E → (zct H C 8 = 0 ∨ zct H C 8 = 1) → ∃ H', fContract_readAll E C pa ac H = some (1, H') ∧ CW C H H' ∧ ∃ l' i' : Nat, (l' ≤ n ∧ i' ≤ 8) ∧ ACC c C pa ac H l' i' H' s' := fun H C E pa ac ct d8 => by
    obtain ⟨r, H', v, s2, u1, u2, ⟨u3, u4⟩, q, ⟨q1, q2, q3⟩, q4⟩ := readAll_ok (pa := pa) (ac := ac) c12 ct lk e57 e58 e59 e49 e47 e48 d8
    have e1 := hr 0 0 (fun _ _ v s => some (v, s))
    have e2 := u2 0 0 (fun _ _ v s => some (v, s))
    have e3 : some ((1 : Int), s') = some (v, s2) := e1.symm.trans e2
    have e4 := Option.some.inj e3
    have ev : 1 = v := congrArg Prod.fst e4
    have es : s' = s2 := congrArg Prod.snd e4
    subst es
    have eq : q = n := by omega
    rcases q4 with ⟨-, r1, l', i', ⟨t1, t2⟩, t3⟩ | ⟨v0, -⟩
    · rw [if_pos eq] at r1
      rw [r1] at u1
      exact ⟨H', u1, u3, l', i', ⟨by omega, t2⟩, t3⟩
    · omega
  obtain ⟨H1, k1, k2, l1, i1, ⟨k3, k4⟩, ⟨k5, -⟩, -, -, k6, -⟩ := key (zwr H C 8 0) C E 0 0 (ct.cell (by omega)) (Or.inl (by rw [zct_wr, if_pos ⟨rfl, rfl⟩]))
  refine ⟨fun k hk => (ct.2.1 k hk).2, by omega, fun i hi => ?_, fun H C E pa ac ct d8 h5 h6 => ?_⟩
  · have hi' : i < i1 := by omega
    obtain ⟨⟨m1, m2⟩, a, b, m3, m4, m5, m6⟩ := k6 i hi'
    refine ⟨⟨m1, m2⟩, a, b, m3, m4, by omega, ?_⟩
    rcases m6 with m | m
    · exact Or.inl m
    · obtain ⟨v0, cv0⟩ := m
      have ab := cv0.1
      refine Or.inr fun d y z => ?_
      obtain ⟨H2, p1, p2, l2, i2, ⟨p3, p4⟩, ⟨p5, -⟩, -, -, p6, -⟩ := key (zwr (zwr (zwr H C 8 (bi (decide (d ≠ 0)))) C 9 y) C 10 z) C E 0 0 (((ct.cell (by omega)).cell (by omega)).cell (by omega)) (by
        rw [zct_wr, if_neg (by omega), zct_wr, if_neg (by omega), zct_wr, if_pos ⟨rfl, rfl⟩]
        exact bi_01 _)
      obtain ⟨-, a', b', n3, n4, n5, n6⟩ := p6 i (by omega)
      have ea : a' = a := by omega
      have eb : b' = b := by omega
      subst ea eb
      rcases n6 with n6 | ⟨v, cv⟩
      · omega
      · refine ⟨v, ?_⟩
        have z8 : zct (zwr (zwr (zwr H C 8 (bi (decide (d ≠ 0)))) C 9 y) C 10 z) C 8 = bi (decide (d ≠ 0)) := by rw [zct_wr, if_neg (by omega), zct_wr, if_neg (by omega), zct_wr, if_pos ⟨rfl, rfl⟩]
        have z9 : zct (zwr (zwr (zwr H C 8 (bi (decide (d ≠ 0)))) C 9 y) C 10 z) C 9 = y := by rw [zct_wr, if_neg (by omega), zct_wr, if_pos ⟨rfl, rfl⟩]
        have z10 : zct (zwr (zwr (zwr H C 8 (bi (decide (d ≠ 0)))) C 9 y) C 10 z) C 10 = z := by rw [zct_wr, if_pos ⟨rfl, rfl⟩]
        rw [z8, z9, z10] at cv
        exact cv.d (by by_cases g : d = 0 <;> simp [g, bi])
  · obtain ⟨H', p1, p2, l2, i2, ⟨p3, p4⟩, ⟨p5, p5'⟩, ⟨p6, p7⟩, p8, p9, p10, p11⟩ := key H C E pa ac ct d8
    have ei : (s' 49 c).toNat = i2 := by omega
    refine ⟨H', p1, p2, ⟨?_, ?_, ?_⟩, by rw [ei]; exact p10, by rw [ei]; exact p11⟩
    · rcases p6 with w | ⟨w, w2⟩
      · exact w
      · omega
    · rcases p7 with w | ⟨w, w2⟩
      · exact w
      · omega
    · omega
/-- what a contract says rests on its own rows alone -/
theorem CPar.eq2 {f : Nat → Int} {n c : Nat} {s s' : zSg} (h : CPar f n s c) (e1 : s' 47 c = s 47 c ∧ s' 48 c = s 48 c ∧ s' 49 c = s 49 c) (e2 : ∀ i, i < 8 → s' 50 (8 * c + i) = s 50 (8 * c + i) ∧ s' 51 (8 * c + i) = s 51 (8 * c + i) ∧ s' 52 (8 * c + i) = s 52 (8 * c + i) ∧ s' 53 (8 * c + i) = s 53 (8 * c + i) ∧ s' 54 (8 * c + i) = s 54 (8 * c + i))
    (e3 : ∀ j, j < 140 → s' 55 (140 * c + j) = s 55 (140 * c + j) ∧ s' 56 (140 * c + j) = s 56 (140 * c + j)) : CPar f n s' c := by
  obtain ⟨h1, h2, h3, h4⟩ := h
  obtain ⟨a47, a48, a49⟩ := e1
  have sm : ∀ d y z pa ac, sumC (s' 50) (s' 51) (s' 52) (hC (s' 53) (s' 54) (s' 55) (s' 56) d y z c) pa ac c (s 49 c).toNat = sumC (s 50) (s 51) (s 52) (hC (s 53) (s 54) (s 55) (s 56) d y z c) pa ac c (s 49 c).toNat := fun d y z pa ac => sumC_eq _ fun j hj => by
    obtain ⟨r1, r2, r3, r4, r5⟩ := e2 j (by omega)
    obtain ⟨-, a, b, k2, k3, k4, -⟩ := h3 j (by omega)
    exact ⟨r1, r2, r3, hC_eq r4 r5 k2 k3 fun j' g1 g2 => e3 j' (by omega)⟩
  unfold CPar
  rw [a47, a48, a49]
  refine ⟨h1, h2, fun i hi => ?_, fun H C E pa ac ct d8 h5 h6 => ?_⟩
  · obtain ⟨r1, r2, r3, r4, r5⟩ := e2 i (by omega)
    obtain ⟨k1, a, b, k2, k3, k4, k5⟩ := h3 i hi
    refine ⟨by rw [r3]; exact k1, a, b, by rw [r4]; exact k2, by rw [r5]; exact k3, k4, ?_⟩
    rcases k5 with k | k
    · exact Or.inl k
    · exact Or.inr fun d y z => by
        obtain ⟨v, cv⟩ := k d y z
        exact ⟨v, cv.eq fun j g1 g2 => e3 j (by omega)⟩
  · rw [sm]
    exact h4 H C E pa ac ct d8 h5 h6
section CON
variable {X : Nat} {H H' : zHp} {s s' : zSg} {A : Nat → Nat} {B : Nat → Nat → Nat} {K K' : Nat → Nat} {ow ow' : Nat → Nat × Nat}
/-- a contract told before stands -/
theorem CO.old {c : Nat} (h : CO X H s K ow c) (hn : zst H H') (hA : zown ow (1000 + c) H H') (hw : ∀ a, a ≤ znx H → ow' a = ow a) (hK : K' c = K c) (e0 : s' 45 c = s 45 c ∧ s' 46 c = s 46 c) (e1 : s' 47 c = s 47 c ∧ s' 48 c = s 48 c ∧ s' 49 c = s 49 c) (e2 : ∀ i, i < 8 → s' 50 (8 * c + i) = s 50 (8 * c + i) ∧ s' 51 (8 * c + i) = s 51 (8 * c + i) ∧ s' 52 (8 * c + i) = s 52 (8 * c + i) ∧ s' 53 (8 * c + i) = s 53 (8 * c + i) ∧ s' 54 (8 * c + i) = s 54 (8 * c + i))
    (e3 : ∀ j, j < 140 → s' 55 (140 * c + j) = s 55 (140 * c + j) ∧ s' 56 (140 * c + j) = s 56 (140 * c + j)) : CO X H' s' K' ow' c := by
  obtain ⟨⟨m0, m1⟩, q, ⟨w1, w2⟩, r, p⟩ := h
  have e : zct H' (K c + 1) = zct H (K c + 1) := funext fun k => m1.ct hA k
  unfold CO
  rw [hK, e0.1, e0.2, e1.1, e1.2.1, e1.2.2, e]
  simp only [m0.ct hA, (hn.2.2 _ m0.2.1).1, (hn.2.2 _ m1.2.1).1, (hn.2.2 _ m1.2.1).2]
  exact ⟨⟨m0.fr hn hw, m1.fr hn hw⟩, q, ⟨w1, w2⟩, r, p.eq2 e1 e2 e3⟩
theorem IV.g34 (I : IV X H s A B K ow) (h1 : zst H H') (h2 : zfx X [3, 4] H H') (h3 : zfd X (fun _ => False) H H') (h4 : zfs [3, 4, 11] s s') (hw : ∀ a, a ≤ znx H → ow' a = ow a) (g3 : G3 (zcx X H') s') (g4 : G4 (zcx X H') s' K') (co : ∀ c : Nat, (c : Int) < s' 0 44 → CO X H' s' K' ow' c) : IV X H' s' A B K' ow' := by
  obtain ⟨F, ⟨k1, k2, k3, k4, k5, k6, k7, k8, k9, k10⟩, kt, kc, ks, ko⟩ := I
  have hc : zfc [3, 4, 11] (zcx X H) (zcx X H') := fun o k a b => h2 o k a (by
    rw [List.contains_cons, List.contains_cons, Bool.or_eq_false_iff, Bool.or_eq_false_iff] at b
    simp only [List.contains_cons, b.1, b.2.1, List.contains_nil, Bool.or_false])
  have n2 : s' 0 2 = s 0 2 := h4 0 2 rfl
  have how : ∀ o, o ≠ 0 → zown ow o H H' := fun o ho a ha hb k => by
    have hx : ¬ a ≤ X + 99 := fun q => ho (by rw [← hb]; exact ko a q)
    exact h3 a (Or.inr (by omega)) ha (fun q => q) k
  refine ⟨F.fr h1 h2 rfl, ⟨k1.fr hc h4 rfl, k2.fr hc h4 rfl (fun _ _ => rfl), g3, g4, k5.fr hc h4 rfl, k6.fr hc h4 rfl, k7.fr hc h4 rfl, k8.fr hc h4 rfl, k9.fr hc h4 rfl, k10.fr hc h4 rfl⟩, fun t ht => ?_, co, ks.fr h4 rfl rfl (by rw [h4 0 8 rfl]; exact Int.le_refl _), fun a ha => ?_⟩
  · rw [n2] at ht ⊢
    obtain ⟨to, eo⟩ := kt t ht
    have hz : zts t s s' := zts.of h4 rfl
    have st := ks.1 t ht
    refine ⟨to.fr hz h1 (how _ (by omega)) hw rfl rfl (fun _ => rfl) (fun w v hv => ((st.2.1 w).2.2.2.2.2 v hv).1.2) (fun w => (st.2.2.2.1 w).2.2.2.1.2), fun w => ?_⟩
    rw [hz.1 3 (by simp)] at w
    obtain ⟨e1, e2⟩ := eo w
    obtain ⟨⟨m0, -, -, -, m4⟩, -⟩ := to.2.2.2.1 w
    refine ⟨?_, fun j hj => ?_⟩
    · rw [m0.ct (how _ (by omega)), e1]
      exact (errN_eq _ fun i _ => ⟨h4 3 i rfl, h4 4 i rfl⟩).symm
    · rw [m4.ct (how _ (by omega)), edist_eq (funext fun j => h4 26 j rfl) (funext fun j => h4 27 j rfl) (funext fun j => h4 28 j rfl) (funext fun j => h4 29 j rfl)]
      exact e2 j hj
  · rw [hw a (by have := F.2.1.1; omega)]
    exact ko a ha
end CON
