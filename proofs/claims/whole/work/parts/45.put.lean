/-! A BAR begun, a NOTE added -/
theorem zfd.of {X : Nat} {P : Nat → Prop} {H H' : zHp} (h : ∀ a k, a ≤ znx H → ¬ P a → zct H' a k = zct H a k) : zfd X P H H' := fun a _ h2 h3 k => h a k h2 h3
section PUT
variable {X : Nat} {H H' : zHp} {s : zSg} {A : Nat → Nat} {B : Nat → Nat → Nat} {K : Nat → Nat} {ow : Nat → Nat × Nat} {t v : Nat}
theorem IV.newbar (I : IV X H s A B K ow) (ht : (t : Int) < s 0 2) (hk : s 3 t = 1 ∨ s 3 t = 6) (hv : (v : Int) ≤ s 6 t - 1) (hn : s 14 (4 * t + v) < 20) (hwh : wholeN s t v = s 14 (4 * t + v)) {z : Nat} (h1 : zst H H')
    (hx : ∀ a k, a ≤ znx H → a ≠ A t + 1 → a ≠ A t + 2 → zct H' a k = zct H a k) (hr1 : ∀ k, zct H' (A t + 1) k = if k = 20 * v + (s 14 (4 * t + v)).toNat then (z : Int) else zct H (A t + 1) k) (hr2 : ∀ k, zct H' (A t + 2) k = if k = v then s 14 (4 * t + v) + 1 else zct H (A t + 2) k)
    (z1 : znx H < z) (z2 : z + 1 ≤ znx H') (z3 : ztg H' z = 1) (z4 : zct H' z 0 = ((z + 1 : Nat) : Int)) (z5 : ztg H' (z + 1) = 30) (z6 : zln H' (z + 1) = 8) (z7 : zct H' z 1 = 0) (z8 : zct H' z 2 = 0) :
    ∃ B' ow', IV X H' (zup (zup s 14 (4 * t + v) (s 14 (4 * t + v) + 1)) 13 (80 * t + 20 * v + (s 14 (4 * t + v)).toNat) 0) A B' K ow' := by
  have hn60 := I.n
  have hto := (I.to ht).1 hk
  have hs := (I.st ht).2.1 hk
  have hs6 := hs.2.1
  have hv4 : v < 4 := by omega
  obtain ⟨⟨b1, b2⟩, -, b3⟩ := hs.2.2.2.2.2 v hv4
  obtain ⟨⟨m0, m1, m2⟩, q, r, w, bb⟩ := id hto
  generalize hN : (s 14 (4 * t + v)).toNat = N at *
  have hNN : s 14 (4 * t + v) = (N : Int) := by omega
  have e14 : ∀ j, zup (zup s 14 (4 * t + v) (s 14 (4 * t + v) + 1)) 13 (80 * t + 20 * v + N) 0 14 j = if j = 4 * t + v then s 14 (4 * t + v) + 1 else s 14 j := fun j => by simp [zup]
  have e13 : ∀ j, zup (zup s 14 (4 * t + v) (s 14 (4 * t + v) + 1)) 13 (80 * t + 20 * v + N) 0 13 j = if j = 80 * t + 20 * v + N then 0 else s 13 j := fun j => by simp [zup]
  have eo : ∀ k, k ≠ 14 → k ≠ 13 → zup (zup s 14 (4 * t + v) (s 14 (4 * t + v) + 1)) 13 (80 * t + 20 * v + N) 0 k = s k := fun k h1 h2 => funext fun j => by simp [zup, h1, h2]
  generalize hs' : zup (zup s 14 (4 * t + v) (s 14 (4 * t + v) + 1)) 13 (80 * t + 20 * v + N) 0 = s' at *
  have hwb : ∀ a, X + 36 < a → True := fun _ _ => trivial
  have sch : SCh s s' t := by
    refine ⟨fun k h1 h2 h3 h4 h5 => eo k (by omega) (by omega), fun j hj => ?_, fun j hj => ?_, fun j hj => ?_, fun v' hv' b hb he => ?_⟩
    · rw [e13, if_neg (by omega)]
    · rw [eo 10 (by omega) (by omega), eo 11 (by omega) (by omega), eo 12 (by omega) (by omega)]
      exact ⟨rfl, rfl, rfl⟩
    · rw [e14, if_neg (by omega)]
    · have hb20 := ((hs.2.2.2.2.2 v' hv').1).2
      rw [eo 11 (by omega) (by omega), e13, if_neg (by
        rintro w
        have : v' = v := by omega
        subst this
        omega), e14]
      refine ⟨?_, he⟩
      split
      · rename_i e
        rw [show v' = v by omega] at hb
        omega
      · exact hb
  have new : SIs s' t := by
    obtain ⟨r1, r2, r3, r4, r5, r6⟩ := hs
    unfold SIs
    rw [eo 0 (by omega) (by omega), eo 3 (by omega) (by omega), eo 4 (by omega) (by omega), eo 5 (by omega) (by omega), eo 6 (by omega) (by omega), eo 7 (by omega) (by omega)]
    refine ⟨r1, r2, r3, r4, r5, fun v' hv' => ?_⟩
    obtain ⟨p1, p2, p3⟩ := r6 v' hv'
    rw [e14]
    by_cases ev : v' = v
    · subst ev
      rw [if_pos rfl]
      refine ⟨by omega, fun w => absurd w (by omega), fun b hb => ?_⟩
      by_cases eb : b = N
      · subst eb
        refine ⟨⟨?_, fun i hi => ?_, ?_, fun _ => ?_⟩, fun w => absurd w (by omega)⟩
        · rw [e13, if_pos rfl]; omega
        · rw [e13, if_pos rfl] at hi; omega
        · rw [e13, if_pos rfl]
          show (0 : Int) ≤ s 5 t
          omega
        · rw [e13, if_pos rfl]; omega
      · have hb' : (b : Int) < s 14 (4 * t + v') := by omega
        obtain ⟨c1, c2⟩ := p3 b hb'
        refine ⟨c1.eq (by rw [e13, if_neg (by omega)]) (fun i hi => by rw [eo 10 (by omega) (by omega), eo 11 (by omega) (by omega), eo 12 (by omega) (by omega)]; exact ⟨rfl, rfl, rfl⟩), fun _ => ?_⟩
        rw [eo 11 (by omega) (by omega), e13, if_neg (by omega)]
        exact ((whole_iff hv4 ⟨r1, r2, r3, r4, r5, r6⟩).mp (by omega)).2
    · rw [if_neg (by omega)]
      refine ⟨p1, p2, fun b hb => ?_⟩
      obtain ⟨c1, c2⟩ := p3 b hb
      refine ⟨c1.eq (by rw [e13, if_neg (by omega)]) (fun i hi => by rw [eo 10 (by omega) (by omega), eo 11 (by omega) (by omega), eo 12 (by omega) (by omega)]; exact ⟨rfl, rfl, rfl⟩), fun g => ?_⟩
      rw [eo 11 (by omega) (by omega), e13, if_neg (by omega)]
      exact c2 g
  let B' : Nat → Nat → Nat := fun u j => if u = t ∧ j = 20 * v + N then z else B u j
  let ow' : Nat → Nat × Nat := fun a => if a = z then (t + 1, 10 + 2 * (20 * v + N)) else if a = z + 1 then (t + 1, 11 + 2 * (20 * v + N)) else ow a
  have hw' : ∀ a, a ≤ znx H → ow' a = ow a := fun a ha => by
    show (if a = z then _ else if a = z + 1 then _ else ow a) = ow a
    rw [if_neg (by omega), if_neg (by omega)]
  refine ⟨B', ow', I.ch (gs := []) (t := t) h1 ?_ ?_ ?_ (fun u hu _ => sch.zts hu) ?_ (eo 3 (by omega) (by omega)) (eo 4 (by omega) (by omega)) (eo 26 (by omega) (by omega)) (eo 27 (by omega) (by omega)) (eo 28 (by omega) (by omega)) (eo 29 (by omega) (by omega)) ?_ hw' ?_ ?_ (I.2.2.2.2.1.sc ht hn60.2 hk sch new) rfl rfl rfl rfl rfl rfl rfl rfl rfl rfl (Or.inl rfl) (by omega)⟩
  · intro o k ho _
    have := m0.1
    have := I.1.2.1.1
    exact hx _ _ (by omega) (by omega) (by omega)
  · refine zfd.of fun a k ha hp => hx a k ha (fun e => hp ?_) (fun e => hp ?_)
    · rw [e]; exact ⟨m1.1, by rw [m1.2.2]⟩
    · rw [e]; exact ⟨m2.1, by rw [m2.2.2]⟩
  · intro k j hkj
    have : k ≠ 13 ∧ k ≠ 14 := by
      refine ⟨?_, ?_⟩ <;> (rintro rfl; cases (show true = false from hkj))
    rw [eo k this.2 this.1]
  · rw [eo 0 (by omega) (by omega)]
  · intro u hu j
    show (if u = t ∧ j = 20 * v + N then z else B u j) = B u j
    rw [if_neg (fun w => hu w.1)]
  · -- the thing
    have k3 : s' 3 t = s 3 t := by rw [eo 3 (by omega) (by omega)]
    refine ⟨fun _ => ?_, fun w => ?_, fun w => ?_, fun w => ?_, fun w => ?_⟩
    · unfold TOs
      rw [eo 3 (by omega) (by omega), eo 4 (by omega) (by omega), eo 5 (by omega) (by omega), eo 6 (by omega) (by omega), eo 7 (by omega) (by omega), eo 10 (by omega) (by omega), eo 11 (by omega) (by omega), eo 12 (by omega) (by omega)]
      have hA : ∀ k, zct H' (A t) k = zct H (A t) k := fun k => hx _ _ m0.2.1 (by omega) (by omega)
      simp only [hA, (h1.2.2 _ m0.2.1).1, (h1.2.2 _ m1.2.1).1, (h1.2.2 _ m1.2.1).2, (h1.2.2 _ m2.2.1).1, (h1.2.2 _ m2.2.1).2]
      refine ⟨⟨m0.fr h1 hw', m1.fr h1 hw', m2.fr h1 hw'⟩, q, r, w, fun v' hv' => ?_⟩
      obtain ⟨c1, c2⟩ := bb v' hv'
      rw [hr2, e14]
      refine ⟨?_, fun b hb => ?_⟩
      · by_cases ev : v' = v
        · rw [if_pos ev, if_pos (by omega)]
        · rw [if_neg ev, if_neg (by omega)]
          exact c1
      · have hb20 := ((hs.2.2.2.2.2 v' hv').1).2
        by_cases ev : v' = v ∧ b = N
        · obtain ⟨rfl, rfl⟩ := ev
          have hB : B' t (20 * v' + b) = z := by
            show (if t = t ∧ 20 * v' + b = 20 * v' + b then z else _) = z
            rw [if_pos ⟨rfl, rfl⟩]
          have hpos := m0.1
          have ho1 : ow' z = (t + 1, 10 + 2 * (20 * v' + b)) := by
            show (if z = z then _ else _) = _
            rw [if_pos rfl]
          have ho2 : ow' (z + 1) = (t + 1, 11 + 2 * (20 * v' + b)) := by
            show (if z + 1 = z then _ else if z + 1 = z + 1 then _ else _) = _
            rw [if_neg (by omega), if_pos rfl]
          have h0 := m0.2.1
          rw [hB, hr1, if_pos rfl]
          refine ⟨rfl, ⟨⟨by omega, by omega, ho1⟩, ⟨by omega, z2, ho2⟩, z3, z4, z5, z6⟩, ?_⟩
          rw [e13, if_pos rfl]
          exact ⟨z7, z8, by omega, fun i hi => absurd hi (by omega)⟩
        · have hb' : (b : Int) < s 14 (4 * t + v') := by
            by_cases e : v' = v
            · subst e
              rw [if_pos rfl] at hb
              omega
            · rw [if_neg (by omega)] at hb
              exact hb
          obtain ⟨d1, d2, d3⟩ := c2 b hb'
          have hj : ¬ 20 * v' + b = 20 * v + N := by omega
          have hB : B' t (20 * v' + b) = B t (20 * v' + b) := by
            show (if t = t ∧ 20 * v' + b = 20 * v + N then z else _) = _
            rw [if_neg (fun w => hj w.2)]
          obtain ⟨n0, n1, -⟩ := id d2
          have f0 : ∀ k, zct H' (B t (20 * v' + b)) k = zct H (B t (20 * v' + b)) k := fun k => hx _ _ n0.2.1 (n0.ne m1 (Or.inl (by omega))) (n0.ne m2 (Or.inl (by omega)))
          have f1 : ∀ k, zct H' (B t (20 * v' + b) + 1) k = zct H (B t (20 * v' + b) + 1) k := fun k => hx _ _ n1.2.1 (n1.ne m1 (Or.inl (by omega))) (n1.ne m2 (Or.inl (by omega)))
          rw [hB, hr1, if_neg hj]
          exact ⟨d1, d2.fc h1 (f0 0) hw', d3.fc f0 f1 (by rw [e13, if_neg (by omega)]) (fun _ _ => rfl) (fun _ _ => rfl) (fun _ _ => rfl)⟩
    · rw [k3] at w; omega
    · rw [k3] at w; omega
    · rw [k3] at w; omega
    · rw [k3] at w; omega
  · intro w
    rw [eo 3 (by omega) (by omega)] at w
    omega
theorem IV.addnote (I : IV X H s A B K ow) (ht : (t : Int) < s 0 2) (hk : s 3 t = 1 ∨ s 3 t = 6) (hv : (v : Int) ≤ s 6 t - 1) {N m : Nat} (hN : s 14 (4 * t + v) = (N : Int) + 1) (hm : s 13 (80 * t + 20 * v + N) = (m : Int)) (hm7 : m ≤ 7) {p l tt c : Int} (hnr : NR 1 60 p l tt) (hc : c = ncode p l tt)
    (hsum : zsum (sh (s 11) (8 * (80 * t + 20 * v + N))) m + l ≤ s 5 t) (hlast : zsum (sh (s 11) (8 * (80 * t + 20 * v + N))) m + l < s 5 t → m ≤ 6) (h1 : zst H H')
    (hx : ∀ a k, a ≤ znx H → a ≠ B t (20 * v + N) → a ≠ B t (20 * v + N) + 1 → zct H' a k = zct H a k) (hr0 : zct H' (B t (20 * v + N)) 0 = zct H (B t (20 * v + N)) 0) (hr1 : zct H' (B t (20 * v + N)) 1 = (m : Int) + 1) (hr2 : zct H' (B t (20 * v + N)) 2 = zct H (B t (20 * v + N)) 2 + l) (hr3 : ∀ k, zct H' (B t (20 * v + N) + 1) k = if k = m then c else zct H (B t (20 * v + N) + 1) k) :
    IV X H' (zup (zup (zup (zup s 10 (8 * (80 * t + 20 * v + N) + m) p) 11 (8 * (80 * t + 20 * v + N) + m) l) 12 (8 * (80 * t + 20 * v + N) + m) tt) 13 (80 * t + 20 * v + N) ((m : Int) + 1)) A B K ow := by
  have hn60 := I.n
  have hto := (I.to ht).1 hk
  have hs := (I.st ht).2.1 hk
  have hs6 := hs.2.1
  have hv4 : v < 4 := by omega
  have hN20 := ((hs.2.2.2.2.2 v hv4).1).2
  obtain ⟨⟨m0, m1, m2⟩, q, r, w, bb⟩ := id hto
  obtain ⟨do_, dv_, di_⟩ := I.bar (b := N) ht hk hv4 (by omega)
  have hl : 1 ≤ l ∧ l ≤ 12 := ⟨hnr.2.1, hnr.2.2.1⟩
  have e13 : ∀ j, zup (zup (zup (zup s 10 (8 * (80 * t + 20 * v + N) + m) p) 11 (8 * (80 * t + 20 * v + N) + m) l) 12 (8 * (80 * t + 20 * v + N) + m) tt) 13 (80 * t + 20 * v + N) ((m : Int) + 1) 13 j = if j = 80 * t + 20 * v + N then (m : Int) + 1 else s 13 j := fun j => by simp [zup]
  have e10 : ∀ j, zup (zup (zup (zup s 10 (8 * (80 * t + 20 * v + N) + m) p) 11 (8 * (80 * t + 20 * v + N) + m) l) 12 (8 * (80 * t + 20 * v + N) + m) tt) 13 (80 * t + 20 * v + N) ((m : Int) + 1) 10 j = if j = 8 * (80 * t + 20 * v + N) + m then p else s 10 j := fun j => by simp [zup]
  have e11 : ∀ j, zup (zup (zup (zup s 10 (8 * (80 * t + 20 * v + N) + m) p) 11 (8 * (80 * t + 20 * v + N) + m) l) 12 (8 * (80 * t + 20 * v + N) + m) tt) 13 (80 * t + 20 * v + N) ((m : Int) + 1) 11 j = if j = 8 * (80 * t + 20 * v + N) + m then l else s 11 j := fun j => by simp [zup]
  have e12 : ∀ j, zup (zup (zup (zup s 10 (8 * (80 * t + 20 * v + N) + m) p) 11 (8 * (80 * t + 20 * v + N) + m) l) 12 (8 * (80 * t + 20 * v + N) + m) tt) 13 (80 * t + 20 * v + N) ((m : Int) + 1) 12 j = if j = 8 * (80 * t + 20 * v + N) + m then tt else s 12 j := fun j => by simp [zup]
  have eo : ∀ k, k ≠ 10 → k ≠ 11 → k ≠ 12 → k ≠ 13 → zup (zup (zup (zup s 10 (8 * (80 * t + 20 * v + N) + m) p) 11 (8 * (80 * t + 20 * v + N) + m) l) 12 (8 * (80 * t + 20 * v + N) + m) tt) 13 (80 * t + 20 * v + N) ((m : Int) + 1) k = s k := fun k h1 h2 h3 h4 => funext fun j => by simp [zup, h1, h2, h3, h4]
  generalize zup (zup (zup (zup s 10 (8 * (80 * t + 20 * v + N) + m) p) 11 (8 * (80 * t + 20 * v + N) + m) l) 12 (8 * (80 * t + 20 * v + N) + m) tt) 13 (80 * t + 20 * v + N) ((m : Int) + 1) = s' at *
  have zs : zsum (sh (s' 11) (8 * (80 * t + 20 * v + N))) (m + 1) = zsum (sh (s 11) (8 * (80 * t + 20 * v + N))) m + l := by
    show zsum (sh (s' 11) (8 * (80 * t + 20 * v + N))) m + sh (s' 11) (8 * (80 * t + 20 * v + N)) m = _
    rw [zsum_eq (g := sh (s 11) (8 * (80 * t + 20 * v + N))) m fun i hi => by simp only [sh]; rw [e11, if_neg (by omega)]]
    simp only [sh]
    rw [e11, if_pos rfl]
  have far : ∀ v' b : Nat, b < 20 → v' < 4 → ¬ (v' = v ∧ b = N) → s' 13 (80 * t + 20 * v' + b) = s 13 (80 * t + 20 * v' + b) ∧ ∀ i, i < 8 → s' 10 (8 * (80 * t + 20 * v' + b) + i) = s 10 (8 * (80 * t + 20 * v' + b) + i) ∧ s' 11 (8 * (80 * t + 20 * v' + b) + i) = s 11 (8 * (80 * t + 20 * v' + b) + i) ∧ s' 12 (8 * (80 * t + 20 * v' + b) + i) = s 12 (8 * (80 * t + 20 * v' + b) + i) := fun v' b hb hv' hne => by
    refine ⟨by rw [e13, if_neg (by omega)], fun i hi => ?_⟩
    rw [e10, e11, e12, if_neg (by omega), if_neg (by omega), if_neg (by omega)]
    exact ⟨rfl, rfl, rfl⟩
  have sch : SCh s s' t := by
    refine ⟨fun k h1 h2 h3 h4 h5 => eo k h1 h2 h3 h4, fun j hj => by rw [e13, if_neg (by omega)], fun j hj => ?_, fun j hj => by rw [eo 14 (by omega) (by omega) (by omega) (by omega)], fun v' hv' b hb he => ?_⟩
    · rw [e10, e11, e12, if_neg (by omega), if_neg (by omega), if_neg (by omega)]
      exact ⟨rfl, rfl, rfl⟩
    · have hb20 := ((hs.2.2.2.2.2 v' hv').1).2
      rw [eo 14 (by omega) (by omega) (by omega) (by omega)]
      refine ⟨hb, ?_⟩
      have hne : ¬ (v' = v ∧ b = N) := by
        rintro ⟨rfl, rfl⟩
        rw [hm, Int.toNat_natCast] at he
        omega
      obtain ⟨f1, f2⟩ := far v' b (by omega) hv' hne
      have b8 := ((hs.2.2.2.2.2 v' hv').2.2 b hb).1.1
      rw [f1, ← he]
      exact zsum_eq _ fun i hi => (f2 i (by omega)).2.1
  have new : SIs s' t := by
    obtain ⟨r1, r2, r3, r4, r5, r6⟩ := hs
    unfold SIs
    rw [eo 0 (by omega) (by omega) (by omega) (by omega), eo 3 (by omega) (by omega) (by omega) (by omega), eo 4 (by omega) (by omega) (by omega) (by omega), eo 5 (by omega) (by omega) (by omega) (by omega), eo 6 (by omega) (by omega) (by omega) (by omega), eo 7 (by omega) (by omega) (by omega) (by omega), eo 14 (by omega) (by omega) (by omega) (by omega)]
    refine ⟨r1, r2, r3, r4, r5, fun v' hv' => ?_⟩
    obtain ⟨p1, p2, p3⟩ := r6 v' hv'
    refine ⟨p1, p2, fun b hb => ?_⟩
    obtain ⟨c1, c2⟩ := p3 b hb
    by_cases hne : v' = v ∧ b = N
    · obtain ⟨rfl, rfl⟩ := hne
      have em : (s' 13 (80 * t + 20 * v' + b)).toNat = m + 1 := by rw [e13, if_pos rfl]; omega
      refine ⟨⟨by rw [e13, if_pos rfl]; omega, fun i hi => ?_, by rw [em, zs]; exact hsum, fun g => ?_⟩, fun g => absurd g (by omega)⟩
      · rw [e13, if_pos rfl] at hi
        rw [e10, e11, e12]
        by_cases ei : i = m
        · rw [if_pos (by omega), if_pos (by omega), if_pos (by omega)]
          exact hnr
        · rw [if_neg (by omega), if_neg (by omega), if_neg (by omega)]
          exact c1.2.1 i (by omega)
      · rw [em, zs] at g
        have := hlast g
        rw [e13, if_pos rfl]
        omega
    · obtain ⟨f1, f2⟩ := far v' b (by omega) hv' hne
      refine ⟨c1.eq f1 f2, fun g => ?_⟩
      rw [f1, ← c2 g]
      exact zsum_eq _ fun i hi => (f2 i (by have := c1.1; omega)).2.1
  obtain ⟨n0, n1, -⟩ := id do_
  refine I.ch (gs := []) (t := t) h1 ?_ ?_ ?_ (fun u hu _ => sch.zts hu) ?_ (eo 3 (by omega) (by omega) (by omega) (by omega)) (eo 4 (by omega) (by omega) (by omega) (by omega)) (eo 26 (by omega) (by omega) (by omega) (by omega)) (eo 27 (by omega) (by omega) (by omega) (by omega)) (eo 28 (by omega) (by omega) (by omega) (by omega)) (eo 29 (by omega) (by omega) (by omega) (by omega)) (fun _ _ _ => rfl) (fun _ _ => rfl) ?_ ?_ (I.2.2.2.2.1.sc ht hn60.2 hk sch new) rfl rfl rfl rfl rfl rfl rfl rfl rfl rfl (Or.inl rfl) (by omega)
  · intro o k ho _
    have := n0.1
    have := I.1.2.1.1
    exact hx _ _ (by omega) (by omega) (by omega)
  · refine zfd.of fun a k ha hp => hx a k ha (fun e => hp ?_) (fun e => hp ?_)
    · rw [e]; exact ⟨n0.1, by rw [n0.2.2]⟩
    · rw [e]; exact ⟨n1.1, by rw [n1.2.2]⟩
  · intro k j hkj
    have : k ≠ 10 ∧ k ≠ 11 ∧ k ≠ 12 ∧ k ≠ 13 := by
      refine ⟨?_, ?_, ?_, ?_⟩ <;> (rintro rfl; cases (show true = false from hkj))
    rw [eo k this.1 this.2.1 this.2.2.1 this.2.2.2]
  · rw [eo 0 (by omega) (by omega) (by omega) (by omega)]
  · have k3 : s' 3 t = s 3 t := by rw [eo 3 (by omega) (by omega) (by omega) (by omega)]
    refine ⟨fun _ => ?_, fun w => ?_, fun w => ?_, fun w => ?_, fun w => ?_⟩
    · unfold TOs
      rw [eo 3 (by omega) (by omega) (by omega) (by omega), eo 4 (by omega) (by omega) (by omega) (by omega), eo 5 (by omega) (by omega) (by omega) (by omega), eo 6 (by omega) (by omega) (by omega) (by omega), eo 7 (by omega) (by omega) (by omega) (by omega), eo 14 (by omega) (by omega) (by omega) (by omega)]
      have hA : ∀ k, zct H' (A t) k = zct H (A t) k := fun k => hx _ _ m0.2.1 (m0.ne n0 (Or.inl (by omega))) (m0.ne n1 (Or.inl (by omega)))
      have hA1 : ∀ k, zct H' (A t + 1) k = zct H (A t + 1) k := fun k => hx _ _ m1.2.1 (m1.ne n0 (Or.inl (by omega))) (m1.ne n1 (Or.inl (by omega)))
      have hA2 : ∀ k, zct H' (A t + 2) k = zct H (A t + 2) k := fun k => hx _ _ m2.2.1 (m2.ne n0 (Or.inl (by omega))) (m2.ne n1 (Or.inl (by omega)))
      simp only [hA, hA1, hA2, (h1.2.2 _ m0.2.1).1, (h1.2.2 _ m1.2.1).1, (h1.2.2 _ m1.2.1).2, (h1.2.2 _ m2.2.1).1, (h1.2.2 _ m2.2.1).2]
      refine ⟨⟨m0.fr h1 (fun _ _ => rfl), m1.fr h1 (fun _ _ => rfl), m2.fr h1 (fun _ _ => rfl)⟩, q, r, w, fun v' hv' => ?_⟩
      obtain ⟨c1, c2⟩ := bb v' hv'
      refine ⟨c1, fun b hb => ?_⟩
      have hb20 := ((hs.2.2.2.2.2 v' hv').1).2
      obtain ⟨d1, d2, d3⟩ := c2 b hb
      by_cases hne : v' = v ∧ b = N
      · obtain ⟨rfl, rfl⟩ := hne
        refine ⟨d1, d2.fc h1 hr0 (fun _ _ => rfl), ?_⟩
        rw [e13, if_pos rfl]
        refine ⟨hr1, ?_, by omega, fun i hi => ?_⟩
        · rw [hr2, d3.2.1, hm, Int.toNat_natCast, show ((m : Int) + 1).toNat = m + 1 by omega, zs]
        · rw [hr3]
          simp only [sh]
          rw [e10, e11, e12]
          by_cases ei : i = m
          · rw [if_pos ei, if_pos (by omega), if_pos (by omega), if_pos (by omega)]
            exact hc
          · rw [if_neg ei, if_neg (by omega), if_neg (by omega), if_neg (by omega)]
            exact d3.2.2.2 i (by omega)
      · obtain ⟨f1, f2⟩ := far v' b (by omega) hv' hne
        obtain ⟨x0, x1, -⟩ := id d2
        have g0 : ∀ k, zct H' (B t (20 * v' + b)) k = zct H (B t (20 * v' + b)) k := fun k => hx _ _ x0.2.1 (x0.ne n0 (Or.inl (by omega))) (x0.ne n1 (Or.inl (by omega)))
        have g1 : ∀ k, zct H' (B t (20 * v' + b) + 1) k = zct H (B t (20 * v' + b) + 1) k := fun k => hx _ _ x1.2.1 (x1.ne n0 (Or.inl (by omega))) (x1.ne n1 (Or.inl (by omega)))
        exact ⟨d1, d2.fc h1 (g0 0) (fun _ _ => rfl), d3.fc g0 g1 f1 (fun i hi => (f2 i hi).1) (fun i hi => (f2 i hi).2.1) (fun i hi => (f2 i hi).2.2)⟩
    · rw [k3] at w; omega
    · rw [k3] at w; omega
    · rw [k3] at w; omega
    · rw [k3] at w; omega
  · intro w
    rw [eo 3 (by omega) (by omega) (by omega) (by omega)] at w
    omega
end PUT
