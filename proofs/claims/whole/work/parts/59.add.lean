/-! A NEW THING -/
def NCh (n : Nat) (s s' : zSg) : Prop := (∀ k, k = 3 ∨ k = 4 ∨ k = 5 ∨ k = 6 ∨ k = 7 ∨ k = 30 ∨ k = 31 ∨ k = 32 ∨ k = 64 → ∀ u, u ≠ n → s' k u = s k u) ∧ (∀ j, j / 4 ≠ n → s' 14 j = s 14 j ∧ s' 75 j = s 75 j) ∧ (∀ j, j / 8 ≠ n → s' 23 j = s 23 j) ∧ (∀ j, j / 64 ≠ n → s' 20 j = s 20 j ∧ s' 21 j = s 21 j ∧ s' 22 j = s 22 j) ∧
  (∀ j, j / 80 ≠ n → s' 13 j = s 13 j ∧ s' 29 j = s 29 j) ∧ ∀ j, j / 640 ≠ n → s' 10 j = s 10 j ∧ s' 11 j = s 11 j ∧ s' 12 j = s 12 j ∧ s' 26 j = s 26 j ∧ s' 27 j = s 27 j ∧ s' 28 j = s 28 j
theorem NCh.zts {n u : Nat} {s s' : zSg} (h : NCh n s s') (hu : u ≠ n) : zts u s s' := by
  obtain ⟨h1, h2, h3, h4, h5, h6⟩ := h
  refine ⟨fun k hk => h1 k hk u hu, fun v hv => h2 _ (by omega), fun j hj => h3 _ (by omega), fun k hk j hj => ?_, fun k hk j hj => ?_, fun k hk j hj => ?_⟩
  · have := h4 (64 * u + j) (by omega)
    rcases hk with rfl | rfl | rfl
    · exact this.1
    · exact this.2.1
    · exact this.2.2
  · have := h5 (80 * u + j) (by omega)
    rcases hk with rfl | rfl
    · exact this.1
    · exact this.2
  · have := h6 (640 * u + j) (by omega)
    rcases hk with rfl | rfl | rfl | rfl | rfl | rfl
    · exact this.1
    · exact this.2.1
    · exact this.2.2.1
    · exact this.2.2.2.1
    · exact this.2.2.2.2.1
    · exact this.2.2.2.2.2
theorem SIt.add {n t : Nat} {s s' : zSg} (h : NCh n s s') (ht : t < n) (e8 : s' 0 8 = s 0 8) (k1 : ∀ u, u < n → SIt s u) : SIt s' t := by
  obtain ⟨h1, h2, h3, h4, h5, h6⟩ := h
  obtain ⟨q0, q1, q2, q3, q4, q5⟩ := k1 t ht
  have a3 : ∀ u, u < n → s' 3 u = s 3 u := fun u hu => h1 3 (by omega) u (by omega)
  have a4 : ∀ u, u < n → s' 4 u = s 4 u := fun u hu => h1 4 (by omega) u (by omega)
  have a5 : ∀ u, u < n → s' 5 u = s 5 u := fun u hu => h1 5 (by omega) u (by omega)
  have a6 : ∀ u, u < n → s' 6 u = s 6 u := fun u hu => h1 6 (by omega) u (by omega)
  have sum : ∀ (u v b : Nat), u < n → v < 4 → b < 20 → s 13 (80 * u + 20 * v + b) ≤ 8 → zsum (sh (s' 11) (8 * (80 * u + 20 * v + b))) (s' 13 (80 * u + 20 * v + b)).toNat = zsum (sh (s 11) (8 * (80 * u + 20 * v + b))) (s 13 (80 * u + 20 * v + b)).toNat := fun u v b hu hv hb h8 => by
    rw [(h5 _ (by omega)).1]
    exact zsum_eq _ fun i hi => (h6 _ (by omega)).2.1
  unfold SIt
  rw [a3 t ht]
  refine ⟨q0, fun w => ?_, fun w => ?_, fun w => ?_, fun w => ?_, fun w => ?_⟩
  · obtain ⟨r1, r2, r3, r4, r5, r6⟩ := q1 w
    unfold SIs
    rw [a3 t ht, a4 t ht, a5 t ht, a6 t ht, h1 7 (by omega) t (by omega), e8]
    refine ⟨r1, r2, r3, r4, fun g => ?_, fun v hv => ?_⟩
    · obtain ⟨p1, p2, p3⟩ := r5 g
      rw [a3 _ (by omega)]
      exact ⟨p1, p2, p3⟩
    · obtain ⟨p1, p2, p3⟩ := r6 v hv
      rw [(h2 (4 * t + v) (by omega)).1]
      refine ⟨p1, p2, fun b hb => ?_⟩
      obtain ⟨b1, b2⟩ := p3 b hb
      refine ⟨b1.eq (h5 _ (by omega)).1 (fun i hi => by have := h6 (8 * (80 * t + 20 * v + b) + i) (by omega); exact ⟨this.1, this.2.1, this.2.2.1⟩), fun g => ?_⟩
      rw [sum t v b ht hv (by omega) b1.1.2]
      exact b2 g
  · obtain ⟨p1, p2, p3, p4, p5⟩ := q2 w
    unfold SIp
    rw [a4 t ht, a5 t ht, a6 t ht, h1 64 (by omega) t (by omega), a3 _ (by omega), a6 _ (by omega)]
    exact ⟨p1, p2, p3, p4, p5⟩
  · obtain ⟨r1, r2, r3, r4, r5, r6, r7, r8⟩ := q3 w
    have hp := (k1 (s 4 t).toNat (by omega)).2.2.1 r2
    have hp1 := hp.1
    have hp3 := hp.2.2.1
    have hsv := (k1 (s 4 (s 4 t).toNat).toNat (by omega)).2.1 hp.2.1
    have hs6 := hsv.2.1
    have hr6 : ∀ b : Nat, (b : Int) < s 5 t + s 6 t → b < 20 ∧ s 13 (80 * (s 4 (s 4 t).toNat).toNat + 20 * (s 5 (s 4 t).toNat).toNat + b) ≤ 8 := fun b hb => by
      obtain ⟨g1, g2⟩ := r6 b hb
      obtain ⟨y1, y2, y3⟩ := hsv.2.2.2.2.2 (s 5 (s 4 t).toNat).toNat (by omega)
      exact ⟨by omega, (y3 b g1).1.1.2⟩
    unfold SIl
    rw [a4 t ht, a5 t ht, a6 t ht, a3 _ (by omega), a4 _ (by omega), a5 _ (by omega), a5 _ (by omega)]
    refine ⟨r1, r2, r3, r4, r5, fun b hb => ?_, fun k hk => ?_, fun k hk => ?_⟩
    · obtain ⟨g1, g2⟩ := r6 b hb
      obtain ⟨g3, g4⟩ := hr6 b hb
      rw [(h2 _ (by omega)).1, sum _ _ b (by omega) (by omega) g3 g4]
      exact ⟨g1, g2⟩
    · obtain ⟨g1, g2⟩ := r7 k hk
      rw [h3 _ (by omega)]
      refine ⟨g1, fun i hi => ?_⟩
      obtain ⟨y1, y2, y3⟩ := h4 (64 * t + 8 * k + i) (by omega)
      rw [y1, y2, y3]
      exact g2 i hi
    · rw [(h2 (4 * t + k) (by omega)).2]
      exact r8 k hk
  · obtain ⟨r1, r2, r3, r4⟩ := q4 w
    unfold SIe
    rw [a4 t ht, a5 t ht, a3 _ (by omega)]
    refine ⟨r1, r2, r3, fun j hj => ?_⟩
    obtain ⟨g1, g2⟩ := r4 j hj
    rw [(h5 (80 * t + j) (by omega)).2]
    refine ⟨g1, fun i hi => ?_⟩
    obtain ⟨-, -, -, y1, y2, y3⟩ := h6 (8 * (80 * t + j) + i) (by omega)
    rw [y1, y2, y3]
    exact g2 i hi
  · obtain ⟨r1, r2, r3⟩ := q5 w
    unfold SIr
    rw [a4 t ht, a5 t ht, a6 t ht, a3 _ (by omega), h1 30 (by omega) t (by omega), h1 31 (by omega) t (by omega), h1 32 (by omega) t (by omega)]
    exact ⟨r1, r2, r3⟩
theorem SI.add {n : Nat} {s s' : zSg} (si : SI s) (h : NCh n s s') (hn : s 0 2 = (n : Int)) (e2 : s' 0 2 = ((n + 1 : Nat) : Int)) (e8 : s' 0 8 = s 0 8) (e24 : s' 0 24 = s 0 24) (e25 : s' 25 = s 25) (h25 : ∀ k : Nat, (k : Int) < s 0 24 → 0 ≤ s 25 k) (new : SIt s' n) (new1 : s' 3 n ≠ 4 → ∀ j, j < 80 → s' 29 (80 * n + j) = -1) (new2 : s' 3 n ≠ 1 → s' 3 n ≠ 6 → ∀ v, v < 4 → s' 14 (4 * n + v) = 0) : SI s' := by
  obtain ⟨k1, k2, k3, k4⟩ := si
  rw [hn] at k1 k2 k3 k4
  have hz := fun u (hu : u ≠ n) => h.zts hu
  have k1' : ∀ u, u < n → SIt s u := fun u hu => k1 u (by omega)
  refine ⟨fun t ht => ?_, fun t h1 h2 => ?_, fun t ht => ?_, fun k hk => ?_⟩
  · by_cases e : t = n
    · subst e; exact new
    · exact SIt.add h (by omega) e8 k1'
  · obtain ⟨p1, p2, p3⟩ := k2 t (by omega) h2
    have z := hz t (by omega)
    refine ⟨fun v hv => ?_, fun j hj => ?_, ?_⟩
    · rw [(z.2.1 v hv).1, (z.2.1 v hv).2]
      exact p1 v hv
    · rw [z.2.2.2.2.1 29 (by omega) j hj]
      exact p2 j hj
    · rw [z.1 64 (by omega)]
      exact p3
  · by_cases e : t = n
    · subst e; exact ⟨new1, new2⟩
    · have z := hz t e
      obtain ⟨p1, p2⟩ := k3 t (by omega)
      rw [z.1 3 (by omega)]
      refine ⟨fun w j hj => ?_, fun w1 w2 v hv => ?_⟩
      · rw [z.2.2.2.2.1 29 (by omega) j hj]
        exact p1 w j hj
      · rw [(z.2.1 v hv).1]
        exact p2 w1 w2 v hv
  · rw [e24] at hk
    obtain ⟨p1, p2⟩ := k4 k hk
    rw [e25]
    by_cases e : (s 25 k).toNat = n
    · exfalso
      have := h25 k hk
      omega
    · rw [(hz _ e).1 3 (by omega)]
      exact ⟨by omega, p2⟩
