/-! A CHANGE in a score's notes alone -/
def SCh (s s' : zSg) (t : Nat) : Prop := (∀ k, k ≠ 10 → k ≠ 11 → k ≠ 12 → k ≠ 13 → k ≠ 14 → s' k = s k) ∧ (∀ q, q / 80 ≠ t → s' 13 q = s 13 q) ∧ (∀ j, j / 640 ≠ t → s' 10 j = s 10 j ∧ s' 11 j = s 11 j ∧ s' 12 j = s 12 j) ∧ (∀ j, j / 4 ≠ t → s' 14 j = s 14 j) ∧
  ∀ v, v < 4 → ∀ b : Nat, (b : Int) < s 14 (4 * t + v) → zsum (sh (s 11) (8 * (80 * t + 20 * v + b))) (s 13 (80 * t + 20 * v + b)).toNat = s 5 t → (b : Int) < s' 14 (4 * t + v) ∧ zsum (sh (s' 11) (8 * (80 * t + 20 * v + b))) (s' 13 (80 * t + 20 * v + b)).toNat = s 5 t
theorem SCh.zts {s s' : zSg} {t u : Nat} (h : SCh s s' t) (hu : u ≠ t) : zts u s s' := by
  obtain ⟨h1, h2, h3, h4, -⟩ := h
  refine ⟨fun k hk => by rw [h1 k] <;> omega, fun v hv => ⟨h4 _ (by omega), by rw [h1 75] <;> omega⟩, fun j hj => by rw [h1 23] <;> omega, fun k hk j hj => by rw [h1 k] <;> omega, fun k hk j hj => ?_, fun k hk j hj => ?_⟩
  · rcases hk with rfl | rfl
    · exact h2 _ (by omega)
    · rw [h1 29] <;> omega
  · have := h3 (640 * u + j) (by omega)
    rcases hk with rfl | rfl | rfl | rfl | rfl | rfl
    · exact this.1
    · exact this.2.1
    · exact this.2.2
    · rw [h1 26] <;> omega
    · rw [h1 27] <;> omega
    · rw [h1 28] <;> omega
theorem BI.eq {s s' : zSg} {q : Nat} {me : Int} (h : BI s q me) (e13 : s' 13 q = s 13 q) (e : ∀ i, i < 8 → s' 10 (8 * q + i) = s 10 (8 * q + i) ∧ s' 11 (8 * q + i) = s 11 (8 * q + i) ∧ s' 12 (8 * q + i) = s 12 (8 * q + i)) : BI s' q me := by
  obtain ⟨a, b, c, d⟩ := h
  have z : zsum (sh (s' 11) (8 * q)) (s 13 q).toNat = zsum (sh (s 11) (8 * q)) (s 13 q).toNat := zsum_eq _ fun i hi => (e i (by omega)).2.1
  unfold BI
  rw [e13, z]
  refine ⟨a, fun i hi => ?_, c, d⟩
  obtain ⟨e1, e2, e3⟩ := e i (by omega)
  rw [e1, e2, e3]
  exact b i hi
theorem SI.sc {s s' : zSg} {t : Nat} (si : SI s) (ht : (t : Int) < s 0 2) (hn : s 0 2 ≤ 60) (hk : s 3 t = 1 ∨ s 3 t = 6) (h : SCh s s' t) (new : SIs s' t) : SI s' := by
  obtain ⟨k1, k2, k3, k4⟩ := si
  have hz := fun u (hu : u ≠ t) => h.zts hu
  obtain ⟨h1, h2, h3, h4, h5⟩ := h
  have e0 : s' 0 = s 0 := h1 0 (by omega) (by omega) (by omega) (by omega) (by omega)
  have e3 : s' 3 = s 3 := h1 3 (by omega) (by omega) (by omega) (by omega) (by omega)
  have e4 : s' 4 = s 4 := h1 4 (by omega) (by omega) (by omega) (by omega) (by omega)
  have e5 : s' 5 = s 5 := h1 5 (by omega) (by omega) (by omega) (by omega) (by omega)
  have e6 : s' 6 = s 6 := h1 6 (by omega) (by omega) (by omega) (by omega) (by omega)
  have e7 : s' 7 = s 7 := h1 7 (by omega) (by omega) (by omega) (by omega) (by omega)
  have e20 : s' 20 = s 20 := h1 20 (by omega) (by omega) (by omega) (by omega) (by omega)
  have e21 : s' 21 = s 21 := h1 21 (by omega) (by omega) (by omega) (by omega) (by omega)
  have e22 : s' 22 = s 22 := h1 22 (by omega) (by omega) (by omega) (by omega) (by omega)
  have e23 : s' 23 = s 23 := h1 23 (by omega) (by omega) (by omega) (by omega) (by omega)
  have e25 : s' 25 = s 25 := h1 25 (by omega) (by omega) (by omega) (by omega) (by omega)
  have e26 : s' 26 = s 26 := h1 26 (by omega) (by omega) (by omega) (by omega) (by omega)
  have e27 : s' 27 = s 27 := h1 27 (by omega) (by omega) (by omega) (by omega) (by omega)
  have e28 : s' 28 = s 28 := h1 28 (by omega) (by omega) (by omega) (by omega) (by omega)
  have e29 : s' 29 = s 29 := h1 29 (by omega) (by omega) (by omega) (by omega) (by omega)
  have e30 : s' 30 = s 30 := h1 30 (by omega) (by omega) (by omega) (by omega) (by omega)
  have e31 : s' 31 = s 31 := h1 31 (by omega) (by omega) (by omega) (by omega) (by omega)
  have e32 : s' 32 = s 32 := h1 32 (by omega) (by omega) (by omega) (by omega) (by omega)
  have e64 : s' 64 = s 64 := h1 64 (by omega) (by omega) (by omega) (by omega) (by omega)
  have e75 : s' 75 = s 75 := h1 75 (by omega) (by omega) (by omega) (by omega) (by omega)
  have bars : ∀ (c v b : Nat), v < 4 → b < 20 → (b : Int) < s 14 (4 * c + v) → zsum (sh (s 11) (8 * (80 * c + 20 * v + b))) (s 13 (80 * c + 20 * v + b)).toNat = s 5 c → s 13 (80 * c + 20 * v + b) ≤ 8 → (b : Int) < s' 14 (4 * c + v) ∧ zsum (sh (s' 11) (8 * (80 * c + 20 * v + b))) (s' 13 (80 * c + 20 * v + b)).toNat = s 5 c := fun c v b hv hb g1 g2 g3 => by
    by_cases e : c = t
    · subst e
      exact h5 v hv b g1 g2
    · rw [h4 _ (by omega), h2 _ (by omega)]
      refine ⟨g1, ?_⟩
      rw [← g2]
      exact zsum_eq _ fun i hi => (h3 _ (by omega)).2.1
  refine ⟨fun u hu => ?_, fun u hu hu2 => ?_, fun u hu => ?_, ?_⟩
  · rw [e0] at hu
    obtain ⟨q0, q1, q2, q3, q4, q5⟩ := k1 u hu
    unfold SIt
    rw [e3]
    refine ⟨q0, fun w => ?_, fun w => ?_, fun w => ?_, fun w => ?_, fun w => ?_⟩
    · by_cases e : u = t
      · subst e; exact new
      · obtain ⟨r1, r2, r3, r4, r5, r6⟩ := q1 w
        unfold SIs
        rw [e0, e3, e4, e5, e6, e7]
        refine ⟨r1, r2, r3, r4, r5, fun v hv => ?_⟩
        obtain ⟨p1, p2, p3⟩ := r6 v hv
        rw [h4 _ (by omega)]
        refine ⟨p1, p2, fun b hb => ?_⟩
        obtain ⟨b1, b2⟩ := p3 b hb
        refine ⟨b1.eq (h2 _ (by omega)) (fun i hi => h3 _ (by omega)), fun g => ?_⟩
        rw [h2 _ (by omega), ← b2 g]
        exact zsum_eq _ fun i hi => (h3 _ (by have := b1.1; omega)).2.1
    · unfold SIp
      rw [e3, e4, e5, e6, e64]
      exact q2 w
    · obtain ⟨r1, r2, r3, r4, r5, r6, r7, r8⟩ := q3 w
      have hp := (k1 (s 4 u).toNat (by omega)).2.2.1 r2
      have hsv := (k1 (s 4 (s 4 u).toNat).toNat (by have := hp.1; omega)).2.1 hp.2.1
      unfold SIl
      rw [e3, e4, e5, e6, e20, e21, e22, e23, e75]
      refine ⟨r1, r2, r3, r4, r5, fun b hb => ?_, r7, r8⟩
      obtain ⟨g1, g2⟩ := r6 b hb
      have hb6 := hsv.2.1
      have hb5 := hp.2.2.1
      exact bars _ _ b (by omega) (by omega) g1 g2 ((hsv.2.2.2.2.2 _ (by omega)).2.2 b g1).1.1.2
    · unfold SIe
      rw [e3, e4, e5, e26, e27, e28, e29]
      exact q4 w
    · unfold SIr
      rw [e3, e4, e5, e6, e30, e31, e32]
      exact q5 w
  · rw [e0] at hu
    unfold SIn
    rw [e75, e29, e64]
    obtain ⟨p1, p2, p3⟩ := k2 u hu hu2
    exact ⟨fun v hv => by rw [h4 _ (by omega)]; exact p1 v hv, p2, p3⟩
  · rw [e0] at hu
    rw [e3, e29]
    obtain ⟨p1, p2⟩ := k3 u hu
    refine ⟨p1, fun w1 w2 v hv => ?_⟩
    rw [h4 _ (by rintro rfl; rcases hk with w | w <;> rw [show (4 * u + v) / 4 = u by omega] at * <;> omega)]
    exact p2 w1 w2 v hv
  · rw [e0, e3, e25]
    exact k4
