/-! THE START: the invariant stands -/
def zrR : List (Nat × Nat × Nat × Int) → Nat → Bool
  | [], _ => true
  | w :: r, o => if w.1 = 0 then (numR r == o) || zrR r o else if w.1 = 4 then (numR r != o) && zrR r o else (w.2.1 != o) && zrR r o
theorem zrR_ok : ∀ (r : List (Nat × Nat × Nat × Int)) (o : Nat), zrR r o = true → ∀ k, cellR r o k = (0, 0)
  | [], _, _, _ => rfl
  | w :: r, o, h, k => by
    have ih := zrR_ok r o
    show (if w.1 = 0 then (if numR r = o then (0, 0) else cellR r o k) else if w.1 = 4 then (if numR r = o then (if k < w.2.2.1 then (1, ((numR r + 1 + k : Nat) : Int)) else (0, 0)) else cellR r o k) else
      if w.1 = 3 then (if w.2.1 = o ∧ k < w.2.2.1 then (0, w.2.2.2) else cellR r o k) else if w.2.1 = o ∧ w.2.2.1 = k then (if w.1 = 1 then (0, w.2.2.2) else (1, w.2.2.2)) else cellR r o k) = (0, 0)
    have h' : (if w.1 = 0 then (numR r == o) || zrR r o else if w.1 = 4 then (numR r != o) && zrR r o else (w.2.1 != o) && zrR r o) = true := h
    by_cases c0 : w.1 = 0
    · rw [if_pos c0]
      rw [if_pos c0, Bool.or_eq_true, beq_iff_eq] at h'
      by_cases g : numR r = o
      · rw [if_pos g]
      · rw [if_neg g]; exact ih (h'.resolve_left g) k
    · rw [if_neg c0]
      rw [if_neg c0] at h'
      by_cases c4 : w.1 = 4
      · rw [if_pos c4, Bool.and_eq_true, bne_iff_ne] at h'
        rw [if_pos c4, if_neg h'.1]
        exact ih h'.2 k
      · rw [if_neg c4, Bool.and_eq_true, bne_iff_ne] at h'
        rw [if_neg c4]
        by_cases c3 : w.1 = 3
        · rw [if_pos c3, if_neg (fun q => h'.1 q.1)]; exact ih h'.2 k
        · rw [if_neg c3, if_neg (fun q => h'.1 q.1)]; exact ih h'.2 k
theorem oL_n : numR oL = 100 := by decide +kernel
theorem oL_tab : ∀ q ∈ xTab, tgR oL q.1 = q.2.1 ∧ lnR oL q.1 = q.2.2 ∧ q.1 < 100 := by decide +kernel
theorem oL_ptr : ∀ q ∈ xPtr, cellR oL q.1 q.2.1 = (1, (q.2.2 : Int)) ∧ q.1 < 100 := by decide +kernel
theorem oL_rg : ∀ k : Fin 82, Nat.ble 1 (zrk k.val) = true → cellR oL 37 k.val = (1, ((37 + zrk k.val : Nat) : Int)) ∧ tgR oL (37 + zrk k.val) = zrtt k.val ∧ lnR oL (37 + zrk k.val) = zrl k.val := by decide +kernel
theorem oL_R : tgR oL 37 = 12 := by decide +kernel
theorem oL_0 : ∀ j ∈ [1, 8, 24, 43, 44, 65, 72, 73, 70, 76, 2], cellR oL 37 j = (0, 0) := by decide +kernel
theorem oL_15 : cellR oL 37 15 = (0, -1) ∧ cellR oL 37 74 = (0, 9999) := by decide +kernel
theorem oL_c0 : ∀ j ∈ [0, 2, 7, 10, 12, 19, 4], cellR oL 0 j = (0, 0) := by decide +kernel
theorem oL_c5 : cellR oL 0 5 = (0, -1) ∧ cellR oL 12 1 = (0, 0) ∧ cellR oL 22 0 = (0, 0) ∧ cellR oL 22 1 = (0, 0) ∧ cellR oL 22 2 = (0, 9999) ∧ cellR oL 22 3 = (0, 0) := by decide +kernel
theorem oL_9 : ∀ a : Fin 12, cellR oL (37 + zrk 9) a.val = (0, -1) := by decide +kernel
theorem oL_63 : ∀ i : Fin 36, cellR oL (37 + zrk 63) i.val = cellR oL 13 i.val ∧ (cellR oL 13 i.val = (0, 0) ∨ cellR oL 13 i.val = (0, 1)) := by decide +kernel
theorem oL_63d : ∀ i : Fin 6, cellR oL (37 + zrk 63) (7 * i.val) = (0, 0) := by decide +kernel
theorem oL_78 : ∀ t : Fin 6, cellR oL 34 t.val = (0, -1) ∧ cellR oL (37 + zrk 78) t.val = (0, -1) ∧ cellR oL 35 t.val = (0, 0) ∧ cellR oL (37 + zrk 79) t.val = (0, 0) ∧ zrR oL (28 + t.val) = true := by decide +kernel
theorem oL_z : zrR oL (37 + zrk 80) = true ∧ zrR oL (37 + zrk 14) = true ∧ zrR oL (37 + zrk 64) = true := by decide +kernel
theorem cellR_3 {o n k : Nat} {v : Int} {r : List (Nat × Nat × Nat × Int)} (h : k < n) : cellR ((3, o, n, v) :: r) o k = (0, v) := by
  show (if (3 : Nat) = 0 then _ else if (3 : Nat) = 4 then _ else if (3 : Nat) = 3 then (if o = o ∧ k < n then (0, v) else cellR r o k) else _) = _
  rw [if_neg (by decide), if_neg (by decide), if_pos rfl, if_pos ⟨rfl, h⟩]
theorem cellR_s {c t l o k : Nat} {v : Int} {r : List (Nat × Nat × Nat × Int)} (h0 : c ≠ 0) (h4 : c ≠ 4) (h : t ≠ o) : cellR ((c, t, l, v) :: r) o k = cellR r o k := by
  show (if c = 0 then _ else if c = 4 then _ else if c = 3 then (if t = o ∧ k < l then _ else cellR r o k) else if t = o ∧ l = k then _ else cellR r o k) = _
  rw [if_neg h0, if_neg h4]
  by_cases c3 : c = 3
  · rw [if_pos c3, if_neg (fun q => h q.1)]
  · rw [if_neg c3, if_neg (fun q => h q.1)]
theorem oL_29 {q : Nat} (h : q < 4800) : cellR oL 60 q = (0, -1) := by
  unfold oL
  rw [cellR_s (by decide) (by decide) (by decide), cellR_s (by decide) (by decide) (by decide), cellR_s (by decide) (by decide) (by decide), cellR_3 h]
theorem oL_75 {q : Nat} (h : q < 240) : cellR oL 94 q = (0, -1) := by
  unfold oL
  rw [cellR_s (by decide) (by decide) (by decide), cellR_s (by decide) (by decide) (by decide), cellR_3 h]
theorem oL_k : 37 + zrk 29 = 60 ∧ 37 + zrk 75 = 94 := by decide
section START4
variable {X a0 N : Nat} {h : zHp} {E : Nat → Nat}
theorem st_IV (hX : znx h + 1 = X) (h0 : ztg h 0 = 0) : IV X (zopsR X h oL) (zrd (X + 37) (zopsR X h oL)) (fun _ => 0) (fun _ _ => 0) (fun _ => 0) (fun _ => (0, 0)) := by
  obtain ⟨⟨n1, n2⟩, n3, n4⟩ := zopsR_ok hX oL
  rw [oL_n] at n1 n4
  generalize zopsR X h oL = F at *
  have cv : ∀ {o k : Nat} {v : Int}, o < 100 → cellR oL o k = (0, v) → zct F (X + o) k = v := fun ho hc => by rw [(n4 _ ho).2.2, hc]; rfl
  have rk62 : ∀ k, zrk k ≤ 62 := fun k => by
    by_cases hz : zrk k = 0
    · omega
    · by_cases hk : k < 82
      · exact (zrn_k ⟨k, hk⟩ hz).2
      · rw [zrk_out (by omega)]; omega
  have s0 : ∀ {j : Nat} {v : Int}, cellR oL 37 j = (0, v) → zrd (X + 37) F 0 j = v := fun hc => by
    show (if (0 : Nat) = 0 then zct F (X + 37) _ else _) = _
    rw [if_pos rfl]
    exact cv (by omega) hc
  have sk : ∀ {k j : Nat} {v : Int}, k ≠ 0 → cellR oL (37 + zrk k) j = (0, v) → zrd (X + 37) F k j = v := fun {k j v} hk hc => by
    have := rk62 k
    unfold zrd
    rw [if_neg hk]
    unfold zra
    rw [Nat.add_assoc]
    exact cv (by omega) hc
  have F0 : IFx X F := ⟨by omega, ⟨by omega, by rw [(n3 0 (by omega)).1]; exact h0⟩, fun q hq => by
    obtain ⟨a, b, c⟩ := oL_tab q hq
    exact ⟨(n4 _ c).1.trans a, (n4 _ c).2.1.trans b⟩, fun q hq => by
    obtain ⟨a, c⟩ := oL_ptr q hq
    rw [(n4 _ c).2.2, a]
    show ((X + ((q.2.2 : Int)).toNat : Nat) : Int) = _
    rw [Int.toNat_natCast]⟩
  obtain ⟨s, es⟩ : ∃ s, s = zrd (X + 37) F := ⟨_, rfl⟩
  rw [← es]
  replace s0 : ∀ {j : Nat} {v : Int}, cellR oL 37 j = (0, v) → s 0 j = v := fun hc => by rw [es]; exact s0 hc
  replace sk : ∀ {k j : Nat} {v : Int}, k ≠ 0 → cellR oL (37 + zrk k) j = (0, v) → s k j = v := fun hk hc => by rw [es]; exact sk hk hc
  clear es
  have z0 : ∀ j, j ∈ [1, 8, 24, 43, 44, 65, 72, 73, 70, 76, 2] → s 0 j = 0 := fun j hj => s0 (oL_0 j hj)
  have c0 : ∀ j, j ∈ [0, 2, 7, 10, 12, 19, 4] → zct F X j = 0 := fun j hj => cv (o := 0) (by omega) (oL_c0 j hj)
  obtain ⟨c5, c12, c220, c221, c222, c223⟩ := oL_c5
  have e1 := z0 1 (by decide)
  have e8 := z0 8 (by decide)
  have e24 := z0 24 (by decide)
  have e43 := z0 43 (by decide)
  have e44 := z0 44 (by decide)
  have e65 := z0 65 (by decide)
  have e72 := z0 72 (by decide)
  have e73 := z0 73 (by decide)
  have e70 := z0 70 (by decide)
  have e76 := z0 76 (by decide)
  have e2 := z0 2 (by decide)
  have e15 := s0 oL_15.1
  have e74 := s0 oL_15.2
  have e9 : ∀ a, a < 12 → s 9 a = -1 := fun a ha => sk (by decide) (oL_9 ⟨a, ha⟩)
  have e29 : ∀ q, q < 4800 → s 29 q = -1 := fun q hq => sk (by decide) (by rw [oL_k.1]; exact oL_29 hq)
  have e75 : ∀ q, q < 240 → s 75 q = -1 := fun q hq => sk (by decide) (by rw [oL_k.2]; exact oL_75 hq)
  have e14 : ∀ q, s 14 q = 0 := fun q => sk (by decide) (zrR_ok oL _ oL_z.2.1 q)
  have e64 : ∀ q, s 64 q = 0 := fun q => sk (by decide) (zrR_ok oL _ oL_z.2.2 q)
  have e80 : ∀ q, s 80 q = 0 := fun q => sk (by decide) (zrR_ok oL _ oL_z.1 q)
  have e63 : ∀ i, i < 36 → zct F (X + 13) i = s 63 i ∧ 0 ≤ s 63 i ∧ s 63 i ≤ 99 := fun i hi => by
    obtain ⟨a, b⟩ := oL_63 ⟨i, hi⟩
    dsimp only at a b
    rcases b with b | b
    · rw [cv (by omega) b, sk (by decide) (a.trans b)]; omega
    · rw [cv (by omega) b, sk (by decide) (a.trans b)]; omega
  have e63d : ∀ i, i < 6 → s 63 (7 * i) = 0 := fun i hi => sk (by decide) (oL_63d ⟨i, hi⟩)
  have e7 : ∀ t, t < 6 → zct F (X + 34) t = -1 ∧ s 78 t = -1 ∧ zct F (X + 35) t = 0 ∧ s 79 t = 0 ∧ ∀ i, zct F (X + (28 + t)) i = 0 := fun t ht => by
    obtain ⟨a, b, c, d, e⟩ := oL_78 ⟨t, ht⟩
    exact ⟨cv (by omega) a, sk (by decide) b, cv (by omega) c, sk (by decide) d, fun i => cv (by omega) (zrR_ok oL _ e i)⟩
  have q5 : zct F X 5 = -1 := cv (o := 0) (by omega) c5
  have q12 := cv (o := 12) (k := 1) (by omega) c12
  have q220 := cv (o := 22) (k := 0) (by omega) c220
  have q221 := cv (o := 22) (k := 1) (by omega) c221
  have q222 := cv (o := 22) (k := 2) (by omega) c222
  have q223 := cv (o := 22) (k := 3) (by omega) c223
  refine ⟨F0, ⟨?_, ?_, ?_, ?_, ?_, ?_, fun t ht => ?_, ?_, ?_, ?_⟩, fun t ht => by omega, fun c hc => by omega, ?_, fun _ _ => rfl⟩
  · refine ⟨(c0 0 (by decide)).trans e1.symm, by omega, by omega, (c0 2 (by decide)).trans e8.symm, by omega, by omega, fun a ha => by omega, fun a _ ha => e9 a ha⟩
  · refine ⟨(c0 7 (by decide)).trans e24.symm, by omega, by omega, fun k hk => by omega⟩
  · refine ⟨(c0 10 (by decide)).trans e43.symm, by omega, by omega, fun k hk => by omega⟩
  · refine ⟨(c0 12 (by decide)).trans e44.symm, by omega, by omega, fun k hk => by omega⟩
  · refine ⟨e63, e63d, q12.trans e65.symm, by omega, by omega, fun k hk => by omega, fun p hp => by omega, fun p q _ hq => by omega⟩
  · refine ⟨⟨q220.trans e72.symm, q221.trans e73.symm, q222.trans e74.symm, q223.trans e70.symm⟩, by omega, by omega, by omega, by omega, fun k hk => by omega⟩
  · obtain ⟨a, b, c, d, e⟩ := e7 t ht
    refine ⟨⟨a.trans b.symm, by omega, by omega⟩, ⟨c.trans d.symm, by omega, by omega, fun _ => d⟩, fun i hi => ⟨(e i).trans (e80 _).symm, by rw [e80]; exact ⟨by omega, by omega⟩, fun w => by omega⟩⟩
  · refine ⟨(c0 19 (by decide)).trans e76.symm, by omega, by omega, fun i _ hi => by omega⟩
  · exact ⟨q5.trans e15.symm, by omega, by omega⟩
  · refine ⟨(c0 4 (by decide)).trans e2.symm, by omega, by omega, fun t ht => by omega⟩
  · refine ⟨fun t ht => by omega, fun t _ h60 => ⟨fun v hv => ⟨e14 _, e75 _ (by omega)⟩, fun j hj => e29 _ (by omega), e64 t⟩, fun t ht => by omega, fun k hk => by omega⟩
end START4
