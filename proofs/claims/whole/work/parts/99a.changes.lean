section CHANGES4
variable {X : Nat} {H : zHp} {s : zSg} {A : Nat → Nat} {B : Nat → Nat → Nat} {K : Nat → Nat} {ow : Nat → Nat × Nat} {a b v : Nat}
set_option maxRecDepth 100000 in
theorem m_alike_l {q r M : Nat} (hq : q < 4800) (hr : r < 4800) (hm : s 29 q = (M : Int)) (m8 : M ≤ 8) : ∀ (n f i : Nat), M - i = n → n < f → i ≤ M → ∃ x, gM_areAlike_l2 f (q : Int) (r : Int) (i : Int) s = some (x, s) ∧ (x = 1 ∨ x = 0) ∧ (x = 1 ↔ ∀ j, i ≤ j → j < M → s 26 (8 * q + j) = s 26 (8 * r + j) ∧ s 27 (8 * q + j) = s 27 (8 * r + j) ∧ s 28 (8 * q + j) = s 28 (8 * r + j)) := by
  intro n
  induction n with
  | zero =>
    intro f i h1 h2 h3
    obtain ⟨f, rfl⟩ : ∃ f', f = f' + 1 := ⟨f - 1, by omega⟩
    refine ⟨1, ?_, Or.inl rfl, fun _ j q1 q2 => by omega, fun _ => rfl⟩
    rw [gM_areAlike_l2, yrd_n hq, hm, if_neg (by omega)]
  | succ n ih =>
    intro f i h1 h2 h3
    obtain ⟨f, rfl⟩ : ∃ f', f = f' + 1 := ⟨f - 1, by omega⟩
    have e : zadd (i : Int) 1 = ((i + 1 : Nat) : Int) := by rw [zadd_e (by omega) (by omega)]; omega
    have e1 : zadd (zmul 8 (q : Int)) (i : Int) = ((8 * q + i : Nat) : Int) := by rw [zmul_e (by omega) (by omega), zadd_e (by omega) (by omega)]; omega
    have e2 : zadd (zmul 8 (r : Int)) (i : Int) = ((8 * r + i : Nat) : Int) := by rw [zmul_e (by omega) (by omega), zadd_e (by omega) (by omega)]; omega
    have b1 : 8 * q + i < 38400 := by omega
    have b2 : 8 * r + i < 38400 := by omega
    have run : gM_areAlike_l2 (f + 1) (q : Int) (r : Int) (i : Int) s = if s 26 (8 * q + i) = s 26 (8 * r + i) then (if s 27 (8 * q + i) = s 27 (8 * r + i) then (if s 28 (8 * q + i) = s 28 (8 * r + i) then gM_areAlike_l2 f (q : Int) (r : Int) ((i + 1 : Nat) : Int) s else some (0, s)) else some (0, s)) else some (0, s) := by
      rw [gM_areAlike_l2, yrd_n hq, hm, if_pos (by omega)]
      simp only [yvl, e, e1, e2, yrd_n b1, yrd_n b2]
    rw [run]
    have no : ¬ (s 26 (8 * q + i) = s 26 (8 * r + i) ∧ s 27 (8 * q + i) = s 27 (8 * r + i) ∧ s 28 (8 * q + i) = s 28 (8 * r + i)) → ∃ x, some ((0 : Int), s) = some (x, s) ∧ (x = 1 ∨ x = 0) ∧ (x = 1 ↔ ∀ j, i ≤ j → j < M → s 26 (8 * q + j) = s 26 (8 * r + j) ∧ s 27 (8 * q + j) = s 27 (8 * r + j) ∧ s 28 (8 * q + j) = s 28 (8 * r + j)) := fun g => ⟨0, rfl, Or.inr rfl, fun h => absurd h (by omega), fun h => absurd (h i (Nat.le_refl _) (by omega)) g⟩
    by_cases g1 : s 26 (8 * q + i) = s 26 (8 * r + i)
    · rw [if_pos g1]
      by_cases g2 : s 27 (8 * q + i) = s 27 (8 * r + i)
      · rw [if_pos g2]
        by_cases g3 : s 28 (8 * q + i) = s 28 (8 * r + i)
        · rw [if_pos g3]
          clear no
          obtain ⟨x, r1, r2, r3⟩ := ih f (i + 1) (by omega) (by omega) (by omega)
          refine ⟨x, r1, r2, r3.trans ⟨fun h j q1 q2 => ?_, fun h j q1 q2 => h j (by omega) q2⟩⟩
          by_cases ej : j = i
          · rw [ej]; exact ⟨g1, g2, g3⟩
          · exact h j (by omega) q2
        · rw [if_neg g3]; exact no fun w => g3 w.2.2
      · rw [if_neg g2]; exact no fun w => g2 w.2.1
    · rw [if_neg g1]; exact no fun w => g1 w.1
theorem m_alike {q r : Nat} (hq : q < 4800) (hr : r < 4800) (h8 : 0 ≤ s 29 q ∧ s 29 q ≤ 8) : ∃ x, gM_areAlike (q : Int) (r : Int) s = some (x, s) ∧ (x = 1 ∨ x = 0) ∧ (x = 1 ↔ alike s q r = true) := by
  obtain ⟨M, hM⟩ : ∃ M : Nat, s 29 q = (M : Int) := ⟨(s 29 q).toNat, by omega⟩
  unfold gM_areAlike
  rw [yrd_n hq, yrd_n hr, alike_iff]
  by_cases g : s 29 q = s 29 r
  · rw [if_pos g]
    obtain ⟨x, x1, x2, x3⟩ := m_alike_l hq hr hM (by omega) M zFU 0 (by omega) (by rw [zFU_e]; omega) (by omega)
    refine ⟨x, x1, x2, x3.trans ⟨fun h => ⟨g, fun j hj => h j (by omega) (by omega)⟩, fun h j _ hj => h.2 j (by omega)⟩⟩
  · rw [if_neg g]
    exact ⟨0, rfl, Or.inr rfl, fun h => absurd h (by omega), fun h => absurd h.1 g⟩
theorem alike_rows {s s' : zSg} (h26 : s' 26 = s 26) (h27 : s' 27 = s 27) (h28 : s' 28 = s 28) (h29 : s' 29 = s 29) (q r : Nat) : alike s' q r = alike s q r := by
  unfold alike
  rw [h26, h27, h28, h29]
theorem cntP_surj {P : Nat → Bool} : ∀ (N i : Nat), i < cntP P N → ∃ k, k < N ∧ P k = true ∧ cntP P k = i
  | 0, i, h => absurd h (by show ¬ i < 0; omega)
  | N + 1, i, h => by
    by_cases c : i < cntP P N
    · obtain ⟨k, k1, k2⟩ := cntP_surj N i c
      exact ⟨k, by omega, k2⟩
    · have h' : i < cntP P N + (if P N = true then 1 else 0) := h
      by_cases g : P N = true
      · rw [if_pos g] at h'
        exact ⟨N, by omega, g, by omega⟩
      · rw [if_neg g] at h'
        omega
theorem m_hasB {e k : Nat} (he : e < 60) (hv : v < 4) (hk : k < 20) : gM_hasBar (e : Int) (v : Int) (k : Int) s = some (if hB s e v k = true then 1 else 0, s) := by
  rw [m_hasBar he]
  have e1 : 80 * e + (20 * ((v : Int)).toNat + ((k : Int)).toNat) = 80 * e + 20 * v + k := by rw [Int.toNat_natCast, Int.toNat_natCast]; omega
  have hi : hB s e v k = true ↔ 0 ≤ s 29 (80 * e + 20 * v + k) := decide_eq_true_iff
  rw [e1]
  by_cases g : hB s e v k = true
  · rw [if_pos g, if_pos ⟨by omega, by omega, hi.mp g⟩]
  · rw [if_neg g, if_neg (fun w => g (hi.mpr w.2.2))]
theorem hB_rows {s s' : zSg} (h29 : s' 29 = s 29) {e v k : Nat} : hB s' e v k = hB s e v k := by
  unfold hB
  rw [h29]
/-- only the free rows, and not the tree's -/
def zq (R : Nat → Int) (s s1 : zSg) : Prop := zfs [11] s s1 ∧ s1 36 = R
theorem zq.up {R : Nat → Int} {s s1 : zSg} (h : zq R s s1) {k j : Nat} {v : Int} (hk : k ≠ 0) (ho : [11].contains (rgs.getD k 99) = true) (h36 : k ≠ 36 := by omega) : zq R s (zup s1 k j v) := ⟨h.1.up hk ho, by rw [zup_o (by omega)]; exact h.2⟩
set_option maxRecDepth 100000 in
theorem m_rows_l {R : Nat → Int} (ha : a < 60) (hb : b < 60) (hv : v < 4) : ∀ (d f k : Nat) (s1 : zSg), 20 - k = d → d < f → k ≤ 20 → zq R s s1 → (∀ k', k' < k → hB s a v k' = true → s1 33 (cntP (hB s a v) k') = ((80 * a + 20 * v + k' : Nat) : Int)) → (∀ k', k' < k → hB s b v k' = true → s1 34 (cntP (hB s b v) k') = ((80 * b + 20 * v + k' : Nat) : Int)) →
    ∃ s2, (∀ Q, gM_changesOf_l1 f (a : Int) (b : Int) (v : Int) ((cntP (hB s a v) k : Nat) : Int) ((cntP (hB s b v) k : Nat) : Int) (k : Int) s1 Q = Q ((cntP (hB s a v) 20 : Nat) : Int) ((cntP (hB s b v) 20 : Nat) : Int) s2) ∧ zq R s s2 ∧ (∀ k', k' < 20 → hB s a v k' = true → s2 33 (cntP (hB s a v) k') = ((80 * a + 20 * v + k' : Nat) : Int)) ∧ ∀ k', k' < 20 → hB s b v k' = true → s2 34 (cntP (hB s b v) k') = ((80 * b + 20 * v + k' : Nat) : Int) := by
  intro d
  induction d with
  | zero =>
    intro f k s1 h1 h2 h3 z ra rb
    obtain ⟨f, rfl⟩ : ∃ f', f = f' + 1 := ⟨f - 1, by omega⟩
    obtain rfl : k = 20 := by omega
    refine ⟨s1, fun Q => ?_, z, ra, rb⟩
    rw [gM_changesOf_l1]
    simp only [yjn]
    rw [if_neg (by omega)]
  | succ d ih =>
    intro f k s1 h1 h2 h3 z ra rb
    obtain ⟨f, rfl⟩ : ∃ f', f = f' + 1 := ⟨f - 1, by omega⟩
    have k1 : zadd (k : Int) 1 = ((k + 1 : Nat) : Int) := by rw [zadd_e (by omega) (by omega)]; omega
    have la := cntP_le (P := hB s a v) k
    have lb := cntP_le (P := hB s b v) k
    have ba := m_barAt (t := a) (v := v) (b := k) (s := s1) ha hv (by omega)
    have z29 : s1 29 = s 29 := funext fun j => z.1 29 j rfl
    have na : zadd ((cntP (hB s a v) k : Nat) : Int) 1 = ((cntP (hB s a v) k + 1 : Nat) : Int) := by rw [zadd_e (by omega) (by omega)]; omega
    have nb : zadd ((cntP (hB s b v) k : Nat) : Int) 1 = ((cntP (hB s b v) k + 1 : Nat) : Int) := by rw [zadd_e (by omega) (by omega)]; omega
    -- first row
    obtain ⟨sa, esa⟩ : ∃ sa, sa = if hB s a v k = true then zup s1 33 (cntP (hB s a v) k) ((80 * a + 20 * v + k : Nat) : Int) else s1 := ⟨_, rfl⟩
    have za : zq R s sa := by
      rw [esa]; split
      · exact z.up (by omega) rfl
      · exact z
    have za29 : sa 29 = s 29 := funext fun j => za.1 29 j rfl
    have ra2 : ∀ k', k' < k + 1 → hB s a v k' = true → sa 33 (cntP (hB s a v) k') = ((80 * a + 20 * v + k' : Nat) : Int) := fun k' hk' hp => by
      by_cases c : k' = k
      · rw [c] at hp ⊢
        rw [esa, if_pos hp, zup_r]
        exact if_pos rfl
      · have hlt : cntP (hB s a v) k' < cntP (hB s a v) k := by
          have := cntP_mono (P := hB s a v) (k := k' + 1) (k - (k' + 1))
          rw [show k' + 1 + (k - (k' + 1)) = k by omega] at this
          have e : cntP (hB s a v) (k' + 1) = cntP (hB s a v) k' + 1 := by show _ + (if hB s a v k' = true then 1 else 0) = _; rw [if_pos hp]
          omega
        rw [esa]
        split
        · rw [zup_r]
          dsimp only
          rw [if_neg (by omega)]
          exact ra k' (by omega) hp
        · exact ra k' (by omega) hp
    have rb2 : ∀ k', k' < k → hB s b v k' = true → sa 34 (cntP (hB s b v) k') = ((80 * b + 20 * v + k' : Nat) : Int) := fun k' hk' hp => by
      rw [esa]
      split
      · rw [zup_o (by omega)]; exact rb k' hk' hp
      · exact rb k' hk' hp
    have bb := m_barAt (t := b) (v := v) (b := k) (s := sa) hb hv (by omega)
    obtain ⟨sb, esb⟩ : ∃ sb, sb = if hB s b v k = true then zup sa 34 (cntP (hB s b v) k) ((80 * b + 20 * v + k : Nat) : Int) else sa := ⟨_, rfl⟩
    have zb : zq R s sb := by
      rw [esb]; split
      · exact za.up (by omega) rfl
      · exact za
    have ra3 : ∀ k', k' < k + 1 → hB s a v k' = true → sb 33 (cntP (hB s a v) k') = ((80 * a + 20 * v + k' : Nat) : Int) := fun k' hk' hp => by
      rw [esb]
      split
      · rw [zup_o (by omega)]; exact ra2 k' hk' hp
      · exact ra2 k' hk' hp
    have rb3 : ∀ k', k' < k + 1 → hB s b v k' = true → sb 34 (cntP (hB s b v) k') = ((80 * b + 20 * v + k' : Nat) : Int) := fun k' hk' hp => by
      by_cases c : k' = k
      · rw [c] at hp ⊢
        rw [esb, if_pos hp, zup_r]
        exact if_pos rfl
      · have hlt : cntP (hB s b v) k' < cntP (hB s b v) k := by
          have := cntP_mono (P := hB s b v) (k := k' + 1) (k - (k' + 1))
          rw [show k' + 1 + (k - (k' + 1)) = k by omega] at this
          have e : cntP (hB s b v) (k' + 1) = cntP (hB s b v) k' + 1 := by show _ + (if hB s b v k' = true then 1 else 0) = _; rw [if_pos hp]
          omega
        rw [esb]
        split
        · rw [zup_r]
          dsimp only
          rw [if_neg (by omega)]
          exact rb2 k' (by omega) hp
        · exact rb2 k' (by omega) hp
    obtain ⟨s2, j1, j2⟩ := ih f (k + 1) sb (by omega) (by omega) (by omega) zb ra3 rb3
    refine ⟨s2, fun Q => ?_, j2⟩
    rw [← j1 Q]
    have ca : cntP (hB s a v) (k + 1) = cntP (hB s a v) k + (if hB s a v k = true then 1 else 0) := rfl
    have cb : cntP (hB s b v) (k + 1) = cntP (hB s b v) k + (if hB s b v k = true then 1 else 0) := rfl
    have c20 : cntP (hB s a v) k < 20 := by omega
    have c20b : cntP (hB s b v) k < 20 := by omega
    rw [gM_changesOf_l1]
    by_cases ga : hB s a v k = true
    · rw [if_pos ga] at ca esa
      by_cases gb : hB s b v k = true
      · rw [if_pos gb] at cb esb
        rw [ca, cb]
        simp only [yjn, yvl, show (k : Int) < 20 by omega, if_true, m_hasB ha hv (show k < 20 by omega), hB_rows z29, ga, ybd_s, ba, show ¬ (1 : Int) = 0 by omega, if_false, ywi_n c20, na, ← esa, m_hasB hb hv (show k < 20 by omega), hB_rows za29, gb, bb, ywi_n c20b, nb, ← esb, k1]
      · rw [if_neg gb] at cb esb
        rw [ca, cb]
        simp only [yjn, yvl, show (k : Int) < 20 by omega, if_true, m_hasB ha hv (show k < 20 by omega), hB_rows z29, ga, ybd_s, ba, show ¬ (1 : Int) = 0 by omega, if_false, ywi_n c20, na, ← esa, m_hasB hb hv (show k < 20 by omega), hB_rows za29, gb, Bool.false_eq_true, k1, esb, Nat.add_zero]
    · rw [if_neg ga] at ca esa
      by_cases gb : hB s b v k = true
      · rw [if_pos gb] at cb esb
        rw [ca, cb]
        simp only [yjn, yvl, show (k : Int) < 20 by omega, if_true, m_hasB ha hv (show k < 20 by omega), hB_rows z29, ga, Bool.false_eq_true, ybd_s, if_false, ← esa, m_hasB hb hv (show k < 20 by omega), hB_rows za29, gb, bb, show ¬ (1 : Int) = 0 by omega, ywi_n c20b, nb, ← esb, k1, Nat.add_zero]
      · rw [if_neg gb] at cb esb
        rw [ca, cb]
        simp only [yjn, yvl, show (k : Int) < 20 by omega, if_true, m_hasB ha hv (show k < 20 by omega), hB_rows z29, ga, Bool.false_eq_true, ybd_s, if_false, ← esa, m_hasB hb hv (show k < 20 by omega), hB_rows za29, gb, k1, esb, Nat.add_zero]
end CHANGES4
