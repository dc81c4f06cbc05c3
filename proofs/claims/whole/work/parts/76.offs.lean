/-! THE BARS in which a plate differs -/
section OFFS
variable {X : Nat} {A : Nat → Nat} {B : Nat → Nat → Nat} {K : Nat → Nat} {ow : Nat → Nat × Nat} {t : Nat}
set_option maxRecDepth 100000 in
theorem m_off_l {s : zSg} {m k : Nat} (ht : t < 60) (hk : k < 8) (hm : s 0 16 = (m : Int)) (m8 : m ≤ 8) : ∀ (n f i : Nat), m - i = n → n < f → i ≤ m → ∃ r, gM_isOff_l2 f (t : Int) (k : Int) (i : Int) s = some (r, s) ∧ (r = 1 ∨ r = 0) ∧ (r = 0 ↔ ∀ j, i ≤ j → j < m → s 17 j = s 20 (64 * t + 8 * k + j) ∧ s 18 j = s 21 (64 * t + 8 * k + j) ∧ s 19 j = s 22 (64 * t + 8 * k + j)) := by
  intro n
  induction n with
  | zero =>
    intro f i h1 h2 h3
    obtain ⟨f, rfl⟩ : ∃ f', f = f' + 1 := ⟨f - 1, by omega⟩
    refine ⟨0, ?_, Or.inr rfl, fun _ j q1 q2 => by omega, fun _ => rfl⟩
    rw [gM_isOff_l2, hm, if_neg (by omega)]
  | succ n ih =>
    intro f i h1 h2 h3
    obtain ⟨f, rfl⟩ : ∃ f', f = f' + 1 := ⟨f - 1, by omega⟩
    have e : zadd (i : Int) 1 = ((i + 1 : Nat) : Int) := by rw [zadd_e (by omega) (by omega)]; omega
    have e2 : zadd (zadd (zmul 64 (t : Int)) (zmul 8 (k : Int))) (i : Int) = ((64 * t + 8 * k + i : Nat) : Int) := by
      rw [zmul_e (by omega) (by omega), zmul_e (by omega) (by omega), zadd_e (x := 64 * (t : Int)) (by omega) (by omega), zadd_e (by omega) (by omega)]; omega
    have b8 : i < 8 := by omega
    have b38 : 64 * t + 8 * k + i < 3840 := by omega
    have run : gM_isOff_l2 (f + 1) (t : Int) (k : Int) (i : Int) s = if s 17 i = s 20 (64 * t + 8 * k + i) then (if s 18 i = s 21 (64 * t + 8 * k + i) then (if s 19 i = s 22 (64 * t + 8 * k + i) then gM_isOff_l2 f (t : Int) (k : Int) ((i + 1 : Nat) : Int) s else some (1, s)) else some (1, s)) else some (1, s) := by
      rw [gM_isOff_l2, hm, if_pos (by omega)]
      simp only [yvl, e, e2, yrd_n b8, yrd_n b38]
    rw [run]
    have no : ¬ (s 17 i = s 20 (64 * t + 8 * k + i) ∧ s 18 i = s 21 (64 * t + 8 * k + i) ∧ s 19 i = s 22 (64 * t + 8 * k + i)) → ∃ r, some ((1 : Int), s) = some (r, s) ∧ (r = 1 ∨ r = 0) ∧ (r = 0 ↔ ∀ j, i ≤ j → j < m → s 17 j = s 20 (64 * t + 8 * k + j) ∧ s 18 j = s 21 (64 * t + 8 * k + j) ∧ s 19 j = s 22 (64 * t + 8 * k + j)) := fun g => ⟨1, rfl, Or.inl rfl, fun h => absurd h (by omega), fun h => absurd (h i (Nat.le_refl _) (by omega)) g⟩
    by_cases g1 : s 17 i = s 20 (64 * t + 8 * k + i)
    · rw [if_pos g1]
      by_cases g2 : s 18 i = s 21 (64 * t + 8 * k + i)
      · rw [if_pos g2]
        by_cases g3 : s 19 i = s 22 (64 * t + 8 * k + i)
        · rw [if_pos g3]
          clear no
          obtain ⟨r, r1, r2, r3⟩ := ih f (i + 1) (by omega) (by omega) (by omega)
          refine ⟨r, r1, r2, r3.trans ⟨fun h j q1 q2 => ?_, fun h j q1 q2 => h j (by omega) q2⟩⟩
          by_cases ej : j = i
          · rw [ej]; exact ⟨g1, g2, g3⟩
          · exact h j (by omega) q2
        · rw [if_neg g3]; exact no fun w => g3 w.2.2
      · rw [if_neg g2]; exact no fun w => g2 w.2.1
    · rw [if_neg g1]; exact no fun w => g1 w.1
theorem rb_t {H : zHp} {s : zSg} (I : IV X H s A B K ow) {p : Nat} (hp : (p : Int) < s 0 2) (hk : s 3 p = 2 ∨ s 3 p = 5) : ztg H (B p 0) = 1 := ((I.to hp).2.1 hk).2.2.2.2.1
theorem IV.plate {H : zHp} {s : zSg} (I : IV X H s A B K ow) (ht : (t : Int) < s 0 2) (hk : s 3 t = 3) : (((s 4 t).toNat : Nat) : Int) = s 4 t ∧ (((s 4 t).toNat : Nat) : Int) < s 0 2 ∧ (s 3 (s 4 t).toNat = 2 ∨ s 3 (s 4 t).toNat = 5) ∧ 0 ≤ s 5 t ∧ 1 ≤ s 6 t ∧ s 6 t ≤ 8 ∧ s 5 t + s 6 t ≤ 20 ∧ s 5 t + s 6 t ≤ wholeN s (s 4 (s 4 t).toNat).toNat (s 5 (s 4 t).toNat).toNat := by
  obtain ⟨q1, q2, q3, q4, q5, q6, -⟩ := (I.st ht).2.2.2.1 hk
  have hp : (((s 4 t).toNat : Nat) : Int) < s 0 2 := by omega
  have sp := (I.st hp).2.2.1 q2
  have hs := (I.st (t := (s 4 (s 4 t).toNat).toNat) (by have := sp.1; omega)).2.1 sp.2.1
  refine ⟨by omega, hp, q2, q3, q4.1, q4.2, q5, ?_⟩
  have w := (whole_iff (b := (s 5 t + s 6 t - 1).toNat) (v := (s 5 (s 4 t).toNat).toNat) (by have := sp.2.2.1; have := hs.2.1; omega) hs).mpr (q6 _ (by omega))
  omega
/-- one bar of a plate against its part -/
theorem off1 {H : zHp} {s : zSg} (I : IV X H s A B K ow) (ht : (t : Int) < s 0 2) (hk : s 3 t = 3) {k : Nat} (hk2 : (k : Int) < s 6 t) : ∃ H' s' r q, r = 1 - q ∧ (q = 0 ∨ q = 1) ∧ fPart_barAsRead (A (s 4 t).toNat) (s 5 t + k) H = some (B (s 4 t).toNat 0, H') ∧ fBar_sameNotes (B (s 4 t).toNat 0) (B t k) H' = some (r, H') ∧ gM_isOff (t : Int) (k : Int) s = some (q, s') ∧ zbx (B (s 4 t).toNat 0) H H' ∧ zrs s s' ∧ IV X H' s' A B K ow := by
  have hn := I.n
  obtain ⟨p0, p1, p2, p3, p4, p5, p6, p7⟩ := I.plate ht hk
  obtain ⟨H', s', m, q1, q2, q3, q4, q5, q6, -⟩ := e_read I p1 p2 (b := (s 5 t).toNat + k) (by omega)
  have I' := I.read p1 p2 q4 q5
  have e0 : ∀ a j, a ≠ 0 → a ≠ 17 → a ≠ 18 → a ≠ 19 → s' a j = s a j := fun a j h0 h1 h2 h3 => q5 a j h1 h2 h3 (fun w => h0 w.1)
  have n2 : s' 0 2 = s 0 2 := q5 0 2 (by omega) (by omega) (by omega) (by omega)
  have e3 : s' 3 t = 3 := by rw [e0 3 t (by omega) (by omega) (by omega) (by omega)]; exact hk
  have e6 : s' 6 t = s 6 t := e0 6 t (by omega) (by omega) (by omega) (by omega)
  obtain ⟨-, -, -, -, tb⟩ := (I'.to (by rw [n2]; exact ht)).2.2.1 e3
  obtain ⟨-, bo, bv⟩ := tb k (by rw [e6]; exact hk2)
  obtain ⟨⟨z1, z2⟩, z3⟩ := ((I'.st (by rw [n2]; exact ht)).2.2.2.1 e3).2.2.2.2.2.2.1 k (by rw [e6]; exact hk2)
  have rb := ((I'.to (t := (s 4 t).toNat) (by rw [n2]; exact p1)).2.1 (by rw [e0 3 _ (by omega) (by omega) (by omega) (by omega)]; exact p2)).2.2
  have eM : s' 23 (8 * t + k) = (((s' 23 (8 * t + k)).toNat : Nat) : Int) := by omega
  rw [eM] at bv
  obtain ⟨r, r1, r2, r3⟩ := e_same rb.h bo.h q6.1 bv (show -99 ≤ (-11 : Int) by omega) (show (72 : Int) ≤ 1000 by omega) (show -99 ≤ (-11 : Int) by omega) (show (72 : Int) ≤ 1000 by omega) q6.2.2 (fun i hi => z3 i (by omega))
  obtain ⟨o, o1, o2, o3⟩ := m_off_l (t := t) (k := k) (s := s') (m := m) (by omega) (by omega) q6.2.1 q3 m zFU 0 (by omega) (by rw [zFU_e]; omega) (by omega)
  have b1 : zadd (s 5 t) (k : Int) = (((s 5 t).toNat + k : Nat) : Int) := by rw [zadd_e (by omega) (by omega)]; omega
  have b2 : zadd (zmul 8 (t : Int)) (k : Int) = ((8 * t + k : Nat) : Int) := by rw [zmul_e (by omega) (by omega), zadd_e (by omega) (by omega)]; omega
  rw [p0] at q2
  have run : gM_isOff (t : Int) (k : Int) s = if (m : Int) = s' 23 (8 * t + k) then gM_isOff_l2 zFU (t : Int) (k : Int) 0 s' else some (1, s') := by
    unfold gM_isOff
    simp only [yrd_n (show t < 60 by omega), b1, q2, ybd_s, b2, yrd_n (show 8 * t + k < 480 by omega), q6.2.1]
  have q1' : fPart_barAsRead (A (s 4 t).toNat) (s 5 t + k) H = some (B (s 4 t).toNat 0, H') := by
    rw [show s 5 t + (k : Int) = (((s 5 t).toNat + k : Nat) : Int) by omega]; exact q1
  by_cases g : (m : Int) = s' 23 (8 * t + k)
  · rw [if_pos g] at run
    refine ⟨H', s', r, o, ?_, o2.symm, q1', r1, run.trans o1, q4, q5, I'⟩
    have iff : r = 1 ↔ o = 0 := by
      rw [r3, o3]
      refine ⟨fun h j _ hj => h.2 j hj, fun h => ⟨by omega, fun j hj => h j (by omega) hj⟩⟩
    omega
  · rw [if_neg g] at run
    refine ⟨H', s', r, 1, ?_, Or.inr rfl, q1', r1, run, q4, q5, I'⟩
    have : ¬ r = 1 := fun w => g (by have := (r3.mp w).1; omega)
    omega
theorem offs_l : ∀ (n f1 f2 k z N : Nat) (H : zHp) (s : zSg), N - k = n → n < f1 → n < f2 → k ≤ N → z < 2 ^ k → IV X H s A B K ow → (t : Int) < s 0 2 → s 3 t = 3 → s 6 t = (N : Int) →
    ∃ H' s' z', fPlate_unlikeBars_l1 f1 (A t) (z : Int) (k : Int) H = some (((z' : Nat) : Int), H') ∧ gM_offs_l1 f2 (t : Int) (z : Int) (k : Int) s = some (((z' : Nat) : Int), s') ∧ z' < 2 ^ N ∧ zbx (B (s 4 t).toNat 0) H H' ∧ zrs s s' ∧ IV X H' s' A B K ow := by
  intro n
  induction n with
  | zero =>
    intro f1 f2 k z N H s h1 h2 h3 h4 h5 I ht hk h6
    have hn := I.n
    obtain ⟨f1, rfl⟩ : ∃ f', f1 = f' + 1 := ⟨f1 - 1, by omega⟩
    obtain ⟨f2, rfl⟩ : ∃ f', f2 = f' + 1 := ⟨f2 - 1, by omega⟩
    obtain ⟨⟨m0, m1, m2⟩, ⟨a0, a1, a2, a3, a4, a5, a6⟩, ⟨l1, l2, l3, l4⟩, -, tb⟩ := (I.to ht).2.2.1 hk
    have ek : k = N := by omega
    subst ek
    refine ⟨H, s, z, ?_, ?_, h5, zbx.rf, zrs.rf, I⟩
    · rw [fPlate_unlikeBars_l1]
      simp only [yjn, ygr, yln, a0, zA6, if_true, a5, Int.toNat_natCast, l3, l4, h6, Nat.reduceLeDiff, and_self]
      rw [if_neg (by omega)]
    · rw [gM_offs_l1]
      simp only [yjn, yrd_n (show t < 60 by omega), h6]
      rw [if_neg (by omega)]
  | succ n ih =>
    intro f1 f2 k z N H s h1 h2 h3 h4 h5 I ht hk h6
    have hn := I.n
    obtain ⟨f1, rfl⟩ : ∃ f', f1 = f' + 1 := ⟨f1 - 1, by omega⟩
    obtain ⟨f2, rfl⟩ : ∃ f', f2 = f' + 1 := ⟨f2 - 1, by omega⟩
    obtain ⟨p0, p1, p2, p3, p4, p5, p6, p7⟩ := I.plate ht hk
    obtain ⟨⟨m0, m1, m2⟩, ⟨a0, a1, a2, a3, a4, a5, a6⟩, ⟨l1, l2, l3, l4⟩, -, tb⟩ := (I.to ht).2.2.1 hk
    obtain ⟨H1, s1, r, q, j1, j2, j3, j4, j5, j6, j7, I1⟩ := off1 I ht hk (k := k) (by omega)
    have g5 := I.tg p1 (c := 5) (tgk_5.mpr p2)
    have pb := ((I.to p1).2.1 p2).2.2.1.1
    have n2 : s1 0 2 = s 0 2 := j7 0 2 (by omega) (by omega) (by omega) (by omega)
    have e0 : ∀ a j, a ≠ 0 → a ≠ 17 → a ≠ 18 → a ≠ 19 → s1 a j = s a j := fun a j h0 h1 h2 h3 => j7 a j h1 h2 h3 (fun w => h0 w.1)
    have e3 : s1 3 t = 3 := by rw [e0 3 t (by omega) (by omega) (by omega) (by omega)]; exact hk
    have e4 : s1 4 t = s 4 t := e0 4 t (by omega) (by omega) (by omega) (by omega)
    have e6 : s1 6 t = (N : Int) := by rw [e0 6 t (by omega) (by omega) (by omega) (by omega)]; exact h6
    have ht1 : (t : Int) < s1 0 2 := by omega
    obtain ⟨⟨m0', m1', m2'⟩, ⟨a0', a1', a2', a3', a4', a5', a6'⟩, ⟨l1', l2', l3', l4'⟩, -, tb'⟩ := (I1.to ht1).2.2.1 e3
    obtain ⟨tb1, tb2, -⟩ := tb' k (by omega)
    have tbp := tb2.1.1
    rw [e6] at l4'
    have b1 : zadd (s 5 t) (k : Int) = s 5 t + k := zadd_e (by omega) (by omega)
    have b2 : zadd (k : Int) 1 = ((k + 1 : Nat) : Int) := by rw [zadd_e (by omega) (by omega)]; omega
    have hkb : 0 ≤ (k : Int) ∧ (k : Int) < ((N : Nat) : Int) := by omega
    have z256 : z < 256 := by
      have : 2 ^ k ≤ 2 ^ 8 := Nat.pow_le_pow_right (by omega) (by omega)
      have : (2 : Nat) ^ 8 = 256 := rfl
      omega
    obtain ⟨zo1, zo2⟩ := zor_256 ⟨k, by omega⟩ ⟨z, z256⟩ h5
    dsimp only at zo1 zo2
    have pk : 2 ^ (k + 1) = 2 ^ k + 2 ^ k := by rw [Nat.pow_succ]; omega
    have run1 : fPlate_unlikeBars_l1 (f1 + 1) (A t) (z : Int) (k : Int) H = fPlate_unlikeBars_l1 f1 (A t) (if r = 0 then ((z + 2 ^ k : Nat) : Int) else (z : Int)) ((k + 1 : Nat) : Int) H1 := by
      rw [fPlate_unlikeBars_l1]
      simp only [yjn, yvl, ygr, ygi, yln, yar, yck, a0, zA6, if_true, a5, Int.toNat_natCast, l3, l4, h6, Nat.reduceLeDiff, and_self, a3, a4, g5, b1, j3, ybd_s, a0', a5', l3', l4', hkb, tb1, rb_t I1 (show (((s 4 t).toNat : Nat) : Int) < s1 0 2 by omega) (show s1 3 (s 4 t).toNat = 2 ∨ s1 3 (s 4 t).toNat = 5 by rw [e0 3 _ (by omega) (by omega) (by omega) (by omega)]; exact p2), zA0, j4, b2, zo1]
      rw [if_neg (by omega), if_neg (by omega)]
      by_cases g : r = 0
      · rw [if_pos g, if_pos g]
      · rw [if_neg g, if_neg g]
    have run2 : gM_offs_l1 (f2 + 1) (t : Int) (z : Int) (k : Int) s = gM_offs_l1 f2 (t : Int) (if q = 0 then (z : Int) else ((z + 2 ^ k : Nat) : Int)) ((k + 1 : Nat) : Int) s1 := by
      rw [gM_offs_l1]
      simp only [yjn, yvl, yrd_n (show t < 60 by omega), h6, j5, ybd_s, b2, zo1, zo2]
      rw [if_pos (by omega)]
      by_cases g : q = 0
      · rw [if_pos g, if_pos g]
      · rw [if_neg g, if_neg g]
    rw [run1, run2]
    by_cases g : q = 0
    · rw [if_neg (show ¬ r = 0 by omega), if_pos g]
      obtain ⟨H', s', z', i1, i2, i3, i4, i5, i6⟩ := ih f1 f2 (k + 1) z N H1 s1 (by omega) (by omega) (by omega) (by omega) (by omega) I1 ht1 e3 e6
      rw [e4] at i4
      exact ⟨H', s', z', i1, i2, i3, j6.tr i4, j7.tr i5, i6⟩
    · rw [if_pos (show r = 0 by omega), if_neg g]
      obtain ⟨H', s', z', i1, i2, i3, i4, i5, i6⟩ := ih f1 f2 (k + 1) (z + 2 ^ k) N H1 s1 (by omega) (by omega) (by omega) (by omega) (by omega) I1 ht1 e3 e6
      rw [e4] at i4
      exact ⟨H', s', z', i1, i2, i3, j6.tr i4, j7.tr i5, i6⟩
/-- the bits of the bars that differ, on both sides -/
theorem e_offs {H : zHp} {s : zSg} (I : IV X H s A B K ow) (ht : (t : Int) < s 0 2) (hk : s 3 t = 3) : ∃ H' s' z, fPlate_unlikeBars (A t) H = some (((z : Nat) : Int), H') ∧ gM_offs (t : Int) s = some (((z : Nat) : Int), s') ∧ z < 2 ^ (s 6 t).toNat ∧ z < 256 ∧ zbx (B (s 4 t).toNat 0) H H' ∧ zrs s s' ∧ IV X H' s' A B K ow := by
  obtain ⟨p0, p1, p2, p3, p4, p5, p6, p7⟩ := I.plate ht hk
  obtain ⟨H', s', z, q1, q2, q3, q4, q5, q6⟩ := offs_l (s 6 t).toNat zFU zFU 0 0 (s 6 t).toNat H s (by omega) (by rw [zFU_e]; omega) (by rw [zFU_e]; omega) (by omega) (by decide) I ht hk (by omega)
  refine ⟨H', s', z, q1, q2, q3, ?_, q4, q5, q6⟩
  have : 2 ^ (s 6 t).toNat ≤ 2 ^ 8 := Nat.pow_le_pow_right (by omega) (by omega)
  have : (2 : Nat) ^ 8 = 256 := rfl
  omega
theorem KD.of {H H' : zHp} {s' : zSg} {b : Nat} (hX : X + 99 < b) (hb : zbx b H H') (I : IV X H' s' A B K ow) : KD X H H' s' := ⟨hb.1, by rw [hb.2.1]; omega, by rw [hb.2.2.1]; omega, fun a _ ha k => hb.2.2.2.2 a k (by omega) (by omega), _, _, _, _, I⟩
end OFFS
