section TEXT4
variable {H : zHp} {C n p : Nat} {f : Nat → Int} {E : Nat → Nat}
/-- a word is gone over -/
theorem e_skip (h0 : CT H C n f E) {i : Nat} (hi : i < 12) {b : Int} (hp : p ≤ n) (h6 : PS H C p b) (h7 : b = 0 ∨ b = 1) : ∃ H', fContract_skip E C (E i) H = some ((), H') ∧ CP C H H' ∧
    ((b = 1 ∧ PS H' C p 1) ∨ (b = 0 ∧ ((mt n f (wds.getD i []) p).1 = true ∧ PS H' C (mt n f (wds.getD i []) p).2 0 ∨ (mt n f (wds.getD i []) p).1 = false ∧ PS H' C (mt n f (wds.getD i []) p).2 1) ∧ (mt n f (wds.getD i []) p).2 ≤ n)) := by
  have l10 := (h0.2.2 i hi).1.2.2.2.1
  exact e_skip_l h0 hi (wds.getD i []).length zFU 0 p b H (by omega) (by rw [zFU_e]; omega) (Nat.zero_le _) hp CP.rf h6 h7
theorem e_num_l (h0 : CT H C n f E) : ∀ (k g p x : Nat) (H1 : zHp), ((k = 0 ∧ x ≤ 999) ∨ (k = 1 ∧ x ≤ 99) ∨ (k = 2 ∧ x ≤ 9)) → k < g → p ≤ n → CP C H H1 → PS H1 C p 0 → ∃ H', fContract_readNumber_l1 E g C (x : Int) ((3 - k : Nat) : Int) H1 = some (((nmb n f k p x).1 : Int), H') ∧ CP C H H' ∧ PS H' C (nmb n f k p x).2 0 ∧ (nmb n f k p x).2 ≤ n ∧ (nmb n f k p x).1 ≤ 999 := by
  intro k
  induction k with
  | zero =>
    intro g p x H1 h1 h2 h3 w s
    obtain ⟨g, rfl⟩ : ∃ g', g = g' + 1 := ⟨g - 1, by omega⟩
    refine ⟨H1, ?_, w, s, h3, by show x ≤ 999; omega⟩
    rw [fContract_readNumber_l1, if_neg (by omega)]
    rfl
  | succ k ih =>
    intro g p x H1 h1 h2 h3 w s
    obtain ⟨g, rfl⟩ : ∃ g', g = g' + 1 := ⟨g - 1, by omega⟩
    obtain ⟨⟨a1, a2, a3, a4, a5⟩, b, -⟩ := h0.cw w
    have t : 30 ≤ ztg H1 (zct H1 C 2).toNat ∧ ztg H1 (zct H1 C 2).toNat ≤ 41 := by omega
    have k3 : ((3 - (k + 1) : Nat) : Int) < 3 := by omega
    have em : nmb n f (k + 1) p x = if 48 ≤ chr1 n f p ∧ chr1 n f p ≤ 57 then nmb n f k (p + 1) (10 * x + (chr1 n f p - 48).toNat) else (x, p) := rfl
    have stop : ¬ (48 ≤ chr1 n f p ∧ chr1 n f p ≤ 57) → fContract_readNumber_l1 E (g + 1) C (x : Int) ((3 - (k + 1) : Nat) : Int) H1 = some ((x : Int), H1) → ∃ H', fContract_readNumber_l1 E (g + 1) C (x : Int) ((3 - (k + 1) : Nat) : Int) H1 = some (((nmb n f (k + 1) p x).1 : Int), H') ∧ CP C H H' ∧ PS H' C (nmb n f (k + 1) p x).2 0 ∧ (nmb n f (k + 1) p x).2 ≤ n ∧ (nmb n f (k + 1) p x).1 ≤ 999 := fun c hr => by
      rw [em, if_neg c]
      refine ⟨H1, hr, w, s, h3, ?_⟩
      show x ≤ 999
      omega
    by_cases g0 : p < n
    · obtain ⟨b1, b2, b3⟩ := b p g0
      have b0 : 0 ≤ (p : Int) ∧ (p : Int) < (n : Int) := by omega
      have ec : chr1 n f p = f p := if_pos g0
      have ez : zsub (f p) 48 = f p - 48 := zsub_e (by omega) (by omega)
      by_cases c1 : f p - 48 < 0
      · refine stop (by omega) ?_
        rw [fContract_readNumber_l1]
        simp only [k3, if_true, ygi, ygr, yln, yai, yvl, a1, zA1, s.1, s.2, t, and_self, a3, b0, a2, true_or, Int.toNat_natCast, b1, ez, c1]
        simp
      · by_cases c2 : 9 < f p - 48
        · refine stop (by omega) ?_
          rw [fContract_readNumber_l1]
          simp only [k3, if_true, ygi, ygr, yln, yai, yvl, a1, zA1, s.1, s.2, t, and_self, a3, b0, a2, true_or, Int.toNat_natCast, b1, ez, c1, c2, if_false]
          simp
        · have ev : zadd (zmul (x : Int) 10) (f p - 48) = ((10 * x + (f p - 48).toNat : Nat) : Int) := by rw [zmul_e (by omega) (by omega), zadd_e (by omega) (by omega)]; omega
          have ep : zadd (p : Int) 1 = ((p + 1 : Nat) : Int) := by rw [zadd_e (by omega) (by omega)]; omega
          have ek : zadd ((3 - (k + 1) : Nat) : Int) 1 = ((3 - k : Nat) : Int) := by rw [zadd_e (by omega) (by omega)]; omega
          have cc : 48 ≤ chr1 n f p ∧ chr1 n f p ≤ 57 := by omega
          obtain ⟨H', i1, i2, i3, i4, i5⟩ := ih g (p + 1) (10 * x + (f p - 48).toNat) (zwr H1 C 3 ((p + 1 : Nat) : Int)) (by omega) (by omega) g0 (w.tr (CP.wr (by omega))) s.go
          refine ⟨H', ?_, i2, ?_⟩
          · rw [em, if_pos cc, ec, ← i1, fContract_readNumber_l1]
            simp only [k3, if_true, ygi, ygr, ypi, yln, yai, yvl, a1, zA1, s.1, s.2, t, and_self, a3, b0, a2, true_or, Int.toNat_natCast, b1, ez, c1, c2, if_false, ev, ep, ek]
            simp
          · rw [em, if_pos cc, ec]
            exact ⟨i3, i4, i5⟩
    · have ec : chr1 n f p = -1 := if_neg g0
      refine stop (by omega) ?_
      have pn : ¬ (p : Int) < (n : Int) := by omega
      rw [fContract_readNumber_l1]
      simp only [k3, if_true, ygi, ygr, yln, a1, zA1, s.1, s.2, t, and_self, a3, pn, if_false]
/-- a number: at most three digits -/
theorem e_num (h0 : CT H C n f E) (hp : p ≤ n) (s : PS H C p 0) : ∃ v H', fContract_readNumber E C H = some (v, H') ∧ CP C H H' ∧ (((48 ≤ chr1 n f p ∧ chr1 n f p ≤ 57) ∧ v = ((nmb n f 3 p 0).1 : Int) ∧ PS H' C (nmb n f 3 p 0).2 0 ∧ (nmb n f 3 p 0).2 ≤ n ∧ (nmb n f 3 p 0).1 ≤ 999) ∨ (¬ (48 ≤ chr1 n f p ∧ chr1 n f p ≤ 57) ∧ PS H' C p 1)) := by
  obtain ⟨r, H1, r1, r2, r3⟩ := e_pick0 h0 s hp (i := 4) (by omega)
  have ct := h0.cw r2
  have em : nmb n f 3 p 0 = if 48 ≤ chr1 n f p ∧ chr1 n f p ≤ 57 then nmb n f 2 (p + 1) (10 * 0 + (chr1 n f p - 48).toNat) else (0, p) := rfl
  have dg : ∀ j : Fin 10, ((wds.getD 4 []).getD j.val 0) = 48 + j.val := by decide
  unfold fContract_readNumber
  simp only [yck, h0.1.1, zA1, if_true, r1, ybd_s]
  rcases r3 with ⟨j, j1, j2, j3, j4, j5⟩ | ⟨j1, j2, j3⟩
  · have j10 : j < 10 := j2
    have d := dg ⟨j, j10⟩
    dsimp only at d
    rw [d] at j3
    have cc : 48 ≤ chr1 n f p ∧ chr1 n f p ≤ 57 := by omega
    have ex : 10 * 0 + (chr1 n f p - 48).toNat = j := by omega
    obtain ⟨H', i1, i2, i3, i4, i5⟩ := e_num_l ct 2 zFU (p + 1) j H1 (by omega) (by rw [zFU_e]; omega) (by omega) CP.rf j4
    rw [em, if_pos cc, ex]
    refine ⟨_, H', ?_, r2.tr i2, Or.inl ⟨cc, rfl, i3, i4, i5⟩⟩
    rw [j1]
    exact i1
  · refine ⟨-1, H1, ?_, r2, Or.inr ⟨fun w => ?_, j3⟩⟩
    · rw [j1, show zFU = 999999 + 1 from rfl, fContract_readNumber_l1]
      simp only [show (1 : Int) < 3 by decide, if_true, ygi, ct.1.1, zA1, j3.2]
      rw [if_neg (by decide)]
    · obtain ⟨x, ex⟩ : ∃ x : Nat, chr1 n f p = 48 + (x : Int) := ⟨(chr1 n f p - 48).toNat, by omega⟩
      have x10 : x < 10 := by omega
      have := j2 x x10
      rw [show (wds.getD 4 []).getD x 0 = 48 + x from dg ⟨x, x10⟩] at this
      omega
end TEXT4
