section PAGES2
variable {X : Nat} {s : zSg} {A : Nat → Nat} {B : Nat → Nat → Nat} {K : Nat → Nat} {ow : Nat → Nat × Nat} {p n : Nat}
/-- the class measures all bars -/
theorem meas_c (hp : (p : Int) < s 0 2) (hk : s 3 p = 2 ∨ s 3 p = 5) (hn : wholeN s (s 4 p).toNat (s 5 p).toNat = (n : Int)) (n20 : n ≤ 20) : ∀ (d f b : Nat) (H : zHp), n - b = d → d < f → b ≤ n → IV X H s A B K ow → zct H (X + 4) 0 = (n : Int) → ∃ H', fLayout_measure_l1 f (X + 4) (A p) (b : Int) H = some ((), H') ∧ IV X H' s A B K ow ∧ FrX X H H' ∧ zct H' (X + 4) 0 = (n : Int) ∧ ∀ j, j < b → zct H' (X + 5) j = zct H (X + 5) j := by
  intro d
  induction d with
  | zero =>
    intro f b H h1 h2 h3 I hc
    obtain ⟨f, rfl⟩ : ∃ f', f = f' + 1 := ⟨f - 1, by omega⟩
    have F0 := I.1
    refine ⟨H, ?_, I, FrX.rf, hc, fun _ _ => rfl⟩
    rw [fLayout_measure_l1]
    simp only [yjn, ygi, ft4 F0, zA4, if_true, hc]
    rw [if_neg (by omega)]
  | succ d ih =>
    intro f b H h1 h2 h3 I hc
    obtain ⟨f, rfl⟩ : ∃ f', f = f' + 1 := ⟨f - 1, by omega⟩
    obtain ⟨H1, sB, W, F, L, q1, -, q3, -, q5, q6, -, -, q9, -⟩ := meas1 I (zfs.rf (s := s)) hp hk hn n20 (b := b) (by omega) hc
    obtain ⟨H2, j1, j2, j3, j4, j5⟩ := ih f (b + 1) H1 (by omega) (by omega) (by omega) q3 q6
    exact ⟨H2, (q1 f).trans j1, j2, q5.tr j3, j4, fun j hj => by rw [j5 j (by omega), (q9 j (by omega)).1]⟩
/-- what both have of the bars -/
def MSd (X : Nat) (H : zHp) (sA : zSg) (w : Int) (b : Nat) : Prop := ∀ j, j < b → (zct H (X + 5) j = sA 37 j ∧ zct H (X + 6) j = sA 39 j ∧ zct H (X + 7) j = sA 38 j) ∧ (5 ≤ sA 37 j ∧ sA 37 j ≤ w) ∧ (sA 39 j = 0 ∨ sA 39 j = 1) ∧ (sA 38 j = 0 ∨ sA 38 j = 1)
theorem meas_j {w ln wh : Int} (hp : (p : Int) < s 0 2) (hk : s 3 p = 2 ∨ s 3 p = 5) (hn : wholeN s (s 4 p).toNat (s 5 p).toNat = (n : Int)) (n20 : n ≤ 20) : ∀ (d f1 f2 b : Nat) (H : zHp) (sA : zSg), n - b = d → d < f1 → d < f2 → b ≤ n → IV X H s A B K ow → zfs [11] s sA → zct H (X + 4) 0 = (n : Int) → MSd X H sA w b →
    ∃ H' sB, fLayout_measure_l1 f1 (X + 4) (A p) (b : Int) H = some ((), H') ∧ IV X H' s A B K ow ∧ zfs [11] s sB ∧ FrX X H H' ∧ zct H' (X + 4) 0 = (n : Int) ∧
      (((∀ Q, gM_pages_l7 f2 (p : Int) w ln wh (n : Int) (b : Int) sA Q = some (-3, sB)) ∧ ∃ j, j < n ∧ w < zct H' (X + 5) j) ∨ ((∀ Q, gM_pages_l7 f2 (p : Int) w ln wh (n : Int) (b : Int) sA Q = Q w ln wh (n : Int) sB) ∧ MSd X H' sB w n)) := by
  intro d
  induction d with
  | zero =>
    intro f1 f2 b H sA h1 h2 h3 h4 I z hc ms
    obtain ⟨f1, rfl⟩ : ∃ f', f1 = f' + 1 := ⟨f1 - 1, by omega⟩
    obtain ⟨f2, rfl⟩ : ∃ f', f2 = f' + 1 := ⟨f2 - 1, by omega⟩
    obtain rfl : b = n := by omega
    have F0 := I.1
    refine ⟨H, sA, ?_, I, z, FrX.rf, hc, Or.inr ⟨fun Q => ?_, ms⟩⟩
    · rw [fLayout_measure_l1]
      simp only [yjn, ygi, ft4 F0, zA4, if_true, hc]
      rw [if_neg (by omega)]
    · rw [gM_pages_l7]
      simp only [yjn]
      rw [if_neg (by omega)]
  | succ d ih =>
    intro f1 f2 b H sA h1 h2 h3 h4 I z hc ms
    obtain ⟨f1, rfl⟩ : ∃ f', f1 = f' + 1 := ⟨f1 - 1, by omega⟩
    obtain ⟨f2, rfl⟩ : ∃ f', f2 = f' + 1 := ⟨f2 - 1, by omega⟩
    obtain ⟨H1, s1, W, F, L, q1, q2, q3, q4, q5, q6, ⟨a1, a2, a3, a4, a5, a6⟩, ⟨b1, b2, b3, b4⟩, q9, q10⟩ := meas1 I z hp hk hn n20 (b := b) (by omega) hc
    by_cases g : w < W
    · obtain ⟨H2, j1, j2, j3, j4, j5⟩ := meas_c hp hk hn n20 d f1 (b + 1) H1 (by omega) (by omega) (by omega) q3 q6
      refine ⟨H2, s1, (q1 f1).trans j1, j2, q4, q5.tr j3, j4, Or.inl ⟨fun Q => ?_, b, by omega, ?_⟩⟩
      · rw [q2 f2 w ln wh Q, if_pos g]
      · rw [j5 b (by omega), a1]; exact g
    · have ms1 : MSd X H1 s1 w (b + 1) := fun j hj => by
        by_cases e : j = b
        · subst e
          rw [a1, a2, a3, a4, a5, a6]
          exact ⟨⟨rfl, rfl, rfl⟩, ⟨b1, by omega⟩, b3, b4⟩
        · obtain ⟨c1, c2, c3⟩ := q9 j e
          obtain ⟨e1, e2, e3⟩ := q10 j e
          rw [c1, c2, c3, e1, e2, e3]
          exact ms j (by omega)
      obtain ⟨H2, s2, j1, j2, j3, j4, j5, j6⟩ := ih f1 f2 (b + 1) H1 s1 (by omega) (by omega) (by omega) (by omega) q3 q4 q6 ms1
      refine ⟨H2, s2, (q1 f1).trans j1, j2, j3, q5.tr j4, j5, ?_⟩
      have e : ∀ Q, gM_pages_l7 (f2 + 1) (p : Int) w ln wh (n : Int) (b : Int) sA Q = gM_pages_l7 f2 (p : Int) w ln wh (n : Int) ((b + 1 : Nat) : Int) s1 Q := fun Q => by rw [q2 f2 w ln wh Q, if_neg g]
      rcases j6 with ⟨k1, k2⟩ | ⟨k1, k2⟩
      · exact Or.inl ⟨fun Q => (e Q).trans (k1 Q), k2⟩
      · exact Or.inr ⟨fun Q => (e Q).trans (k1 Q), k2⟩
theorem e_fits_l {H : zHp} {w : Int} (I : IV X H s A B K ow) (n20 : n ≤ 20) (hc : zct H (X + 4) 0 = (n : Int)) : ∀ (d f b : Nat) (fl : Int), n - b = d → d < f → b ≤ n → (fl = 0 ∨ fl = 1) → ∃ r, (r = 0 ∨ r = 1) ∧ fLayout_fits_l3 f (X + 4) w fl (b : Int) H = some (r, H) ∧ (r = 1 ↔ fl = 1 ∧ ∀ j, b ≤ j → j < n → zct H (X + 5) j ≤ w) := by
  have F0 := I.1
  intro d
  induction d with
  | zero =>
    intro f b fl h1 h2 h3 h4
    obtain ⟨f, rfl⟩ : ∃ f', f = f' + 1 := ⟨f - 1, by omega⟩
    refine ⟨fl, h4, ?_, fun h => ⟨h, fun j a1 a2 => by omega⟩, fun h => h.1⟩
    rw [fLayout_fits_l3]
    simp only [yjn, ygi, ft4 F0, zA4, if_true, hc]
    rw [if_neg (by omega)]
    unfold yrb
    rw [if_pos h4]
  | succ d ih =>
    intro f b fl h1 h2 h3 h4
    obtain ⟨f, rfl⟩ : ∃ f', f = f' + 1 := ⟨f - 1, by omega⟩
    have e : zadd (b : Int) 1 = ((b + 1 : Nat) : Int) := by rw [zadd_e (by omega) (by omega)]; omega
    have hb : 0 ≤ (b : Int) ∧ (b : Int) < ((20 : Nat) : Int) := by omega
    rw [fLayout_fits_l3]
    simp only [yjn, yvl, ygi, ygr, yai, ft4 F0, zA4, if_true, hc, show (b : Int) < (n : Int) by omega, fp4_1 F0, ft5 F0, fl5 F0, true_or, true_and, hb, Int.toNat_natCast, e]
    rcases h4 with rfl | rfl
    · rw [if_pos rfl]
      obtain ⟨r, r1, r2, r3⟩ := ih f (b + 1) 0 (by omega) (by omega) (by omega) (Or.inl rfl)
      exact ⟨r, r1, r2, r3.trans ⟨fun h => absurd h.1 (by omega), fun h => absurd h.1 (by omega)⟩⟩
    · rw [if_neg (by omega)]
      by_cases g : w < zct H (X + 5) b
      · rw [if_pos g]
        obtain ⟨r, r1, r2, r3⟩ := ih f (b + 1) 0 (by omega) (by omega) (by omega) (Or.inl rfl)
        exact ⟨r, r1, r2, r3.trans ⟨fun h => absurd h.1 (by omega), fun h => absurd (h.2 b (Nat.le_refl _) (by omega)) (by omega)⟩⟩
      · rw [if_neg g]
        obtain ⟨r, r1, r2, r3⟩ := ih f (b + 1) 1 (by omega) (by omega) (by omega) (Or.inr rfl)
        refine ⟨r, r1, r2, r3.trans ⟨fun h => ⟨rfl, fun j a1 a2 => ?_⟩, fun h => ⟨rfl, fun j a1 a2 => h.2 j (by omega) a2⟩⟩⟩
        by_cases ej : j = b
        · rw [ej]; omega
        · exact h.2 j (by omega) a2
theorem e_fits {H : zHp} {w : Int} (I : IV X H s A B K ow) (n20 : n ≤ 20) (hc : zct H (X + 4) 0 = (n : Int)) : ∃ r, (r = 0 ∨ r = 1) ∧ fLayout_fits (X + 4) w H = some (r, H) ∧ (r = 1 ↔ 0 < n ∧ ∀ j, j < n → zct H (X + 5) j ≤ w) := by
  have F0 := I.1
  unfold fLayout_fits
  simp only [yjn, ygi, ft4 F0, zA4, if_true, hc]
  by_cases g : (0 : Int) < (n : Int)
  · rw [if_pos g]
    obtain ⟨r, r1, r2, r3⟩ := e_fits_l (w := w) I n20 hc n zFU 0 1 (by omega) (by rw [zFU_e]; omega) (by omega) (Or.inr rfl)
    exact ⟨r, r1, r2, r3.trans ⟨fun h => ⟨by omega, fun j hj => h.2 j (by omega) hj⟩, fun h => ⟨rfl, fun j _ hj => h.2 j hj⟩⟩⟩
  · rw [if_neg g]
    obtain ⟨r, r1, r2, r3⟩ := e_fits_l (w := w) I n20 hc n zFU 0 0 (by omega) (by rw [zFU_e]; omega) (by omega) (Or.inl rfl)
    exact ⟨r, r1, r2, r3.trans ⟨fun h => absurd h.1 (by omega), fun h => absurd h.1 (by omega)⟩⟩
end PAGES2
