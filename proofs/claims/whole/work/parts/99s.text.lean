/-- at most k further digits, from place p, behind a number x -/
def nmb (n : Nat) (f : Nat → Int) : Nat → Nat → Nat → Nat × Nat
  | 0, p, x => (x, p)
  | k + 1, p, x => if 48 ≤ chr1 n f p ∧ chr1 n f p ≤ 57 then nmb n f k (p + 1) (10 * x + (chr1 n f p - 48).toNat) else (x, p)
theorem drop_getD : ∀ (l : List Nat) (k : Nat), k < l.length → l.drop k = l.getD k 0 :: l.drop (k + 1)
  | [], _, h => absurd h (Nat.not_lt_zero _)
  | a :: l, 0, _ => rfl
  | a :: l, k + 1, h => drop_getD l k (Nat.lt_of_succ_lt_succ h)
section TEXT3
variable {H : zHp} {C n p : Nat} {f : Nat → Int} {E : Nat → Nat}
theorem e_skip_l (h0 : CT H C n f E) {i : Nat} (hi : i < 12) : ∀ (d g k p : Nat) (b : Int) (H1 : zHp), (wds.getD i []).length - k = d → d < g → k ≤ (wds.getD i []).length → p ≤ n → CP C H H1 → PS H1 C p b → (b = 0 ∨ b = 1) → ∃ H', fContract_skip_l1 E g C (E i) (k : Int) H1 = some ((), H') ∧ CP C H H' ∧
    ((b = 1 ∧ PS H' C p 1) ∨ (b = 0 ∧ ((mt n f ((wds.getD i []).drop k) p).1 = true ∧ PS H' C (mt n f ((wds.getD i []).drop k) p).2 0 ∨ (mt n f ((wds.getD i []).drop k) p).1 = false ∧ PS H' C (mt n f ((wds.getD i []).drop k) p).2 1) ∧ (mt n f ((wds.getD i []).drop k) p).2 ≤ n)) := by
  intro d
  induction d with
  | zero =>
    intro g k p b H1 h1 h2 h3 h4 h5 h6 h7
    obtain ⟨g, rfl⟩ : ∃ g', g = g' + 1 := ⟨g - 1, by omega⟩
    have e : k = (wds.getD i []).length := by omega
    have c1 := ((h0.cw h5).2.2 i hi).1
    refine ⟨H1, ?_, h5, ?_⟩
    · rw [fContract_skip_l1]
      simp only [yjn, yck, c1.1, zA49, if_true, e_strlen c1, ybd_s]
      rw [if_neg (by omega)]
    · have ed : (wds.getD i []).drop k = [] := List.drop_eq_nil_of_le (by omega)
      rw [ed]
      rcases h7 with w | w
      · rw [w] at h6
        exact Or.inr ⟨w, Or.inl ⟨rfl, h6⟩, h4⟩
      · rw [w] at h6
        exact Or.inl ⟨w, h6⟩
  | succ d ih =>
    intro g k p b H1 h1 h2 h3 h4 h5 h6 h7
    obtain ⟨g, rfl⟩ : ∃ g', g = g' + 1 := ⟨g - 1, by omega⟩
    have hk : k < (wds.getD i []).length := by omega
    have ct := h0.cw h5
    have c1 := (ct.2.2 i hi).1
    have l10 := c1.2.2.2.1
    have ek : zadd (k : Int) 1 = ((k + 1 : Nat) : Int) := by rw [zadd_e (by omega) (by omega)]; omega
    have kl : (k : Int) < ((wds.getD i []).length : Int) := by omega
    have x1 : (wds.getD i []).length - (k + 1) = d := by omega
    have x2 : d < g := by omega
    have ed := drop_getD (wds.getD i []) k hk
    have em : mt n f ((wds.getD i []).getD k 0 :: (wds.getD i []).drop (k + 1)) p = if chr1 n f p = (((wds.getD i []).getD k 0 : Nat) : Int) then mt n f ((wds.getD i []).drop (k + 1)) (p + 1) else (false, p) := rfl
    have fault : ∀ b', PS H1 C p b' → fContract_sees C (((wds.getD i []).getD k 0 : Nat) : Int) H1 = some (0, H1) → ∃ H', fContract_skip_l1 E (g + 1) C (E i) (k : Int) H1 = some ((), H') ∧ CP C H H' ∧ PS H' C p 1 := fun b' ps sees => by
      obtain ⟨H', i1, i2, i3⟩ := ih g (k + 1) p 1 (zwr H1 C 4 1) x1 x2 hk h4 (h5.tr (CP.wr (by omega))) ps.bad (Or.inr rfl)
      refine ⟨H', ?_, i2, ?_⟩
      · rw [← i1, fContract_skip_l1]
        simp only [yjn, yck, yvl, c1.1, zA49, if_true, e_strlen c1, ybd_s, kl, e_charAt c1 hk, ct.1.1, zA1, sees, ypz, or_true, and_self, ek]
      · rcases i3 with ⟨-, w⟩ | ⟨w, -⟩
        · exact w
        · exact absurd w (by decide)
    rcases h7 with w | w
    · subst w
      have sees := e_sees0 ct h6 (u := (((wds.getD i []).getD k 0 : Nat) : Int)) (by omega)
      rw [ed, em]
      by_cases c : chr1 n f p = (((wds.getD i []).getD k 0 : Nat) : Int)
      · have pn : p < n := by
          by_cases q : p < n
          · exact q
          · have : chr1 n f p = -1 := if_neg q
            omega
        have ep : zadd (p : Int) 1 = ((p + 1 : Nat) : Int) := by have := h0.1.2.2.2.2; rw [zadd_e (by omega) (by omega)]; omega
        rw [if_pos c] at sees
        obtain ⟨H', i1, i2, i3⟩ := ih g (k + 1) (p + 1) 0 (zwr H1 C 3 ((p + 1 : Nat) : Int)) x1 x2 hk pn (h5.tr (CP.wr (by omega))) h6.go (Or.inl rfl)
        refine ⟨H', ?_, i2, ?_⟩
        · rw [← i1, fContract_skip_l1]
          simp only [yjn, yck, yvl, c1.1, zA49, if_true, e_strlen c1, ybd_s, kl, e_charAt c1 hk, ct.1.1, zA1, sees, show ¬ (1 : Int) = 0 by decide, if_false, ygi, ypi, h6.1, ep, ek]
        · rw [if_pos c]
          rcases i3 with ⟨w, -⟩ | w
          · exact absurd w (by decide)
          · exact Or.inr w
      · rw [if_neg c] at sees
        obtain ⟨H', i1, i2, i3⟩ := fault 0 h6 sees
        refine ⟨H', i1, i2, ?_⟩
        rw [if_neg c]
        exact Or.inr ⟨rfl, Or.inr ⟨rfl, i3⟩, h4⟩
    · subst w
      obtain ⟨H', i1, i2, i3⟩ := fault 1 h6 (e_sees1 ct h6)
      exact ⟨H', i1, i2, Or.inl ⟨rfl, i3⟩⟩
end TEXT3
