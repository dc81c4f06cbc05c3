/-- only the place and the fault of C change -/
def CP (C : Nat) (H H' : zHp) : Prop := (H'.1 = H.1 ∧ H'.2.1 = H.2.1 ∧ H'.2.2.2 = H.2.2.2) ∧ (∀ a, a ≠ C → ∀ k, zct H' a k = zct H a k) ∧ ∀ k, k < 3 ∨ 5 ≤ k → zct H' C k = zct H C k
theorem CP.w {C : Nat} {H H' : zHp} (h : CP C H H') : CW C H H' := ⟨h.1, h.2.1, fun k hk => h.2.2 k (by omega)⟩
theorem CP.rf {C : Nat} {H : zHp} : CP C H H := ⟨⟨rfl, rfl, rfl⟩, fun _ _ _ => rfl, fun _ _ => rfl⟩
theorem CP.tr {C : Nat} {H1 H2 H3 : zHp} (a : CP C H1 H2) (b : CP C H2 H3) : CP C H1 H3 := ⟨⟨b.1.1.trans a.1.1, b.1.2.1.trans a.1.2.1, b.1.2.2.trans a.1.2.2⟩, fun q h k => (b.2.1 q h k).trans (a.2.1 q h k), fun k h => (b.2.2 k h).trans (a.2.2 k h)⟩
theorem CP.wr {C : Nat} {H : zHp} {k : Nat} {v : Int} (hk : 3 ≤ k ∧ k < 5) : CP C H (zwr H C k v) := ⟨⟨rfl, rfl, rfl⟩, fun a h j => by rw [zct_wr, if_neg (fun e => h e.1)], fun j h => by rw [zct_wr, if_neg (by omega)]⟩
theorem CP.tg {C : Nat} {H H' : zHp} (h : CP C H H') (a : Nat) : ztg H' a = ztg H a := by
  show H'.1 a = H.1 a
  rw [h.1.1]
theorem CP.ln {C : Nat} {H H' : zHp} (h : CP C H H') (a : Nat) : zln H' a = zln H a := by
  show H'.2.1 a = H.2.1 a
  rw [h.1.2.1]
theorem SA.cw {C : Nat} {H H' : zHp} {a : Nat} {l : List Nat} (h : SA H a l) (w : CP C H H') (h1 : a ≠ C) (h2 : (zct H a 0).toNat ≠ C) : SA H' a l := by
  unfold SA
  rw [w.2.1 a h1 0, w.tg, w.tg, w.ln]
  obtain ⟨g1, g2, g3, g4, g5⟩ := h
  exact ⟨g1, g2, g3, g4, fun k hk => by rw [w.2.1 _ h2]; exact g5 k hk⟩
theorem CT.cw {H H' : zHp} {C n : Nat} {f : Nat → Int} {E : Nat → Nat} (h : CT H C n f E) (w : CP C H H') : CT H' C n f E := by
  obtain ⟨⟨a1, a2, a3, a4, a5⟩, b, c⟩ := h
  unfold CT
  rw [w.2.2 2 (by omega), w.tg, w.tg, w.ln]
  refine ⟨⟨a1, a2, a3, a4, a5⟩, fun k hk => by rw [w.2.1 _ a4]; exact b k hk, fun i hi => ?_⟩
  obtain ⟨c1, c2, c3⟩ := c i hi
  exact ⟨c1.cw w c2 c3, c2, by rw [w.2.1 _ c2]; exact c3⟩
/-- a word at a place: whether all of it stands there, and where the reading stands behind it -/
def mt (n : Nat) (f : Nat → Int) : List Nat → Nat → Bool × Nat
  | [], p => (true, p)
  | c :: l, p => if chr1 n f p = (c : Int) then mt n f l (p + 1) else (false, p)
section TEXT2
variable {H : zHp} {C n p : Nat} {f : Nat → Int} {E : Nat → Nat}
theorem e_sees0 (h : CT H C n f E) (s : PS H C p 0) {u : Int} (hu : 0 ≤ u) : fContract_sees C u H = some (if chr1 n f p = u then 1 else 0, H) := by
  obtain ⟨⟨a1, a2, a3, a4, a5⟩, b, c⟩ := h
  have t : 30 ≤ ztg H (zct H C 2).toNat ∧ ztg H (zct H C 2).toNat ≤ 41 := by omega
  unfold fContract_sees
  simp only [ygi, ygr, yln, yai, a1, zA1, if_true, s.1, s.2, t, and_self, a3]
  by_cases g : p < n
  · have b0 : 0 ≤ (p : Int) ∧ (p : Int) < (n : Int) := by omega
    have e : chr1 n f p = f p := if_pos g
    simp only [b0.2, if_true, a2, true_or, b0, and_self, Int.toNat_natCast, (b p g).1, e]
    by_cases g2 : f p = u
    · rw [if_pos g2, if_pos g2]
    · rw [if_neg g2, if_neg g2]
  · have e : chr1 n f p = -1 := if_neg g
    rw [if_neg (by omega), if_neg (by omega)]
theorem e_sees1 (h : CT H C n f E) (s : PS H C p 1) {u : Int} : fContract_sees C u H = some (0, H) := by
  unfold fContract_sees
  simp only [ygi, h.1.1, zA1, if_true, s.2]
  rw [if_neg (by decide)]
theorem PS.go (s : PS H C p 0) {k : Nat} : PS (zwr H C 3 (k : Int)) C k 0 := ⟨by rw [zct_wr, if_pos ⟨rfl, rfl⟩], by rw [zct_wr, if_neg (by omega)]; exact s.2⟩
theorem PS.bad {b : Int} (s : PS H C p b) : PS (zwr H C 4 1) C p 1 := ⟨by rw [zct_wr, if_neg (by omega)]; exact s.1, by rw [zct_wr, if_pos ⟨rfl, rfl⟩]⟩
theorem e_pick1 (h : CT H C n f E) (s : PS H C p 1) {a : Nat} : ∃ H', fContract_pick C a H = some (-1, H') ∧ CP C H H' ∧ PS H' C p 1 := by
  refine ⟨zwr H C 4 1, ?_, CP.wr (by omega), s.bad⟩
  unfold fContract_pick
  simp only [yjn, ygi, ypz, h.1.1, zA1, if_true, s.2]
  rw [if_neg (by decide)]
  simp
theorem e_pick0 (h : CT H C n f E) (s : PS H C p 0) (hp : p ≤ n) {i : Nat} (hi : i < 12) : ∃ r H', fContract_pick C (E i) H = some (r, H') ∧ CP C H H' ∧ ((∃ j : Nat, r = (j : Int) ∧ j < (wds.getD i []).length ∧ chr1 n f p = (((wds.getD i []).getD j 0 : Nat) : Int) ∧ PS H' C (p + 1) 0 ∧ p < n) ∨ (r = -1 ∧ (∀ j, j < (wds.getD i []).length → chr1 n f p ≠ (((wds.getD i []).getD j 0 : Nat) : Int)) ∧ PS H' C p 1)) := by
  obtain ⟨⟨a1, a2, a3, a4, a5⟩, b, c⟩ := id h
  obtain ⟨c1, c2, c3⟩ := c i hi
  have l0 : 0 < (wds.getD i []).length := by
    have : ∀ i : Fin 12, 0 < (wds.getD i.val []).length := by decide
    exact this ⟨i, hi⟩
  have t : 30 ≤ ztg H (zct H C 2).toNat ∧ ztg H (zct H C 2).toNat ≤ 41 := by omega
  have o0 : ¬ (0 : Int) = -1 := by decide
  by_cases g : p < n
  · obtain ⟨b1, b2, b3⟩ := b p g
    have b0 : 0 ≤ (p : Int) ∧ (p : Int) < (n : Int) := by omega
    have e : chr1 n f p = f p := if_pos g
    obtain ⟨x, ex⟩ : ∃ x : Nat, f p = (x : Int) := ⟨(f p).toNat, by omega⟩
    have x256 : x < 256 := by omega
    have ep : zadd (p : Int) 1 = ((p + 1 : Nat) : Int) := by rw [zadd_e (by omega) (by omega)]; omega
    obtain ⟨r, r1, r2⟩ := e_indexOf c1 l0 x256
    rcases r2 with ⟨w1, w2⟩ | ⟨j, w1, w2, w3, -⟩
    · refine ⟨-1, zwr H C 4 1, ?_, CP.wr (by omega), Or.inr ⟨rfl, fun j hj => by rw [e, ex]; exact fun w => w2 j hj (by omega), s.bad⟩⟩
      unfold fContract_pick
      simp only [yjn, ygi, ygr, ypz, yln, yai, yck, a1, zA1, if_true, s.1, s.2, t, and_self, a3, b0.2, a2, true_or, b0, Int.toNat_natCast, b1, ex, zi2c_n (show x < 65536 by omega), c1.1, zA49, r1, ybd_s, w1]
      simp
    · refine ⟨r, zwr H C 3 ((p + 1 : Nat) : Int), ?_, CP.wr (by omega), Or.inl ⟨j, w1, w2, by rw [e, ex, w3], s.go, g⟩⟩
      have rn : ¬ (j : Int) = -1 := by omega
      unfold fContract_pick
      simp only [yjn, ygi, ygr, ypi, yln, yai, yck, a1, zA1, if_true, s.1, s.2, t, and_self, a3, b0.2, a2, true_or, b0, Int.toNat_natCast, b1, ex, zi2c_n (show x < 65536 by omega), c1.1, zA49, r1, ybd_s, w1, rn, if_false, ep]
      simp
  · have e : chr1 n f p = -1 := if_neg g
    have pn : ¬ (p : Int) < (n : Int) := by omega
    refine ⟨-1, zwr H C 4 1, ?_, CP.wr (by omega), Or.inr ⟨rfl, fun j hj => by rw [e]; omega, s.bad⟩⟩
    unfold fContract_pick
    simp only [yjn, ygi, ygr, ypz, yln, a1, zA1, if_true, s.1, s.2, t, and_self, a3, pn, if_false]
    simp
end TEXT2
