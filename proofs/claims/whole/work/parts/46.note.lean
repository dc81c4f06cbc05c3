/-! A NOTE comes: both sides -/
theorem e_lengthOf {p l t : Int} (hl : 1 ≤ l ∧ l ≤ 12) (ht : t = 0 ∨ t = 1) (hp : p = -1000 ∨ (-99 ≤ p ∧ p ≤ 1000)) {H : zHp} : fH_lengthOf (ncode p l t) H = some (l, H) := by
  unfold fH_lengthOf
  have hc : 0 ≤ ncode p l t ∧ ncode p l t < 1200000 ∧ ncode p l t % 1000 = 2 * l + t := by
    unfold ncode
    split <;> omega
  rw [zrem_e ⟨by omega, by omega⟩ hc.1 (by omega) (by omega), hc.2.2, zdiv_e ⟨by omega, by omega⟩ (by omega) (by omega) (by omega)]
  rw [show (2 * l + t) / 2 = l by omega]
theorem e_noteCode {p l t : Int} (hp : 0 ≤ p ∧ p ≤ 60) (hl : 1 ≤ l ∧ l ≤ 12) (ht : t = 0 ∨ t = 1) {H : zHp} : fH_noteCode p l t H = some (ncode (if p = 0 then -1000 else p) l t, H) := by
  unfold fH_noteCode ncode
  simp only [yjn]
  by_cases h : p = 0
  · rw [if_pos h, if_pos h, if_pos rfl, zmul_e (by omega) (by omega), zadd_e (x := 0) (by omega) (by omega), zadd_e (by omega) (by omega)]
  · rw [if_neg h, if_neg h, if_neg (by omega), zadd_e (x := p) (y := 100) (by omega) (by omega), zmul_e (x := 1000) (by omega) (by omega), zmul_e (by omega) (by omega), zadd_e (x := 1000 * (p + 100)) (y := 2 * l) (by omega) (by omega), zadd_e (by omega) (by omega)]
theorem e_isNote {p l t : Int} {H : zHp} : fH_isNote p l t H = some (if (0 ≤ p ∧ p ≤ 60) ∧ (1 ≤ l ∧ l ≤ 12) ∧ (0 ≤ t ∧ t ≤ 1) ∧ ¬ (p = 0 ∧ t = 1) then 1 else 0, H) := by
  unfold fH_isNote
  simp only [e_within, ybd_s, i01]
  repeat' split
  all_goals first
    | rfl
    | (exfalso; omega)
theorem m_isNote {p l t : Int} {s : zSg} : gM_isNote p l t s = some (if (0 ≤ p ∧ p ≤ 60) ∧ (1 ≤ l ∧ l ≤ 12) ∧ (0 ≤ t ∧ t ≤ 1) ∧ ¬ (p = 0 ∧ t = 1) then 1 else 0, s) := by
  unfold gM_isNote
  simp only [e_in, ybd_s, i01]
  repeat' split
  all_goals first
    | rfl
    | (exfalso; omega)
/-- the bar's cells after a note -/
theorem e_addNote {H : zHp} {b m : Nat} {c l : Int} (h1 : ztg H b = 1) (h2 : zct H b 0 = ((b + 1 : Nat) : Int)) (h3 : ztg H (b + 1) = 30) (h4 : zln H (b + 1) = 8) (h5 : zct H b 1 = (m : Int)) (hm : m ≤ 7) (hf : 0 ≤ zct H b 2 ∧ zct H b 2 ≤ 1000) (hl : ∀ H, fH_lengthOf c H = some (l, H)) (hl2 : 1 ≤ l ∧ l ≤ 12) : fBar_addNote b c H = some ((), zwr (zwr (zwr H (b + 1) m c) b 1 ((m : Int) + 1)) b 2 (zct H b 2 + l)) := by
  have e1 : zadd (m : Int) 1 = (m : Int) + 1 := zadd_e (by omega) (by omega)
  have e2 : zadd (zct H b 2) l = zct H b 2 + l := zadd_e (by omega) (by omega)
  have f1 : zct (zwr H (b + 1) m c) b 1 = (m : Int) := by rw [zct_wr, if_neg (by omega)]; exact h5
  have f2 : zct (zwr (zwr H (b + 1) m c) b 1 ((m : Int) + 1)) b 2 = zct H b 2 := by rw [zct_wr, if_neg (by omega), zct_wr, if_neg (by omega)]
  have hx : 0 ≤ (m : Int) := by omega
  have hx2 : (m : Int) < ((8 : Nat) : Int) := by omega
  have hx3 : (m : Int) < 8 := by omega
  unfold fBar_addNote
  simp only [ygi, ygr, ysi, ypi, h1, zA0, if_true, h5, h2, Int.toNat_natCast, h3, h4, hx, hx2, hx3, and_self, f1, ztg_wr, e1, f2, hl, ybd_s, e2, true_and]
section NOTE
variable {X : Nat} {H : zHp} {s : zSg} {A : Nat → Nat} {B : Nat → Nat → Nat} {K : Nat → Nat} {ow : Nat → Nat × Nat} {t v : Nat}
/-- what a note's coming changes on the heap -/
def KP (X : Nat) (H H' : zHp) : Prop := zst H H' ∧ znx H' ≤ znx H + 2 ∧ zus H' ≤ zus H + 11 ∧ ∀ a, a ≤ X + 99 → ∀ k, zct H' a k = zct H a k
theorem IV.add1 (I : IV X H s A B K ow) (ht : (t : Int) < s 0 2) (hk : s 3 t = 1 ∨ s 3 t = 6) (hv : (v : Int) ≤ s 6 t - 1) {N m : Nat} (hN : s 14 (4 * t + v) = (N : Int) + 1) (hm : s 13 (80 * t + 20 * v + N) = (m : Int)) (hm7 : m ≤ 7) {p l tt : Int} (hnr : NR 1 60 p l tt)
    (hsum : zsum (sh (s 11) (8 * (80 * t + 20 * v + N))) m + l ≤ s 5 t) (hlast : zsum (sh (s 11) (8 * (80 * t + 20 * v + N))) m + l < s 5 t → m ≤ 6) :
    ∃ H', fBar_addNote (B t (20 * v + N)) (ncode p l tt) H = some ((), H') ∧ IV X H' (zup (zup (zup (zup s 10 (8 * (80 * t + 20 * v + N) + m) p) 11 (8 * (80 * t + 20 * v + N) + m) l) 12 (8 * (80 * t + 20 * v + N) + m) tt) 13 (80 * t + 20 * v + N) ((m : Int) + 1)) A B K ow ∧ zst H H' ∧ znx H' = znx H ∧ zus H' = zus H ∧ ∀ a, a ≤ X + 99 → ∀ k, zct H' a k = zct H a k := by
  have hs := (I.st ht).2.1 hk
  have hs6 := hs.2.1
  obtain ⟨⟨n0, n1, t1, t2, t3, t4⟩, ⟨v1, v2, v3, -⟩, bi⟩ := I.bar (v := v) (b := N) ht hk (by omega) (by omega)
  have hl : 1 ≤ l ∧ l ≤ 12 := ⟨hnr.2.1, hnr.2.2.1⟩
  have hb := zsum_b (f := sh (s 11) (8 * (80 * t + 20 * v + N))) m (fun i hi => by have := bi.len i (by omega); exact this)
  rw [hm, Int.toNat_natCast] at v2
  have ea := e_addNote (H := H) (b := B t (20 * v + N)) (m := m) (c := ncode p l tt) (l := l) t1 t2 t3 t4 (by rw [v1, hm]) hm7 (by rw [v2]; omega) (fun H => e_lengthOf hl hnr.2.2.2 (by rcases hnr.1 with w | w <;> omega)) hl
  have h1 : zst H (zwr (zwr (zwr H (B t (20 * v + N) + 1) m (ncode p l tt)) (B t (20 * v + N)) 1 ((m : Int) + 1)) (B t (20 * v + N)) 2 (zct H (B t (20 * v + N)) 2 + l)) := (by repeat first | exact zst.rf | apply zst.wr)
  have hpos := n0.1
  refine ⟨_, ea, I.addnote (N := N) (m := m) (c := ncode p l tt) ht hk hv hN hm hm7 hnr rfl hsum hlast h1 (fun a k h2 h3 h4 => ?_) ?_ ?_ ?_ (fun k => ?_), h1, rfl, rfl, fun a ha k => ?_⟩
  · rw [zct_wr, if_neg (by omega), zct_wr, if_neg (by omega), zct_wr, if_neg (by omega)]
  · rw [zct_wr, if_neg (by omega), zct_wr, if_neg (by omega), zct_wr, if_neg (by omega)]
  · rw [zct_wr, if_neg (by omega), zct_wr, if_pos ⟨rfl, rfl⟩]
  · rw [zct_wr, if_pos ⟨rfl, rfl⟩]
  · rw [zct_wr, if_neg (by omega), zct_wr, if_neg (by omega), zct_wr]
    by_cases e : k = m
    · rw [if_pos ⟨rfl, e⟩, if_pos e]
    · rw [if_neg (fun w => e w.2), if_neg e]
  · rw [zct_wr, if_neg (by omega), zct_wr, if_neg (by omega), zct_wr, if_neg (by omega)]
end NOTE
