section PRINTED
variable {X : Nat} {H : zHp} {s : zSg} {A : Nat → Nat} {B : Nat → Nat → Nat} {K : Nat → Nat} {ow : Nat → Nat × Nat}
theorem e_barOf (I : IV X H s A B K ow) {x : Nat} (hx : (x : Int) < s 0 2) (hk : s 3 x = 4) {v b : Int} : fEdition_barOf (A x) v b H = some (if (0 ≤ v ∧ v ≤ 3) ∧ (0 ≤ b ∧ b ≤ 19) ∧ 0 ≤ s 29 (80 * x + (20 * v.toNat + b.toNat)) then B x (20 * v.toNat + b.toNat) else 0, H) := by
  obtain ⟨-, ⟨e0, e1, e2, e3, e4, e5, e6⟩, -, ⟨g1, g2, -⟩, e9⟩ := (I.to hx).2.2.2.1 hk
  unfold fEdition_barOf
  simp only [e_within, ybd_s, i01]
  by_cases h1 : 0 ≤ v ∧ v ≤ 3
  · by_cases h2 : 0 ≤ b ∧ b ≤ 19
    · have e : zadd (zmul v 20) b = ((20 * v.toNat + b.toNat : Nat) : Int) := by rw [zmul_e (by omega) (by omega), zadd_e (by omega) (by omega)]; omega
      have hb : 0 ≤ ((20 * v.toNat + b.toNat : Nat) : Int) ∧ ((20 * v.toNat + b.toNat : Nat) : Int) < ((80 : Nat) : Int) := by omega
      have c := (e9 (20 * v.toNat + b.toNat) (by omega)).1
      simp only [h1, h2, and_self, not_true, if_false, ygr, yar, e0, zA2, if_true, e5, Int.toNat_natCast, g1, g2, e, hb, c, Nat.reduceLeDiff, true_and]
      by_cases h3 : s 29 (80 * x + (20 * v.toNat + b.toNat)) < 0
      · rw [if_pos h3, if_neg (by omega)]; rfl
      · rw [if_neg h3, if_pos (by omega), Int.toNat_natCast]
    · rw [if_neg (fun w => w h1), if_pos h2, if_neg (fun w => h2 w.2.1)]
  · rw [if_pos h1, if_neg (fun w => h1 w.1)]
set_option maxRecDepth 100000 in
theorem m_hasBar {x : Nat} (hx : x < 60) {v b : Int} : gM_hasBar (x : Int) v b s = some (if (0 ≤ v ∧ v ≤ 3) ∧ (0 ≤ b ∧ b ≤ 19) ∧ 0 ≤ s 29 (80 * x + (20 * v.toNat + b.toNat)) then 1 else 0, s) := by
  unfold gM_hasBar
  simp only [e_in, ybd_s, i01]
  by_cases h1 : 0 ≤ v ∧ v ≤ 3
  · by_cases h2 : 0 ≤ b ∧ b ≤ 19
    · have e5 := m_barAt (t := x) (v := v.toNat) (b := b.toNat) (s := s) hx (by omega) (by omega)
      rw [show ((v.toNat : Nat) : Int) = v by omega, show ((b.toNat : Nat) : Int) = b by omega] at e5
      simp only [h1, h2, and_self, not_true, if_false, e5, ybd_s, yrd_n (show 80 * x + 20 * v.toNat + b.toNat < 4800 by omega), true_and]
      rw [Nat.add_assoc]
      by_cases h3 : s 29 (80 * x + (20 * v.toNat + b.toNat)) < 0
      · rw [if_pos h3, if_neg (by omega)]
      · rw [if_neg h3, if_pos (by omega)]
    · rw [if_neg (fun w => w h1), if_pos h2, if_neg (fun w => h2 w.2.1)]
  · rw [if_pos h1, if_neg (fun w => h1 w.1)]
theorem amN_rest (I : IV X H s A B K ow) {x : Nat} {v b i : Int} : ∀ m : Nat, (m : Int) ≤ s 0 2 → amN s x v b i (-1000) m = -1000 := by
  intro m
  induction m with
  | zero => intro _; rfl
  | succ m ih =>
    intro hm
    have := ih (by omega)
    show (if _ then _ else _) = _
    rw [this]
    split
    · rename_i h
      have := ((I.st (t := m) (by omega)).2.2.2.2.2 h.1).2.2.2.2.2.1
      omega
    · rfl
theorem m_amended {x lim : Nat} (hx : x < 60) (hl : lim ≤ 60) {v b i : Int} (hv : 0 ≤ v ∧ v ≤ 3) (hb : 0 ≤ b ∧ b ≤ 19) (hi : 0 ≤ i ∧ i ≤ 7) : gM_amendedPitch (x : Int) v b i (lim : Int) s = some (amN s x v b i (s 26 (8 * (80 * x + (20 * v.toNat + b.toNat)) + i.toNat)) lim, s) := by
  have e5 := m_barAt (t := x) (v := v.toNat) (b := b.toNat) (s := s) hx (by omega) (by omega)
  rw [show ((v.toNat : Nat) : Int) = v by omega, show ((b.toNat : Nat) : Int) = b by omega, Nat.add_assoc] at e5
  have e : zadd (zmul 8 ((80 * x + (20 * v.toNat + b.toNat) : Nat) : Int)) i = ((8 * (80 * x + (20 * v.toNat + b.toNat)) + i.toNat : Nat) : Int) := by rw [zmul_e (by omega) (by omega), zadd_e (by omega) (by omega)]; omega
  unfold gM_amendedPitch
  simp only [e5, ybd_s, e, yrd_n (show 8 * (80 * x + (20 * v.toNat + b.toNat)) + i.toNat < 38400 by omega)]
  exact m_amend_l hl lim zFU 0 (by omega) (by rw [zFU_e]; omega) (by omega)
theorem e_amended (I : IV X H s A B K ow) {x lim : Nat} (hx : (x : Int) < s 0 2) (hk : s 3 x = 4) (hl : (lim : Int) ≤ s 0 2) {v b i : Int} (hv : 0 ≤ v ∧ v ≤ 3) (hb : 0 ≤ b ∧ b ≤ 19) (hh : 0 ≤ s 29 (80 * x + (20 * v.toNat + b.toNat))) (hi : 0 ≤ i ∧ i < s 29 (80 * x + (20 * v.toNat + b.toNat))) :
    fH_amendedNote X (A x) v b i (lim : Int) H = some (ncode (amN s x v b i (s 26 (8 * (80 * x + (20 * v.toNat + b.toNat)) + i.toNat)) lim) (s 27 (8 * (80 * x + (20 * v.toNat + b.toNat)) + i.toNat)) (s 28 (8 * (80 * x + (20 * v.toNat + b.toNat)) + i.toNat)), H) := by
  have hn := I.n
  obtain ⟨-, ⟨e0, -⟩, -, -, e9⟩ := (I.to hx).2.2.2.1 hk
  obtain ⟨bo, bv⟩ := (e9 (20 * v.toNat + b.toNat) (by omega)).2 hh
  obtain ⟨b0, b1, b2, b3, b4, b5⟩ := bo
  obtain ⟨z1, z2⟩ := ((I.st hx).2.2.2.2.1 hk).2.2.2 (20 * v.toNat + b.toNat) (by omega)
  have nr := z2 i.toNat (by omega)
  generalize hq : 80 * x + (20 * v.toNat + b.toNat) = q at *
  have bv' := bv
  rw [show s 29 q = (((s 29 q).toNat : Nat) : Int) by omega] at bv'
  have tn := e_tellNote (i := i) (by have := b0.1; omega) b2 b3 b4 b5 bv'
  have hpl : zadd (zmul (zadd (zmul v 20) b) 8) i = (v * 20 + b) * 8 + i := by
    rw [zmul_e (x := v) (by omega) (by omega), zadd_e (x := v * 20) (by omega) (by omega), zmul_e (by omega) (by omega), zadd_e (by omega) (by omega)]
  have bc := e_barOf I hx hk (v := v) (b := b)
  rw [hq, if_pos ⟨hv, hb, hh⟩] at bc
  rw [if_pos (by omega), if_neg (by omega)] at tn
  simp only [sh] at tn
  have hnp : s 26 (8 * q + i.toNat) = -1000 ∨ (-99 ≤ s 26 (8 * q + i.toNat) ∧ s 26 (8 * q + i.toNat) ≤ 1000) := by rcases nr.1 with w | w <;> omega
  have hc0 : ncode (s 26 (8 * q + i.toNat)) (s 27 (8 * q + i.toNat)) (s 28 (8 * q + i.toNat)) ≠ -5 := by
    have n1 := nr.2
    unfold ncode
    split <;> omega
  unfold fH_amendedNote fH_placeInEdition
  simp only [yck, e0, zA2, if_true, bc, ybd_s, tn, hc0, if_false, e_isRest ⟨nr.2.1, nr.2.2.1⟩ nr.2.2.2 hnp, i01, hpl]
  by_cases r : s 26 (8 * q + i.toNat) = -1000
  · rw [if_neg (fun w => w r), r, amN_rest I lim hl]
  · rw [if_pos r]
    exact e_amend_l I (p := s 26 (8 * q + i.toNat)) hx hl hv hb (by have := z1.2; omega) (by omega) ⟨nr.2.1, nr.2.2.1⟩ nr.2.2.2 lim zFU 0 (by omega) (by rw [zFU_e]; omega) (by omega)
end PRINTED
