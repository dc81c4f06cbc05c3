/-! TAKING A NOTE: the reference's way, the class's way -/
section TAKE
variable {X : Nat} {H : zHp} {s : zSg} {A : Nat → Nat} {B : Nat → Nat → Nat} {K : Nat → Nat} {ow : Nat → Nat × Nat} {t v : Nat}
def putN (s : zSg) (q m : Nat) (p l tt : Int) : zSg := zup (zup (zup (zup s 10 (8 * q + m) p) 11 (8 * q + m) l) 12 (8 * q + m) tt) 13 q ((m : Int) + 1)
set_option maxRecDepth 20000 in
theorem m_put_open {N m : Nat} {p l tt : Int} (ht : t < 60) (hv : v < 4) (hs : SIs s t) (hN : s 14 (4 * t + v) = (N : Int) + 1) (hw : wholeN s t v = (N : Int)) (hm : s 13 (80 * t + 20 * v + N) = (m : Int)) (hm7 : m ≤ 7) (hl : 1 ≤ l ∧ l ≤ 12) :
    gM_put (t : Int) (v : Int) p l tt s = if s 5 t - zsum (sh (s 11) (8 * (80 * t + 20 * v + N))) m < l then some (-3, s) else if m = 7 ∧ l < s 5 t - zsum (sh (s 11) (8 * (80 * t + 20 * v + N))) m then some (-3, s) else some (0, putN s (80 * t + 20 * v + N) m (if p = 0 then -1000 else p) l tt) := by
  have hN20 := ((hs.2.2.2.2.2 v hv).1).2
  obtain ⟨bi, -⟩ := (hs.2.2.2.2.2 v hv).2.2 N (by omega)
  have e1 : zadd (zmul 4 (t : Int)) (v : Int) = ((4 * t + v : Nat) : Int) := by rw [zmul_e (by omega) (by omega), zadd_e (by omega) (by omega)]; omega
  have b1 : 0 ≤ ((4 * t + v : Nat) : Int) := by omega
  have b2 : ((4 * t + v : Nat) : Int) < ((240 : Nat) : Int) := by omega
  have b3 : 0 ≤ (t : Int) := by omega
  have b4 : (t : Int) < ((60 : Nat) : Int) := by omega
  have e2 : zsub ((N : Int) + 1) 1 = (N : Int) := by rw [zsub_e (by omega) (by omega)]; omega
  have e3 := m_whole (s := s) (t := t) (v := v) ht hv hs
  have e4 := m_barAt (s := s) (t := t) (v := v) (b := N) ht hv (by omega)
  have e5 := m_filled (s := s) (q := 80 * t + 20 * v + N) (by omega) ⟨bi.1.1, bi.1.2⟩ bi.len
  have hz := zsum_b (f := sh (s 11) (8 * (80 * t + 20 * v + N))) m (fun i hi => by have := bi.len i (by omega); exact this)
  have h5 := hs.1
  rw [hw] at e3
  rw [hm, Int.toNat_natCast] at e5
  generalize hzz : zsum (sh (s 11) (8 * (80 * t + 20 * v + N))) m = z at *
  have e6 : zsub (s 5 t) z = s 5 t - z := zsub_e (by omega) (by omega)
  have b5 : 0 ≤ ((80 * t + 20 * v + N : Nat) : Int) := by omega
  have b6 : ((80 * t + 20 * v + N : Nat) : Int) < ((4800 : Nat) : Int) := by omega
  have e7 : zadd (zmul 8 ((80 * t + 20 * v + N : Nat) : Int)) (m : Int) = ((8 * (80 * t + 20 * v + N) + m : Nat) : Int) := by rw [zmul_e (by omega) (by omega), zadd_e (by omega) (by omega)]; omega
  have b7 : 0 ≤ ((8 * (80 * t + 20 * v + N) + m : Nat) : Int) := by omega
  have b8 : ((8 * (80 * t + 20 * v + N) + m : Nat) : Int) < ((38400 : Nat) : Int) := by omega
  have e8 : zadd (m : Int) 1 = (m : Int) + 1 := zadd_e (by omega) (by omega)
  have e9 : ∀ x y w : Int, zup (zup (zup s 10 (8 * (80 * t + 20 * v + N) + m) x) 11 (8 * (80 * t + 20 * v + N) + m) y) 12 (8 * (80 * t + 20 * v + N) + m) w 13 (80 * t + 20 * v + N) = (m : Int) := fun x y w => by rw [← hm]; simp [zup]
  unfold gM_put
  simp only [yjn, yrd, ywi, yvl, e1, b1, b2, and_self, if_true, Int.toNat_natCast, hN, e3, ybd_s, show (N : Int) < (N : Int) + 1 by omega, show ¬ (1 : Int) = 0 by omega, if_false, e2, e4, b3, b4, e5, e6, b5, b6, hm, e7, b7, b8, e8, e9]
  by_cases h1 : s 5 t - z < l
  · rw [if_pos h1, if_pos h1]
  · rw [if_neg h1, if_neg h1]
    by_cases h2 : m = 7
    · subst h2
      rw [if_pos (show ((7 : Nat) : Int) = 7 by omega)]
      by_cases h3 : l < s 5 t - z
      · rw [if_pos h3, if_pos ⟨rfl, h3⟩]
      · rw [if_neg h3, if_neg (show ¬ (7 = 7 ∧ l < s 5 t - z) from fun w => h3 w.2)]
        by_cases hp : p = 0
        · rw [if_pos hp, if_pos hp]; rfl
        · rw [if_neg hp, if_neg hp]; rfl
    · rw [if_neg (show ¬ (m : Int) = 7 by omega), if_neg (show ¬ (m = 7 ∧ l < s 5 t - z) from fun w => h2 w.1)]
      by_cases hp : p = 0
      · rw [if_pos hp, if_pos hp]; rfl
      · rw [if_neg hp, if_neg hp]; rfl
set_option maxRecDepth 20000 in
theorem m_put_new {N : Nat} {p l tt : Int} (ht : t < 60) (hv : v < 4) (hs : SIs s t) (hN : s 14 (4 * t + v) = (N : Int)) (hw : wholeN s t v = (N : Int)) (hl : 1 ≤ l ∧ l ≤ 12) :
    gM_put (t : Int) (v : Int) p l tt s = if s 5 t < l then some (-3, s) else if N = 20 then some (-4, s) else some (0, putN (zup (zup s 14 (4 * t + v) ((N : Int) + 1)) 13 (80 * t + 20 * v + N) 0) (80 * t + 20 * v + N) 0 (if p = 0 then -1000 else p) l tt) := by
  have hN20 := ((hs.2.2.2.2.2 v hv).1).2
  have e1 : zadd (zmul 4 (t : Int)) (v : Int) = ((4 * t + v : Nat) : Int) := by rw [zmul_e (by omega) (by omega), zadd_e (by omega) (by omega)]; omega
  have b1 : 0 ≤ ((4 * t + v : Nat) : Int) := by omega
  have b2 : ((4 * t + v : Nat) : Int) < ((240 : Nat) : Int) := by omega
  have b3 : 0 ≤ (t : Int) := by omega
  have b4 : (t : Int) < ((60 : Nat) : Int) := by omega
  have e3 := m_whole (s := s) (t := t) (v := v) ht hv hs
  have h5 := hs.1
  rw [hw] at e3
  unfold gM_put
  by_cases h20 : N = 20
  · have e4 := m_barAt (s := s) (t := t) (v := v) (b := 19) ht hv (by omega)
    rw [show ((19 : Nat) : Int) = 19 by omega] at e4
    simp only [yjn, yrd, ywi, yvl, e1, b1, b2, and_self, if_true, Int.toNat_natCast, hN, e3, ybd_s, show ¬ (N : Int) < (N : Int) by omega, if_false, e4, b3, b4, show ¬ (N : Int) < 20 by omega, h20, show (((20 : Nat) : Int)) = 20 by omega, show ¬ (20 : Int) < 20 by omega]
  · have e4 := m_barAt (s := s) (t := t) (v := v) (b := N) ht hv (by omega)
    have b5 : 0 ≤ ((80 * t + 20 * v + N : Nat) : Int) := by omega
    have b6 : ((80 * t + 20 * v + N : Nat) : Int) < ((4800 : Nat) : Int) := by omega
    have e7 : zadd (zmul 8 ((80 * t + 20 * v + N : Nat) : Int)) 0 = ((8 * (80 * t + 20 * v + N) + 0 : Nat) : Int) := by rw [zmul_e (by omega) (by omega), zadd_e (by omega) (by omega)]; omega
    have b7 : 0 ≤ ((8 * (80 * t + 20 * v + N) + 0 : Nat) : Int) := by omega
    have b8 : ((8 * (80 * t + 20 * v + N) + 0 : Nat) : Int) < ((38400 : Nat) : Int) := by omega
    have e8 : zadd 0 1 = 1 := zadd_e (by omega) (by omega)
    have e9 : zadd (N : Int) 1 = (N : Int) + 1 := zadd_e (by omega) (by omega)
    have f1 : zup (zup s 14 (4 * t + v) ((N : Int) + 1)) 13 (80 * t + 20 * v + N) 0 13 (80 * t + 20 * v + N) = 0 := by simp [zup]
    have f2 : ∀ x y w : Int, zup (zup (zup (zup (zup s 14 (4 * t + v) ((N : Int) + 1)) 13 (80 * t + 20 * v + N) 0) 10 (8 * (80 * t + 20 * v + N) + 0) x) 11 (8 * (80 * t + 20 * v + N) + 0) y) 12 (8 * (80 * t + 20 * v + N) + 0) w 13 (80 * t + 20 * v + N) = 0 := fun x y w => by simp [zup]
    simp only [yjn, yrd, ywi, yvl, e1, b1, b2, and_self, if_true, Int.toNat_natCast, hN, e3, ybd_s, show ¬ (N : Int) < (N : Int) by omega, if_false, e4, b3, b4, show (N : Int) < 20 by omega, show ¬ (N : Int) = 20 by omega, h20, b5, b6, e7, b7, b8, e8, e9, f1, f2]
    by_cases h1 : s 5 t < l
    · rw [if_pos h1, if_pos h1]
    · rw [if_neg h1, if_neg h1]
      by_cases hp : p = 0
      · rw [if_pos hp, if_pos hp]; rfl
      · rw [if_neg hp, if_neg hp]; rfl
end TAKE
