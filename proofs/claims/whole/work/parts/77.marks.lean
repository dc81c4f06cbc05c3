/-! MARKS of hands; a common divisor -/
theorem zand_u {x : Nat} (h : x < 2147483648) (y : Int) : ∃ u : Nat, zand (x : Int) y = (u : Int) ∧ u ≤ x := by
  have e : (Int32.ofNat x &&& Int32.ofInt y).toBitVec = BitVec.ofNat 32 x &&& BitVec.ofInt 32 y := rfl
  have h3 : (BitVec.ofNat 32 x &&& BitVec.ofInt 32 y).toNat ≤ x := by
    rw [BitVec.toNat_and, BitVec.toNat_ofNat]
    exact Nat.le_trans Nat.and_le_left (Nat.mod_le _ _)
  refine ⟨(BitVec.ofNat 32 x &&& BitVec.ofInt 32 y).toNat, ?_, h3⟩
  unfold zand
  rw [Int32.ofInt_eq_ofNat, ← Int32.toInt_toBitVec, e, BitVec.toInt_eq_toNat_of_lt (by omega)]
theorem zshl_8 : ∀ k : Fin 9, zshl 1 ((k.val : Nat) : Int) = ((2 ^ k.val : Nat) : Int) := by decide +kernel
theorem zrem_n {a d : Nat} (ha : a < 2147483648) (h0 : 0 < d) (hd : d < 2147483648) : zrem (a : Int) (d : Int) = ((a % d : Nat) : Int) := by
  rw [zrem_e ⟨by omega, by omega⟩ (by omega) (by omega) (by omega)]
  rfl
theorem e_cd_l {H : zHp} {a b : Nat} (hb : 0 < b) (ha : a < 2147483648) (hb2 : b < 2147483648) : ∀ (n f d : Nat), d ≤ n → n < f → d ≤ b → (Nat.gcd a b ≤ d ∨ Nat.gcd a b ≤ 1) → fH_commonDivisor_l1 f (a : Int) (b : Int) (d : Int) H = some (((Nat.gcd a b : Nat) : Int), H) := by
  have gp : 0 < Nat.gcd a b := Nat.gcd_pos_of_pos_right a hb
  intro n
  induction n with
  | zero =>
    intro f d h1 h2 h3 h4
    obtain ⟨f, rfl⟩ : ∃ f', f = f' + 1 := ⟨f - 1, by omega⟩
    rw [fH_commonDivisor_l1]
    simp only [yjn]
    rw [if_neg (by omega), show Nat.gcd a b = 1 by omega]
    rfl
  | succ n ih =>
    intro f d h1 h2 h3 h4
    obtain ⟨f, rfl⟩ : ∃ f', f = f' + 1 := ⟨f - 1, by omega⟩
    rw [fH_commonDivisor_l1]
    simp only [yjn, yvl, ydv]
    by_cases g : d ≤ 1
    · rw [if_neg (by omega), show Nat.gcd a b = 1 by omega]
      rfl
    · have e : zadd (d : Int) (-1) = ((d - 1 : Nat) : Int) := by rw [zadd_e (by omega) (by omega)]; omega
      have nx : Nat.gcd a b ≠ d → fH_commonDivisor_l1 f (a : Int) (b : Int) ((d - 1 : Nat) : Int) H = some (((Nat.gcd a b : Nat) : Int), H) := fun w => ih f (d - 1) (by omega) (by omega) (by omega) (by omega)
      have d1 := Nat.gcd_dvd_left a b
      have d2 := Nat.gcd_dvd_right a b
      rw [if_pos (by omega), if_neg (by omega), zrem_n ha (by omega) (by omega), zrem_n hb2 (by omega) (by omega), e]
      by_cases ga : a % d = 0
      · rw [if_pos (by omega), if_neg (by omega)]
        by_cases gb : b % d = 0
        · rw [if_pos (by omega)]
          have hd : d ∣ Nat.gcd a b := Nat.dvd_gcd (Nat.dvd_of_mod_eq_zero ga) (Nat.dvd_of_mod_eq_zero gb)
          have := Nat.le_of_dvd gp hd
          rw [show Nat.gcd a b = d by omega]
        · rw [if_neg (by omega)]
          exact nx fun w => gb (by rw [← w]; exact Nat.mod_eq_zero_of_dvd d2)
      · rw [if_neg (by omega)]
        exact nx fun w => ga (by rw [← w]; exact Nat.mod_eq_zero_of_dvd d1)
theorem m_gcd_l {s : zSg} {x y z : Int} {Q : Int → Int → Int → Int → zSg → Option (Int × zSg)} : ∀ (n f p q : Nat), q ≤ n → n < f → p < 2147483648 → q < 2147483648 → gM_left_l7 f x y z (p : Int) (q : Int) s Q = Q x y z ((Nat.gcd p q : Nat) : Int) s := by
  intro n
  induction n with
  | zero =>
    intro f p q h1 h2 h3 h4
    obtain ⟨f, rfl⟩ : ∃ f', f = f' + 1 := ⟨f - 1, by omega⟩
    obtain rfl : q = 0 := by omega
    rw [gM_left_l7, if_pos (show ((0 : Nat) : Int) = 0 from rfl), Nat.gcd_zero_right]
  | succ n ih =>
    intro f p q h1 h2 h3 h4
    obtain ⟨f, rfl⟩ : ∃ f', f = f' + 1 := ⟨f - 1, by omega⟩
    rw [gM_left_l7]
    by_cases g : q = 0
    · subst g
      rw [if_pos (show ((0 : Nat) : Int) = 0 from rfl), Nat.gcd_zero_right]
    · have := Nat.mod_lt p (show 0 < q by omega)
      simp only [yvl, ydv]
      rw [if_neg (by omega), if_neg (by omega), zrem_n h3 (by omega) h4, ih f q (p % q) (by omega) (by omega) h4 (by omega), Nat.gcd_comm q, ← Nat.gcd_rec, Nat.gcd_comm q]
section MARKS
variable {X : Nat} {H : zHp} {s : zSg} {A : Nat → Nat} {B : Nat → Nat → Nat} {K : Nat → Nat} {ow : Nat → Nat × Nat} {t : Nat}
theorem zrs.e {s s' : zSg} (h : zrs s s') {k : Nat} (h0 : k ≠ 0) (h1 : k ≠ 17) (h2 : k ≠ 18) (h3 : k ≠ 19) : s' k = s k := funext fun j => h k j h1 h2 h3 (fun w => h0 w.1)
theorem zrs.n {s s' : zSg} (h : zrs s s') : s' 0 2 = s 0 2 := h 0 2 (by omega) (by omega) (by omega) (by omega)
theorem SI.s75 (si : SI s) (ht : (t : Int) < s 0 2) {h : Nat} (hh : h < 4) {v : Int} (hv : -1 ≤ v ∧ v < 2 ^ (s 6 t).toNat) : SI (zup s 75 (4 * t + h) v) := by
  obtain ⟨k1, k2, k3, k4⟩ := si
  have e75 : ∀ j, zup s 75 (4 * t + h) v 75 j = if j = 4 * t + h then v else s 75 j := fun j => by simp [zup]
  have eo : ∀ k, k ≠ 75 → zup s 75 (4 * t + h) v k = s k := fun k h1 => funext fun j => by simp [zup, h1]
  generalize zup s 75 (4 * t + h) v = s' at *
  unfold SI
  rw [eo 0 (by omega), eo 3 (by omega), eo 29 (by omega), eo 14 (by omega), eo 25 (by omega)]
  refine ⟨fun u hu => ?_, fun u h1 h2 => ?_, k3, k4⟩
  · obtain ⟨q0, q1, q2, q3, q4, q5⟩ := k1 u hu
    unfold SIt SIs SIp SIl SIe SIr BI
    rw [eo 0 (by omega), eo 3 (by omega), eo 4 (by omega), eo 5 (by omega), eo 6 (by omega), eo 7 (by omega), eo 10 (by omega), eo 11 (by omega), eo 12 (by omega), eo 13 (by omega), eo 14 (by omega), eo 20 (by omega), eo 21 (by omega), eo 22 (by omega), eo 23 (by omega), eo 26 (by omega), eo 27 (by omega), eo 28 (by omega), eo 29 (by omega), eo 30 (by omega), eo 31 (by omega), eo 32 (by omega), eo 64 (by omega)]
    refine ⟨q0, q1, q2, fun w => ?_, q4, q5⟩
    obtain ⟨p1, p2, p3, p4, p5, p6, p7, p8⟩ := q3 w
    refine ⟨p1, p2, p3, p4, p5, p6, p7, fun k hk => ?_⟩
    rw [e75]
    split
    · have : u = t := by omega
      subst this
      exact hv
    · exact p8 k hk
  · obtain ⟨p1, p2, p3⟩ := k2 u h1 h2
    unfold SIn
    rw [eo 14 (by omega), eo 64 (by omega), eo 29 (by omega)]
    refine ⟨fun v hv => ?_, p2, p3⟩
    rw [e75, if_neg (by omega)]
    exact p1 v hv
theorem IV.s75 (I : IV X H s A B K ow) (ht : (t : Int) < s 0 2) (hk : s 3 t = 3) {h : Nat} (hh : h < 4) {v : Int} (hv : -1 ≤ v ∧ v < 2 ^ (s 6 t).toNat) : IV X (zwr H (A t + 1) h v) (zup s 75 (4 * t + h) v) A B K ow := by
  have hn := I.n
  have e75 : ∀ j, zup s 75 (4 * t + h) v 75 j = if j = 4 * t + h then v else s 75 j := fun j => by simp [zup]
  have eo : ∀ k, k ≠ 75 → zup s 75 (4 * t + h) v k = s k := fun k h1 => funext fun j => by simp [zup, h1]
  have si := I.2.2.2.2.1.s75 ht hh hv
  have to := (I.to ht).2.2.1 hk
  have h1 : zst H (zwr H (A t + 1) h v) := zst.rf.wr _ _ _
  have hx : ∀ a k, a ≠ A t + 1 → zct (zwr H (A t + 1) h v) a k = zct H a k := fun a k h => by rw [zct_wr, if_neg (fun w => h w.1)]
  have hr : ∀ k, zct (zwr H (A t + 1) h v) (A t + 1) k = if k = h then v else zct H (A t + 1) k := fun k => by
    rw [zct_wr]
    by_cases e : k = h
    · rw [if_pos ⟨rfl, e⟩, if_pos e]
    · rw [if_neg (fun w => e w.2), if_neg e]
  generalize zup s 75 (4 * t + h) v = s' at *
  generalize zwr H (A t + 1) h v = H' at *
  obtain ⟨⟨m0, m1, m2⟩, ⟨a0, a1, a2, a3, a4, a5, a6⟩, l, mk, tb⟩ := to
  refine I.ch (gs := []) (t := t) h1 ?_ ?_ ?_ (fun u hu _ => ?_) (by rw [eo 0 (by omega)]) (eo 3 (by omega)) (eo 4 (by omega)) (eo 26 (by omega)) (eo 27 (by omega)) (eo 28 (by omega)) (eo 29 (by omega)) (fun _ _ _ => rfl) (fun _ _ => rfl) ?_ ?_ si rfl rfl rfl rfl rfl rfl rfl rfl rfl rfl (Or.inl rfl) (by omega)
  · intro o k ho _
    have := m1.1
    exact hx _ _ (by omega)
  · refine zfd.of fun a k ha hp => hx a k (fun e => hp ?_)
    rw [e]; exact ⟨m1.1, by rw [m1.2.2]⟩
  · intro k j hkj
    have : k ≠ 75 := by
      rintro rfl; cases (show true = false from hkj)
    rw [eo k this]
  · refine ⟨fun k hk => by rw [eo k (by omega)], fun v hv => ⟨by rw [eo 14 (by omega)], by rw [e75, if_neg (by omega)]⟩, fun j hj => by rw [eo 23 (by omega)], fun k hk j hj => by rw [eo k (by omega)], fun k hk j hj => by rw [eo k (by omega)], fun k hk j hj => by rw [eo k (by omega)]⟩
  · have k3 : s' 3 t = s 3 t := by rw [eo 3 (by omega)]
    refine ⟨fun w => ?_, fun w => ?_, fun w => ?_, fun w => ?_, fun w => ?_⟩
    · rw [k3] at w; omega
    · rw [k3] at w; omega
    · unfold TOl
      rw [eo 3 (by omega), eo 4 (by omega), eo 5 (by omega), eo 6 (by omega), eo 20 (by omega), eo 21 (by omega), eo 22 (by omega), eo 23 (by omega)]
      have hA : ∀ k, zct H' (A t) k = zct H (A t) k := fun k => hx _ _ (by omega)
      have hA2 : ∀ k, zct H' (A t + 2) k = zct H (A t + 2) k := fun k => hx _ _ (by omega)
      simp only [hA, hA2, (h1.2.2 _ m0.2.1).1, (h1.2.2 _ m1.2.1).1, (h1.2.2 _ m1.2.1).2, (h1.2.2 _ m2.2.1).1, (h1.2.2 _ m2.2.1).2]
      refine ⟨⟨m0.fr h1 (fun _ _ => rfl), m1.fr h1 (fun _ _ => rfl), m2.fr h1 (fun _ _ => rfl)⟩, ⟨a0, a1, a2, a3, a4, a5, a6⟩, l, fun k hk => ?_, fun k hk => ?_⟩
      · rw [hr, e75, mk k hk]
        by_cases e : k = h
        · rw [if_pos e, if_pos (by omega)]
        · rw [if_neg e, if_neg (by omega)]
      · obtain ⟨d1, d2, d3⟩ := tb k hk
        have n0 : B t k ≠ A t + 1 := d2.1.ne m1 (Or.inl (by omega))
        have n1 : B t k + 1 ≠ A t + 1 := d2.2.1.ne m1 (Or.inl (by omega))
        exact ⟨d1, d2.fc h1 (hx _ _ n0) (fun _ _ => rfl), d3.fc (fun k => hx _ _ n0) (fun k => hx _ _ n1) rfl (fun _ _ => rfl) (fun _ _ => rfl) (fun _ _ => rfl)⟩
    · rw [k3] at w; omega
    · rw [k3] at w; omega
  · intro w
    rw [eo 3 (by omega)] at w
    omega
end MARKS
