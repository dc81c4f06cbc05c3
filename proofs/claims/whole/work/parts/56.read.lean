section READ
variable {X : Nat} {H : zHp} {s : zSg} {A : Nat → Nat} {B : Nat → Nat → Nat} {K : Nat → Nat} {ow : Nat → Nat × Nat} {t : Nat}
def zrs (s s' : zSg) : Prop := ∀ k j, k ≠ 17 → k ≠ 18 → k ≠ 19 → ¬ (k = 0 ∧ j = 16) → s' k j = s k j
theorem zrs.rf {s : zSg} : zrs s s := fun _ _ _ _ _ _ => rfl
theorem zrs.tr {a b c : zSg} (h : zrs a b) (k : zrs b c) : zrs a c := fun i j h1 h2 h3 h4 => (k i j h1 h2 h3 h4).trans (h i j h1 h2 h3 h4)
/-- the bar that was read, on both sides -/
def RB (H : zHp) (b : Nat) (s : zSg) (m : Nat) : Prop := BarV H b (m : Int) (s 17) (s 18) (s 19) ∧ s 0 16 = (m : Int) ∧ ∀ i, i < m → NR (-11) 72 (s 17 i) (s 18 i) (s 19 i)
def rpit (p tr : Int) : Int := if p = -1000 then -1000 else p + tr
theorem e_shifted {p l t tr : Int} (hn : NR 1 60 p l t) (hr : -12 ≤ tr ∧ tr ≤ 12) {H : zHp} : fH_shifted (ncode p l t) tr H = some (ncode (rpit p tr) l t, H) ∧ NR (-11) 72 (rpit p tr) l t := by
  obtain ⟨n1, n2, n3, n4⟩ := hn
  have hp : p = -1000 ∨ (-99 ≤ p ∧ p ≤ 1000) := by omega
  unfold fH_shifted rpit
  rw [e_isRest ⟨n2, n3⟩ n4 hp, ybd_s]
  by_cases h : p = -1000
  · rw [if_pos h, if_neg (by omega), if_pos h, h]
    exact ⟨rfl, Or.inl ⟨rfl, by omega⟩, n2, n3, n4⟩
  · rw [if_neg h, if_pos rfl, if_neg h]
    refine ⟨?_, Or.inr (by omega), n2, n3, n4⟩
    unfold ncode
    rw [if_neg h, if_neg (by omega), zmul_e (by omega) (by omega), zadd_e (by omega) (by omega)]
    congr 2
    omega
theorem yrd_n {α : Type} {n k j : Nat} (h : j < n) {s : zSg} {f : Int → Option (α × zSg)} : yrd n k (j : Int) s f = f (s k j) := by
  unfold yrd
  rw [if_pos (by omega), Int.toNat_natCast]
theorem ywi_n {α : Type} {n k j : Nat} (h : j < n) {v : Int} {s : zSg} {f : zSg → Option (α × zSg)} : ywi n k (j : Int) v s f = f (zup s k j v) := by
  unfold ywi
  rw [if_pos (by omega), Int.toNat_natCast]
set_option maxRecDepth 100000 in
theorem m_read1 {q k tn : Nat} {s1 : zSg} {m : Nat} (h16 : s1 0 16 = (m : Int)) (hm : m ≤ 7) (hq : q < 4800) (hk : k < 8) (htn : tn < 60) {f : Nat} (hkn : (k : Int) < s1 13 q) (h6 : -12 ≤ s1 6 tn ∧ s1 6 tn ≤ 12) (hn : NR 1 60 (s1 10 (8 * q + k)) (s1 11 (8 * q + k)) (s1 12 (8 * q + k))) (hb : ∀ i, i < m → 0 ≤ s1 18 i ∧ s1 18 i ≤ 100) :
    gM_readBar_l1 (f + 1) (tn : Int) (q : Int) (k : Int) s1 = gM_readBar_l1 f (tn : Int) (q : Int) ((k + 1 : Nat) : Int) (if 0 < m ∧ s1 17 (m - 1) = rpit (s1 10 (8 * q + k)) (s1 6 tn) ∧ (rpit (s1 10 (8 * q + k)) (s1 6 tn) = -1000 ∨ s1 19 (m - 1) = 1) then zup (zup s1 18 (m - 1) (s1 18 (m - 1) + s1 11 (8 * q + k))) 19 (m - 1) (s1 12 (8 * q + k)) else zup (zup (zup (zup s1 17 m (rpit (s1 10 (8 * q + k)) (s1 6 tn))) 18 m (s1 11 (8 * q + k))) 19 m (s1 12 (8 * q + k))) 0 16 ((m : Int) + 1)) := by
  obtain ⟨n1, n2, n3, n4⟩ := hn
  have e1 : zadd (zmul 8 (q : Int)) (k : Int) = ((8 * q + k : Nat) : Int) := by rw [zmul_e (by omega) (by omega), zadd_e (by omega) (by omega)]; omega
  have e2 : 8 * q + k < 38400 := by omega
  have e5 : zadd (k : Int) 1 = ((k + 1 : Nat) : Int) := by rw [zadd_e (by omega) (by omega)]; omega
  have e6 : m < 8 := by omega
  have e7 : zadd (m : Int) 1 = (m : Int) + 1 := zadd_e (by omega) (by omega)
  have e8 : zsub (m : Int) 1 = (m : Int) - 1 := zsub_e (by omega) (by omega)
  -- what the join does with a pitch
  have go : ∀ p : Int, (yjn (fun (x10 : Int) (x11 : Int) (x12 : Int) (x13 : Int) (x14 : Int) (s15 : zSg) =>
      yjn (fun (x17 : Int) (x18 : Int) (x19 : Int) (s20 : zSg) => yvl (zadd x19 1) fun v22 => gM_readBar_l1 f x17 x18 v22 s20) fun q21 =>
      yjn (fun (x23 : Int) (x24 : Int) (x25 : Int) (x26 : Int) (x27 : Int) (s28 : zSg) => ywi 8 17 (s28 0 16) x27 s28 fun s30 => yrd 38400 11 x26 s30 fun v31 => ywi 8 18 (s30 0 16) v31 s30 fun s32 => yrd 38400 12 x26 s32 fun v33 => ywi 8 19 (s32 0 16) v33 s32 fun s34 => yvl (zup s34 0 16 (zadd (s34 0 16) 1)) fun s35 => q21 x23 x24 x25 s35) fun q29 =>
      yjn (fun (x36 : Int) (x37 : Int) (x38 : Int) (x39 : Int) (x40 : Int) (s41 : zSg) => yrd 8 18 x40 s41 fun v43 => yrd 38400 11 x39 s41 fun v44 => ywi 8 18 x40 (zadd v43 v44) s41 fun s45 => yrd 38400 12 x39 s45 fun v46 => ywi 8 19 x40 v46 s45 fun s47 => q21 x36 x37 x38 s47) fun q42 =>
      yvl (zsub (s15 0 16) 1) fun v48 => if v48 < 0 then (q29 x10 x11 x12 x13 x14 s15) else yrd 8 17 v48 s15 fun v49 => if v49 = x14 then (if x14 = (-1000) then (q42 x10 x11 x12 x13 v48 s15) else yrd 8 19 v48 s15 fun v50 => if v50 = 1 then (q42 x10 x11 x12 x13 v48 s15) else (q29 x10 x11 x12 x13 x14 s15)) else (q29 x10 x11 x12 x13 x14 s15)) fun q16 => q16 (tn : Int) (q : Int) (k : Int) ((8 * q + k : Nat) : Int) p s1) = gM_readBar_l1 f (tn : Int) (q : Int) ((k + 1 : Nat) : Int) (if 0 < m ∧ s1 17 (m - 1) = p ∧ (p = -1000 ∨ s1 19 (m - 1) = 1) then zup (zup s1 18 (m - 1) (s1 18 (m - 1) + s1 11 (8 * q + k))) 19 (m - 1) (s1 12 (8 * q + k)) else zup (zup (zup (zup s1 17 m p) 18 m (s1 11 (8 * q + k))) 19 m (s1 12 (8 * q + k))) 0 16 ((m : Int) + 1)) := fun p => by
    have z1 : ∀ v, zup s1 17 m v 0 16 = (m : Int) := fun v => h16
    have z2 : ∀ v w, zup (zup s1 17 m v) 18 m w 0 16 = (m : Int) := fun v w => h16
    have z3 : ∀ v w y, zup (zup (zup s1 17 m v) 18 m w) 19 m y 0 16 = (m : Int) := fun v w y => h16
    have z4 : ∀ v j, zup s1 17 m v 11 j = s1 11 j := fun v j => rfl
    have z5 : ∀ v w j, zup (zup s1 17 m v) 18 m w 12 j = s1 12 j := fun v w j => rfl
    simp only [yjn, yvl, h16, e8]
    by_cases h0 : m = 0
    · subst h0
      rw [if_pos (by omega), if_neg (by omega)]
      simp only [ywi_n e6, yrd_n e2, h16, z1, z2, z3, z4, z5, e7, e5]
    · obtain ⟨n, rfl⟩ : ∃ n, m = n + 1 := ⟨m - 1, by omega⟩
      have en : ((n + 1 : Nat) : Int) - 1 = (n : Int) := by omega
      have en2 : n + 1 - 1 = n := rfl
      have e9 : n < 8 := by omega
      have e10 : zadd (s1 18 n) (s1 11 (8 * q + k)) = s1 18 n + s1 11 (8 * q + k) := by
        have := hb n (by omega)
        exact zadd_e (by omega) (by omega)
      have z6 : ∀ v j, zup s1 18 n v 12 j = s1 12 j := fun v j => rfl
      rw [en, en2, if_neg (by omega)]
      simp only [yrd_n e9, ywi_n e9, yrd_n e2, ywi_n e6, h16, z1, z2, z3, z4, z5, z6, e7, e5, e10]
      by_cases g : s1 17 n = p
      · rw [if_pos g]
        by_cases r : p = -1000
        · rw [if_pos r, if_pos ⟨by omega, g, Or.inl r⟩]
        · rw [if_neg r]
          by_cases g2 : s1 19 n = 1
          · rw [if_pos g2, if_pos ⟨by omega, g, Or.inr g2⟩]
          · rw [if_neg g2, if_neg (fun w => by rcases w.2.2 with w | w <;> contradiction)]
      · rw [if_neg g, if_neg (fun w => g w.2.1)]
  have g1 := go (-1000)
  have g2 := go (s1 10 (8 * q + k) + s1 6 tn)
  clear go
  rw [gM_readBar_l1]
  simp only [yjn, yvl, yrd_n hq, yrd_n htn, yrd_n e2, if_true, hkn, e1] at g1 g2 ⊢
  by_cases h : s1 10 (8 * q + k) = -1000
  · rw [if_pos h]
    have er : rpit (s1 10 (8 * q + k)) (s1 6 tn) = -1000 := if_pos h
    rw [er]
    simp only [true_or] at g1 ⊢
    exact g1
  · rw [if_neg h, zadd_e (by omega) (by omega)]
    have er : rpit (s1 10 (8 * q + k)) (s1 6 tn) = s1 10 (8 * q + k) + s1 6 tn := if_neg h
    rw [er]
    exact g2
end READ
