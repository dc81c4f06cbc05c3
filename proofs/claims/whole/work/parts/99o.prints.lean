theorem bit_u {T : Nat → Bool} {n j : Nat} (hn : n ≤ 10) (hj : j < n) : (zand (zshr ((bk n T : Nat) : Int) (j : Int)) 1 = 1) ↔ T j = true := by
  have a := bk_1024 hn T
  have c : (2 : Nat) ^ 10 = 1024 := rfl
  have d : bk n T / 2 ^ j ≤ bk n T := Nat.div_le_self _ _
  have e := sumP_bit (T := T) n j
  rw [if_pos hj, Nat.testBit_eq_decide_div_mod_eq] at e
  rw [zshr_n (by omega) (by omega), show (1 : Int) = ((1 : Nat) : Int) from rfl, zand_n (by omega), Nat.and_one_is_mod, ← e, decide_eq_true_eq]
  unfold bk
  omega
section PRINTS4
variable {s : zSg} {m : Nat}
theorem LQ_hdm {T : Nat → Bool} : ∀ (d k : Nat), k + d = m → k ≤ hdm m (LQ id T d k) ∧ hdm m (LQ id T d k) ≤ m
  | 0, k, h => ⟨by show k ≤ m; omega, Nat.le_refl _⟩
  | d + 1, k, h => by
    have ih := LQ_hdm (T := T) d (k + 1) (by omega)
    show k ≤ hdm m (if T (id k) = true then k :: LQ id T d (k + 1) else LQ id T d (k + 1)) ∧ hdm m (if T (id k) = true then k :: LQ id T d (k + 1) else LQ id T d (k + 1)) ≤ m
    by_cases c : T (id k) = true
    · rw [if_pos c]; exact ⟨Nat.le_refl _, by show k ≤ m; omega⟩
    · rw [if_neg c]; omega
set_option maxRecDepth 100000 in
theorem m_run_l (hp : HP s m) {T : Nat → Bool} : ∀ (d f p b c0 : Nat), p + b + d = m → d < f → 0 < b → c0 ≤ 2000000 * (p + 1) → ∃ r, gM_costOf_l1 f ((bk m T : Nat) : Int) ((c0 + hdN s p b : Nat) : Int) (p : Int) ((sgN s p b : Nat) : Int) ((p + b : Nat) : Int) s = some (r, s) ∧
    ((run1 s p (hdm m (LQ id T d (p + b))) ∧ okQ s m (LQ id T d (p + b)) ∧ r = ((c0 + hdN s p (hdm m (LQ id T d (p + b)) - p) + ck s m (LQ id T d (p + b)) : Nat) : Int)) ∨ (¬ (run1 s p (hdm m (LQ id T d (p + b))) ∧ okQ s m (LQ id T d (p + b))) ∧ r = -1)) := by
  obtain ⟨y1, y2, y3, y4, y5, y6⟩ := id hp
  intro d
  induction d with
  | zero =>
    intro f p b c0 h1 h2 h3 h4
    obtain ⟨f, rfl⟩ : ∃ f', f = f' + 1 := ⟨f - 1, by omega⟩
    have e1 : p + b = m := by omega
    have eb : m - p = b := by omega
    rw [e1]
    have pn : ¬ (p : Int) < 0 := by omega
    have r1 : run1 s p m ↔ 0 < sgN s p b ∧ ((sgN s p b : Nat) : Int) ≤ s 0 74 := by unfold run1; rw [eb]
    show ∃ r, _ ∧ ((run1 s p m ∧ True ∧ r = ((c0 + hdN s p (m - p) + 0 : Nat) : Int)) ∨ (¬ (run1 s p m ∧ True) ∧ r = -1))
    rw [r1, eb]
    rw [gM_costOf_l1]
    simp only [yjn, y1, Int.lt_irrefl, if_false, if_true, pn]
    by_cases c1 : ((sgN s p b : Nat) : Int) = 0
    · rw [if_pos c1]
      exact ⟨-1, rfl, Or.inr ⟨fun w => by omega, rfl⟩⟩
    · rw [if_neg c1]
      by_cases c2 : s 0 74 < ((sgN s p b : Nat) : Int)
      · rw [if_pos c2]
        exact ⟨-1, rfl, Or.inr ⟨fun w => by omega, rfl⟩⟩
      · rw [if_neg c2]
        exact ⟨_, rfl, Or.inl ⟨by omega, trivial, rfl⟩⟩
  | succ d ih =>
    intro f p b c0 h1 h2 h3 h4
    obtain ⟨f, rfl⟩ : ∃ f', f = f' + 1 := ⟨f - 1, by omega⟩
    have hk : p + b < m := by omega
    have k10 : p + b < 10 := by omega
    have pn : ¬ (p : Int) < 0 := by omega
    have q := y3 (p + b) hk
    have l1 : ¬ (m : Int) < ((p + b : Nat) : Int) := by omega
    have l2 : ((p + b : Nat) : Int) < (m : Int) := by omega
    have l3 : ¬ ((p + b : Nat) : Int) = (m : Int) := by omega
    have o0 : ¬ (1 : Int) = 0 := by decide
    have bt := bit_u (T := T) y2 hk
    have s1 := sgN_le hp (a := p) (b + 1) (by omega)
    have s0 := sgN_le hp (a := p) b (by omega)
    have d1 := hdN_le hp (a := p) (b + 1) (by omega)
    have d0 := hdN_le hp (a := p) b (by omega)
    have es : sgN s p (b + 1) = sgN s p b + (s 71 (p + b)).toNat := rfl
    have eh : hdN s p (b + 1) = hdN s p b + (s 71 (p + b)).toNat * b * (s 0 73).toNat := rfl
    have ek : zadd ((p + b : Nat) : Int) 1 = ((p + b + 1 : Nat) : Int) := by rw [zadd_e (by omega) (by omega)]; omega
    have lq : LQ id T (d + 1) (p + b) = if T (p + b) = true then (p + b) :: LQ id T d (p + b + 1) else LQ id T d (p + b + 1) := rfl
    have ea : zadd ((sgN s p b : Nat) : Int) (s 71 (p + b)) = ((sgN s p (b + 1) : Nat) : Int) := by rw [es, zadd_e (by omega) (by omega)]; omega
    have em2 : zsub ((p + b : Nat) : Int) (p : Int) = (b : Int) := by rw [zsub_e (by omega) (by omega)]; omega
    have m1 : (s 0 73).toNat * (s 71 (p + b)).toNat ≤ 99 * 999 := Nat.mul_le_mul (by omega) (by omega)
    have m2 : (s 0 73).toNat * (s 71 (p + b)).toNat * b ≤ 99 * 999 * 10 := Nat.mul_le_mul m1 (by omega)
    have n1 : s 0 73 * s 71 (p + b) = (((s 0 73).toNat * (s 71 (p + b)).toNat : Nat) : Int) := by rw [Int.natCast_mul, Int.toNat_of_nonneg y5.1, Int.toNat_of_nonneg q.1]
    have n2 : (((s 0 73).toNat * (s 71 (p + b)).toNat : Nat) : Int) * (b : Int) = (((s 0 73).toNat * (s 71 (p + b)).toNat * b : Nat) : Int) := by rw [Int.natCast_mul ((s 0 73).toNat * (s 71 (p + b)).toNat)]
    have cm : (s 71 (p + b)).toNat * b * (s 0 73).toNat = (s 0 73).toNat * (s 71 (p + b)).toNat * b := by rw [Nat.mul_comm _ (s 0 73).toNat, Nat.mul_assoc]
    have hz : zmul (zmul (s 0 73) (s 71 (p + b))) (b : Int) = (((s 0 73).toNat * (s 71 (p + b)).toNat * b : Nat) : Int) := by
      generalize (s 0 73).toNat * (s 71 (p + b)).toNat * b = w at m2 n2 ⊢
      generalize (s 0 73).toNat * (s 71 (p + b)).toNat = w1 at m1 n1 n2 ⊢
      have z1 : zmul (s 0 73) (s 71 (p + b)) = s 0 73 * s 71 (p + b) := zmul_e (by rw [n1]; omega) (by rw [n1]; omega)
      rw [z1, n1]
      have z2 : zmul (w1 : Int) (b : Int) = (w1 : Int) * (b : Int) := zmul_e (by rw [n2]; omega) (by rw [n2]; omega)
      rw [z2, n2]
    have eg : zadd ((c0 + hdN s p b : Nat) : Int) (zmul (zmul (s 0 73) (s 71 (p + b))) (b : Int)) = ((c0 + hdN s p (b + 1) : Nat) : Int) := by
      rw [hz, eh, cm]
      generalize (s 0 73).toNat * (s 71 (p + b)).toNat * b = w at m2 ⊢
      rw [zadd_e (by omega) (by omega)]
      omega
    clear m1 m2 n1 n2 cm hz eh
    by_cases c : T (p + b) = true
    · rw [lq, if_pos c]
      have eb : p + b - p = b := by omega
      have r1 : run1 s p (p + b) ↔ 0 < sgN s p b ∧ ((sgN s p b : Nat) : Int) ≤ s 0 74 := by unfold run1; rw [eb]
      show ∃ r, _ ∧ ((run1 s p (p + b) ∧ okQ s m ((p + b) :: LQ id T d (p + b + 1)) ∧ r = ((c0 + hdN s p (p + b - p) + ck s m ((p + b) :: LQ id T d (p + b + 1)) : Nat) : Int)) ∨ (¬ (run1 s p (p + b) ∧ okQ s m ((p + b) :: LQ id T d (p + b + 1))) ∧ r = -1))
      rw [r1, eb]
      have run0 : ∀ r, (if ((sgN s p b : Nat) : Int) = 0 then some (-1, s) else if s 0 74 < ((sgN s p b : Nat) : Int) then some (-1, s) else gM_costOf_l1 f ((bk m T : Nat) : Int) (zadd (zadd ((c0 + hdN s p b : Nat) : Int) (s 0 72)) (zmul (zmul (s 0 73) (s 71 (p + b))) (zsub ((p + b : Nat) : Int) ((p + b : Nat) : Int)))) ((p + b : Nat) : Int) (zadd 0 (s 71 (p + b))) ((p + b + 1 : Nat) : Int) s) = some (r, s) → gM_costOf_l1 (f + 1) ((bk m T : Nat) : Int) ((c0 + hdN s p b : Nat) : Int) (p : Int) ((sgN s p b : Nat) : Int) ((p + b : Nat) : Int) s = some (r, s) := fun r hr => by
        rw [← hr, gM_costOf_l1]
        simp only [yjn, yvl, y1, l1, l2, l3, if_false, if_true, pn, bt.mpr c, o0, yrd_n k10, show ¬ ((p + b : Nat) : Int) < 0 by omega, ek]
      by_cases c1 : ((sgN s p b : Nat) : Int) = 0
      · exact ⟨-1, run0 _ (by rw [if_pos c1]), Or.inr ⟨fun w => by omega, rfl⟩⟩
      · by_cases c2 : s 0 74 < ((sgN s p b : Nat) : Int)
        · exact ⟨-1, run0 _ (by rw [if_neg c1, if_pos c2]), Or.inr ⟨fun w => by omega, rfl⟩⟩
        · have hh := LQ_hdm (m := m) (T := T) d (p + b + 1) (by omega)
          obtain ⟨r, i1, i2⟩ := ih f (p + b) 1 (c0 + hdN s p b + (s 0 72).toNat) (by omega) (by omega) (by omega) (by omega)
          have a1 : sgN s (p + b) 1 = (s 71 (p + b)).toNat := by show 0 + (s 71 (p + b)).toNat = _; omega
          have a2 : hdN s (p + b) 1 = 0 := by show 0 + (s 71 (p + b)).toNat * 0 * (s 0 73).toNat = 0; rw [Nat.mul_zero, Nat.zero_mul]
          have a3 : zadd 0 (s 71 (p + b)) = (((s 71 (p + b)).toNat : Nat) : Int) := by rw [zadd_e (by omega) (by omega)]; omega
          have a5 : zsub ((p + b : Nat) : Int) ((p + b : Nat) : Int) = 0 := by rw [zsub_e (by omega) (by omega)]; omega
          have a6 : zmul (zmul (s 0 73) (s 71 (p + b))) 0 = 0 := by rw [zmul_e (by rw [Int.mul_zero]; omega) (by rw [Int.mul_zero]; omega), Int.mul_zero]
          have a7 : zadd (zadd ((c0 + hdN s p b : Nat) : Int) (s 0 72)) 0 = ((c0 + hdN s p b + (s 0 72).toNat : Nat) : Int) := by rw [zadd_e (x := ((c0 + hdN s p b : Nat) : Int)) (by omega) (by omega), zadd_e (by omega) (by omega)]; omega
          rw [a1, a2, Nat.add_zero] at i1
          refine ⟨r, run0 _ (by rw [if_neg c1, if_neg c2, a5, a6, a7, a3]; exact i1), ?_⟩
          have okc : okQ s m ((p + b) :: LQ id T d (p + b + 1)) ↔ run1 s (p + b) (hdm m (LQ id T d (p + b + 1))) ∧ okQ s m (LQ id T d (p + b + 1)) := ⟨fun w => w.2, fun w => ⟨⟨by omega, hh.2⟩, w⟩⟩
          have ckc : ck s m ((p + b) :: LQ id T d (p + b + 1)) = (s 0 72).toNat + hdN s (p + b) (hdm m (LQ id T d (p + b + 1)) - (p + b)) + ck s m (LQ id T d (p + b + 1)) := rfl
          rw [okc, ckc]
          rcases i2 with ⟨w1, w2, w3⟩ | ⟨w1, w2⟩
          · exact Or.inl ⟨by omega, ⟨w1, w2⟩, by rw [w3]; omega⟩
          · exact Or.inr ⟨fun w => w1 w.2, w2⟩
    · have nb : ¬ zand (zshr ((bk m T : Nat) : Int) ((p + b : Nat) : Int)) 1 = 1 := fun w => c (bt.mp w)
      rw [lq, if_neg c]
      obtain ⟨r, i1, i2⟩ := ih f p (b + 1) c0 (by omega) (by omega) (by omega) h4
      have eb1 : p + (b + 1) = p + b + 1 := by omega
      rw [eb1] at i1 i2
      refine ⟨r, ?_, i2⟩
      rw [← i1, gM_costOf_l1]
      simp only [yjn, yvl, y1, l1, l2, l3, if_false, if_true, pn, nb, yrd_n k10, ek, ea, em2, eg]
theorem m_cost_l (hp : HP s m) {T : Nat → Bool} : ∀ (d f k : Nat), k + d = m → d < f → ∃ r, gM_costOf_l1 f ((bk m T : Nat) : Int) 0 (-1) 0 (k : Int) s = some (r, s) ∧
    ((okQ s m (LQ id T d k) ∧ (∀ i, k ≤ i → i < hdm m (LQ id T d k) → s 71 i = 0) ∧ r = ((ck s m (LQ id T d k) : Nat) : Int)) ∨ (¬ (okQ s m (LQ id T d k) ∧ ∀ i, k ≤ i → i < hdm m (LQ id T d k) → s 71 i = 0) ∧ r = -1)) := by
  obtain ⟨y1, y2, y3, y4, y5, y6⟩ := id hp
  intro d
  induction d with
  | zero =>
    intro f k h1 h2
    obtain ⟨f, rfl⟩ : ∃ f', f = f' + 1 := ⟨f - 1, by omega⟩
    obtain rfl : k = m := by omega
    have m0 : ¬ s 0 74 < 0 := by omega
    refine ⟨0, ?_, Or.inl ⟨trivial, fun i h1 h2 => absurd (show i < k from h2) (by omega), rfl⟩⟩
    rw [gM_costOf_l1]
    simp only [yjn, y1, Int.lt_irrefl, if_false, if_true, m0, show (-1 : Int) < 0 by decide]
  | succ d ih =>
    intro f k h1 h2
    obtain ⟨f, rfl⟩ : ∃ f', f = f' + 1 := ⟨f - 1, by omega⟩
    have hk : k < m := by omega
    have k10 : k < 10 := by omega
    have q := y3 k hk
    have m0 : ¬ s 0 74 < 0 := by omega
    have l1 : ¬ (m : Int) < (k : Int) := by omega
    have l2 : (k : Int) < (m : Int) := by omega
    have l3 : ¬ (k : Int) = (m : Int) := by omega
    have kn : ¬ (k : Int) < 0 := by omega
    have o0 : ¬ (1 : Int) = 0 := by decide
    have bt := bit_u (T := T) y2 hk
    have ek : zadd (k : Int) 1 = ((k + 1 : Nat) : Int) := by rw [zadd_e (by omega) (by omega)]; omega
    have lq : LQ id T (d + 1) k = if T k = true then k :: LQ id T d (k + 1) else LQ id T d (k + 1) := rfl
    have hh := LQ_hdm (m := m) (T := T) d (k + 1) (by omega)
    by_cases c : T k = true
    · rw [lq, if_pos c]
      obtain ⟨r, i1, i2⟩ := m_run_l hp (T := T) d f k 1 (s 0 72).toNat (by omega) (by omega) (by omega) (by omega)
      have a1 : sgN s k 1 = (s 71 k).toNat := by show 0 + (s 71 k).toNat = _; omega
      have a2 : hdN s k 1 = 0 := by show 0 + (s 71 k).toNat * 0 * (s 0 73).toNat = 0; rw [Nat.mul_zero, Nat.zero_mul]
      have a3 : zadd 0 (s 71 k) = (((s 71 k).toNat : Nat) : Int) := by rw [zadd_e (by omega) (by omega)]; omega
      have a5 : zsub (k : Int) (k : Int) = 0 := by rw [zsub_e (by omega) (by omega)]; omega
      have a6 : zmul (zmul (s 0 73) (s 71 k)) 0 = 0 := by rw [zmul_e (by rw [Int.mul_zero]; omega) (by rw [Int.mul_zero]; omega), Int.mul_zero]
      have a7 : zadd (zadd 0 (s 0 72)) 0 = (((s 0 72).toNat : Nat) : Int) := by rw [zadd_e (x := 0) (by omega) (by omega), zadd_e (by omega) (by omega)]; omega
      rw [a1, a2, Nat.add_zero] at i1
      refine ⟨r, ?_, ?_⟩
      · rw [gM_costOf_l1]
        simp only [yjn, yvl, y1, l1, l2, l3, if_false, if_true, bt.mpr c, o0, yrd_n k10, show (-1 : Int) < 0 by decide, m0, kn, ek, a5, a6, a7, a3]
        exact i1
      · have okc : okQ s m (k :: LQ id T d (k + 1)) ↔ run1 s k (hdm m (LQ id T d (k + 1))) ∧ okQ s m (LQ id T d (k + 1)) := ⟨fun w => w.2, fun w => ⟨⟨by omega, hh.2⟩, w⟩⟩
        have ckc : ck s m (k :: LQ id T d (k + 1)) = (s 0 72).toNat + hdN s k (hdm m (LQ id T d (k + 1)) - k) + ck s m (LQ id T d (k + 1)) := rfl
        rw [okc, ckc]
        rcases i2 with ⟨w1, w2, w3⟩ | ⟨w1, w2⟩
        · exact Or.inl ⟨⟨w1, w2⟩, fun i h5 h6 => absurd (show i < k from h6) (by omega), w3⟩
        · exact Or.inr ⟨fun w => w1 w.1, w2⟩
    · have nb : ¬ zand (zshr ((bk m T : Nat) : Int) (k : Int)) 1 = 1 := fun w => c (bt.mp w)
      rw [lq, if_neg c]
      by_cases g : 0 < s 71 k
      · refine ⟨-1, ?_, Or.inr ⟨fun w => ?_, rfl⟩⟩
        · rw [gM_costOf_l1]
          simp only [yjn, yvl, y1, l1, l2, l3, if_false, if_true, nb, yrd_n k10, show (-1 : Int) < 0 by decide, g]
        · have := w.2 k (Nat.le_refl _) (by omega)
          omega
      · obtain ⟨r, i1, i2⟩ := ih f (k + 1) (by omega) (by omega)
        have e : (∀ i, k + 1 ≤ i → i < hdm m (LQ id T d (k + 1)) → s 71 i = 0) ↔ ∀ i, k ≤ i → i < hdm m (LQ id T d (k + 1)) → s 71 i = 0 := ⟨fun w i h5 h6 => by
          by_cases c : i = k
          · rw [c]; omega
          · exact w i (by omega) h6, fun w i h5 h6 => w i (by omega) h6⟩
        rw [e] at i2
        refine ⟨r, ?_, i2⟩
        rw [← i1, gM_costOf_l1]
        simp only [yjn, yvl, y1, l1, l2, l3, if_false, if_true, nb, yrd_n k10, show (-1 : Int) < 0 by decide, g, ek]
end PRINTS4
