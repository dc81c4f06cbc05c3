theorem zsm_9 : ∀ j : Fin 10, ((Int32.ofInt ((j.val : Nat) : Int) &&& 31).toBitVec.smod 32).toNat = j.val := by decide +kernel
theorem zshr_n {z : Nat} (h : z < 2147483648) {j : Nat} (hj : j < 10) : zshr (z : Int) (j : Int) = ((z / 2 ^ j : Nat) : Int) := by
  have e : (Int32.ofInt (z : Int) >>> (Int32.ofInt (j : Int) &&& 31)).toBitVec = (BitVec.ofInt 32 (z : Int)).sshiftRight j := by
    rw [Int32.toBitVec_shiftRight, BitVec.sshiftRight_eq', zsm_9 ⟨j, hj⟩]
    rfl
  have e2 : (BitVec.ofInt 32 (z : Int)).toInt = (z : Int) := by
    have := zof (x := (z : Int)) ⟨by omega, by omega⟩
    rw [← Int32.toInt_toBitVec] at this
    exact this
  unfold zshr
  rw [← Int32.toInt_toBitVec, e, BitVec.toInt_sshiftRight, e2, Int.shiftRight_eq_div_pow]
  norm_cast
theorem bit_t {T : Nat → Bool} {n j : Nat} (hn : n ≤ 9) (hj : j < n) : (zand (zshr ((bk n T : Nat) : Int) (j : Int)) 1 = 1) ↔ T j = true := by
  have a := sumP_lt (T := T) n
  have b := Nat.pow_le_pow_right (n := 2) (by omega) hn
  have c : (2 : Nat) ^ 9 = 512 := rfl
  have d : bk n T / 2 ^ j ≤ bk n T := Nat.div_le_self _ _
  have e := sumP_bit (T := T) n j
  rw [if_pos hj, Nat.testBit_eq_decide_div_mod_eq] at e
  have lt : bk n T < 512 := by unfold bk; omega
  rw [zshr_n (by omega) (by omega), show (1 : Int) = ((1 : Nat) : Int) from rfl, zand_n (by omega), Nat.and_one_is_mod, ← e, decide_eq_true_eq]
  unfold bk
  omega
theorem zmask_9 : ∀ j : Fin 9, (BitVec.ofInt 32 (zxor (zshl 1 ((j.val : Nat) : Int)) (-1))).toNat = 2 ^ 32 - (2 ^ j.val + 1) := by decide +kernel
theorem bk_out {T : Nat → Bool} {n j : Nat} (hn : n ≤ 9) (hj : j < n) : zand ((bk n T : Nat) : Int) (zxor (zshl 1 (j : Int)) (-1)) = ((bk n (Tm T j) : Nat) : Int) := by
  have a := sumP_lt (T := T) n
  have b := Nat.pow_le_pow_right (n := 2) (by omega) hn
  have c : (2 : Nat) ^ 9 = 512 := rfl
  have lt : bk n T < 512 := by unfold bk; omega
  have m := zmask_9 ⟨j, by omega⟩
  dsimp only at m
  obtain ⟨y, ey⟩ : ∃ y, y = zxor (zshl 1 (j : Int)) (-1) := ⟨_, rfl⟩
  rw [← ey] at m ⊢
  have p32 : 2 ^ j < 2 ^ 32 := Nat.pow_lt_pow_right (by omega) (by omega)
  have q : bk n T &&& (2 ^ 32 - (2 ^ j + 1)) = bk n (Tm T j) := Nat.eq_of_testBit_eq fun i => by
    unfold bk
    rw [Nat.testBit_and, Nat.testBit_two_pow_sub_succ p32, Nat.testBit_two_pow, sumP_bit, sumP_bit]
    show _ = if i < n then (if i = j then false else T i) else false
    by_cases c : i < n
    · rw [if_pos c, if_pos c, decide_eq_true (show i < 32 by omega)]
      by_cases c2 : i = j
      · rw [if_pos c2, decide_eq_true c2.symm]; simp
      · rw [if_neg c2, decide_eq_false (fun e => c2 e.symm)]; simp
    · rw [if_neg c, if_neg c, Bool.false_and]
  have e : (Int32.ofNat (bk n T) &&& Int32.ofInt y).toBitVec = BitVec.ofNat 32 (bk n T) &&& BitVec.ofInt 32 y := rfl
  have h3 : (BitVec.ofNat 32 (bk n T) &&& BitVec.ofInt 32 y).toNat = bk n (Tm T j) := by
    rw [BitVec.toNat_and, BitVec.toNat_ofNat, m, Nat.mod_eq_of_lt (by omega), q]
  have l2 := sumP_lt (T := Tm T j) n
  have lt2 : bk n (Tm T j) < 512 := by unfold bk; omega
  unfold zand
  rw [Int32.ofInt_eq_ofNat, ← Int32.toInt_toBitVec, e, BitVec.toInt_eq_toNat_of_lt (by omega), h3]
theorem zshl_9 : ∀ k : Fin 10, zshl 1 ((k.val : Nat) : Int) = ((2 ^ k.val : Nat) : Int) := by decide +kernel
section HIRE4
variable {s : zSg} {n : Nat} {o : Nat → Nat}
theorem TL.mem : ∀ (L : List Nat) {k j : Nat}, srt n k L → TL o L j = true → ∃ q, k ≤ q ∧ q < n ∧ j = o q
  | [], _, _, _, h => absurd h (show ¬ false = true by decide)
  | p :: L, k, j, hs, h => by
    have h : (if j = o p then true else TL o L j) = true := h
    by_cases c : j = o p
    · exact ⟨p, hs.1.1, hs.1.2, c⟩
    · rw [if_neg c] at h
      obtain ⟨q, q1, q2⟩ := TL.mem L hs.2 h
      exact ⟨q, Nat.le_trans hs.1.1 (Nat.le_of_succ_le q1), q2⟩
def Mn (s : zSg) (T : Nat → Bool) (i e : Nat) : Prop := e < i ∧ T e = true ∧ ∀ j, j < i → T j = true → s 67 e < s 67 j ∨ (s 67 e = s 67 j ∧ e ≤ j)
theorem m_first_l (hy : HY s n o) {T : Nat → Bool} (t d : Int) (some1 : ∃ j, j < n ∧ T j = true) : ∀ (m f i : Nat) (x : Int), n - i = m → m < f → i ≤ n → ((x = -1 ∧ ∀ j, j < i → T j = false) ∨ ∃ e : Nat, x = (e : Int) ∧ Mn s T i e) → ∃ e : Nat, (∀ Q, gM_serves_l2 f t d ((bk n T : Nat) : Int) x (i : Int) s Q = Q t d ((bk n T : Nat) : Int) (e : Int) s) ∧ Mn s T n e := by
  have n9 := hy.2.1
  have h65 := hy.1
  intro m
  induction m with
  | zero =>
    intro f i x h1 h2 h3 inv
    obtain ⟨f, rfl⟩ : ∃ f', f = f' + 1 := ⟨f - 1, by clear inv some1; omega⟩
    obtain rfl : i = n := by clear inv some1; omega
    rcases inv with ⟨-, w⟩ | ⟨e, e1, e2⟩
    · obtain ⟨j, j1, j2⟩ := some1
      rw [w j j1] at j2
      cases j2
    · refine ⟨e, fun Q => ?_, e2⟩
      rw [gM_serves_l2]
      simp only [yjn, h65, e1]
      rw [if_neg (by clear some1; omega)]
  | succ m ih =>
    intro f i x h1 h2 h3 inv
    obtain ⟨f, rfl⟩ : ∃ f', f = f' + 1 := ⟨f - 1, by clear inv some1; omega⟩
    have hi : i < n := by clear inv some1; omega
    have i9 : i < 9 := by clear inv some1; omega
    have ei : zadd (i : Int) 1 = ((i + 1 : Nat) : Int) := by rw [zadd_e (by clear inv some1; omega) (by clear inv some1; omega)]; clear inv some1; omega
    have lt : (i : Int) < (n : Int) := by clear inv some1; omega
    have x1 : n - (i + 1) = m := by clear inv some1; omega
    have x2 : m < f := by clear inv some1; omega
    have x3 : i + 1 ≤ n := by clear inv some1; omega
    have bt := bit_t (T := T) n9 hi
    clear some1
    by_cases c : T i = true
    · have take : (∀ j, j < i → T j = true → s 67 i < s 67 j) → Mn s T (i + 1) i := fun w => ⟨Nat.lt_succ_self i, c, fun j j1 j2 => by
        by_cases e : j = i
        · subst e; exact Or.inr ⟨rfl, Nat.le_refl _⟩
        · exact Or.inl (w j (by clear inv; omega) j2)⟩
      rcases inv with ⟨w1, w2⟩ | ⟨e, e1, e2, e3, e4⟩
      · obtain ⟨e, i1, i2⟩ := ih f (i + 1) (i : Int) x1 x2 x3 (Or.inr ⟨i, rfl, take fun j j1 j2 => by rw [w2 j j1] at j2; cases j2⟩)
        refine ⟨e, fun Q => ?_, i2⟩
        rw [← i1 Q, gM_serves_l2]
        simp only [yjn, yvl, h65, lt, if_true, bt.mpr c, w1, show (-1 : Int) < 0 by decide, ei]
      · have e9 : e < 9 := by omega
        have en : ¬ (e : Int) < 0 := by omega
        by_cases g : s 67 i < s 67 e
        · obtain ⟨e', i1, i2⟩ := ih f (i + 1) (i : Int) x1 x2 x3 (Or.inr ⟨i, rfl, take fun j j1 j2 => by have := e4 j j1 j2; omega⟩)
          refine ⟨e', fun Q => ?_, i2⟩
          rw [← i1 Q, gM_serves_l2]
          simp only [yjn, yvl, h65, lt, if_true, bt.mpr c, e1, en, if_false, yrd_n i9, yrd_n e9, g, ei]
        · obtain ⟨e', i1, i2⟩ := ih f (i + 1) (e : Int) x1 x2 x3 (Or.inr ⟨e, rfl, by omega, e3, fun j j1 j2 => by
            by_cases q : j = i
            · subst q; omega
            · exact e4 j (by omega) j2⟩)
          refine ⟨e', fun Q => ?_, i2⟩
          rw [← i1 Q, gM_serves_l2]
          simp only [yjn, yvl, h65, lt, if_true, bt.mpr c, e1, en, if_false, yrd_n i9, yrd_n e9, g, ei]
    · have c' : T i = false := by cases q : T i with | true => exact absurd q c | false => rfl
      have nb : ¬ zand (zshr ((bk n T : Nat) : Int) (i : Int)) 1 = 1 := fun w => c (bt.mp w)
      obtain ⟨e', i1, i2⟩ := ih f (i + 1) x x1 x2 x3 (by
        rcases inv with ⟨w1, w2⟩ | ⟨e, e1, e2, e3, e4⟩
        · refine Or.inl ⟨w1, fun j hj => ?_⟩
          by_cases q : j = i
          · rw [q]; exact c'
          · exact w2 j (by omega)
        · refine Or.inr ⟨e, e1, by omega, e3, fun j j1 j2 => ?_⟩
          by_cases q : j = i
          · rw [q, c'] at j2; cases j2
          · exact e4 j (by omega) j2)
      refine ⟨e', fun Q => ?_, i2⟩
      rw [← i1 Q, gM_serves_l2]
      simp only [yjn, yvl, h65, lt, if_true, nb, if_false, ei]
theorem m_serves_l (hy : HY s n o) : ∀ (L : List Nat) (k f : Nat) (t d : Int), srt n k L → L.length < f → 0 ≤ t ∧ t ≤ 5 → 0 ≤ d ∧ d ≤ 10000 → ∃ r, gM_serves_l1 f t d ((bk n (TL o L) : Nat) : Int) s = some (r, s) ∧ (r = 1 ∨ r = 0) ∧ (r = 1 ↔ okL s n o k t d L) := by
  have n9 := hy.2.1
  obtain ⟨y1, y2, y3, y4, y5, y6⟩ := id hy
  intro L
  induction L with
  | nil =>
    intro k f t d h1 h2 h3 h4
    obtain ⟨f, rfl⟩ : ∃ f', f = f' + 1 := ⟨f - 1, by omega⟩
    refine ⟨1, ?_, Or.inl rfl, fun _ => trivial, fun _ => rfl⟩
    rw [gM_serves_l1, (nil_keys (s := s)).2.2, if_pos (show ((0 : Nat) : Int) = 0 from rfl)]
  | cons p L ih =>
    intro k f t d h1 h2 h3 h4
    obtain ⟨f, rfl⟩ : ∃ f', f = f' + 1 := ⟨f - 1, by omega⟩
    have hp := h1.1.2
    have op := y5 p hp
    have o9 : o p < 9 := by omega
    obtain ⟨a1, a2, a3, a4⟩ := y3 (o p) op
    have kc := (TL.cons hy h1).2.2
    have p2 : 0 < 2 ^ (o p) := Nat.two_pow_pos _
    have b0 : ¬ ((bk n (TL o (p :: L)) : Nat) : Int) = 0 := by omega
    clear kc p2
    have tp : TL o (p :: L) (o p) = true := by show (if o p = o p then true else TL o L (o p)) = true; rw [if_pos rfl]
    have toff := TL.off hy L h1.2 (Nat.lt_succ_self p) hp
    obtain ⟨e, q1, q2, q3, q4⟩ := m_first_l hy (T := TL o (p :: L)) t d ⟨o p, op, tp⟩ n zFU 0 (-1) (by omega) (by rw [zFU_e]; omega) (by omega) (Or.inl ⟨rfl, fun j h => absurd h (by omega)⟩)
    have q1' : ∀ Q, gM_serves_l2 zFU t d ((bk n (TL o (p :: L)) : Nat) : Int) (-1) 0 s Q = Q t d ((bk n (TL o (p :: L)) : Nat) : Int) (e : Int) s := q1
    have ee : e = o p := by
      have q3 : (if e = o p then true else TL o L e) = true := q3
      by_cases c : e = o p
      · exact c
      · rw [if_neg c] at q3
        obtain ⟨q, w1, w2, w3⟩ := TL.mem L h1.2 q3
        have a := y6 p q w1 w2
        have b := q4 (o p) op tp
        rw [← w3] at a
        omega
    subst ee
    have em : Tm (TL o (p :: L)) (o p) = TL o L := funext fun j => by
      show (if j = o p then false else if j = o p then true else TL o L j) = TL o L j
      by_cases c : j = o p
      · rw [if_pos c, c, toff]
      · rw [if_neg c, if_neg c]
    have bo := bk_out (T := TL o (p :: L)) n9 op
    rw [em] at bo
    have i36 : (6 * t + s 66 (o p)).toNat < 36 := by omega
    have wr : 0 ≤ wyb s t (s 66 (o p)) ∧ wyb s t (s 66 (o p)) ≤ 99 := y4 _ i36
    have ew : zadd (zmul 6 t) (s 66 (o p)) = (((6 * t + s 66 (o p)).toNat : Nat) : Int) := by rw [zmul_e (by omega) (by omega), zadd_e (by omega) (by omega)]; omega
    have ed : zadd d (wyb s t (s 66 (o p))) = d + wyb s t (s 66 (o p)) := zadd_e (by omega) (by omega)
    have ed' : zadd d (s 63 (6 * t + s 66 (o p)).toNat) = d + wyb s t (s 66 (o p)) := ed
    have e1 : zadd (s 68 (o p)) 1 = s 68 (o p) + 1 := zadd_e (by omega) (by omega)
    by_cases g : s 67 (o p) < d + wyb s t (s 66 (o p))
    · refine ⟨0, ?_, Or.inr rfl, fun w => absurd w (by decide), fun w => absurd w.2.1 (by omega)⟩
      rw [gM_serves_l1, if_neg b0]
      simp only [q1', yrd_n o9, ew, yrd_n i36, ed', g, if_true]
    · obtain ⟨r, r1, r2, r3⟩ := ih (p + 1) f (s 66 (o p)) (s 68 (o p) + 1) h1.2 (by rw [List.length_cons] at h2; omega) a1 (by omega)
      refine ⟨r, ?_, r2, r3.trans ⟨fun w => ⟨h1.1, by omega, w⟩, fun w => w.2.2⟩⟩
      rw [gM_serves_l1, if_neg b0]
      simp only [q1', yrd_n o9, ew, yrd_n i36, ed', g, if_false, yvl, e1, bo]
      exact r1
end HIRE4
