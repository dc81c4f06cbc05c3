section HIRE5
variable {X : Nat} {H : zHp} {s : zSg} {A : Nat → Nat} {B : Nat → Nat → Nat} {K : Nat → Nat} {ow : Nat → Nat × Nat} {n : Nat} {o : Nat → Nat}
theorem m_worth_l (hy : HY s n o) {T : Nat → Bool} (x13 x14 x15 x16 : Int) : ∀ (m f j : Nat), n - j = m → m < f → j ≤ n → ∀ Q, gM_hire_l5 f x13 x14 x15 x16 ((bk n T : Nat) : Int) ((sumP (fun j => (s 69 j).toNat) T j : Nat) : Int) (j : Int) s Q = Q x13 x14 x15 x16 ((bk n T : Nat) : Int) ((wk s n T : Nat) : Int) s := by
  have n9 := hy.2.1
  have h65 := hy.1
  intro m
  induction m with
  | zero =>
    intro f j h1 h2 h3 Q
    obtain ⟨f, rfl⟩ : ∃ f', f = f' + 1 := ⟨f - 1, by omega⟩
    obtain rfl : j = n := by omega
    rw [gM_hire_l5]
    simp only [yjn, h65]
    rw [if_neg (by omega)]
    rfl
  | succ m ih =>
    intro f j h1 h2 h3 Q
    obtain ⟨f, rfl⟩ : ∃ f', f = f' + 1 := ⟨f - 1, by omega⟩
    have hj : j < n := by omega
    have j9 : j < 9 := by omega
    have a4 := (hy.2.2.1 j hj).2.2.2
    have ej : zadd (j : Int) 1 = ((j + 1 : Nat) : Int) := by rw [zadd_e (by omega) (by omega)]; omega
    have lt : (j : Int) < (n : Int) := by omega
    have w1 : sumP (fun j => (s 69 j).toNat) T j ≤ 999 * j := sumP_le j fun i hi => by
      have := (hy.2.2.1 i (by omega)).2.2.2
      show (s 69 i).toNat ≤ 999
      omega
    have bt := bit_t (T := T) n9 hj
    rw [← ih f (j + 1) (by omega) (by omega) (by omega) Q, gM_hire_l5]
    have es : sumP (fun j => (s 69 j).toNat) T (j + 1) = sumP (fun j => (s 69 j).toNat) T j + (if T j = true then (s 69 j).toNat else 0) := rfl
    by_cases c : T j = true
    · have ea : zadd ((sumP (fun j => (s 69 j).toNat) T j : Nat) : Int) (s 69 j) = ((sumP (fun j => (s 69 j).toNat) T (j + 1) : Nat) : Int) := by rw [es, if_pos c, zadd_e (by omega) (by omega)]; omega
      simp only [yjn, yvl, h65, lt, if_true, bt.mpr c, yrd_n j9, ea, ej]
    · have nb : ¬ zand (zshr ((bk n T : Nat) : Int) (j : Int)) 1 = 1 := fun w => c (bt.mp w)
      have ea : zadd ((sumP (fun j => (s 69 j).toNat) T j : Nat) : Int) 0 = ((sumP (fun j => (s 69 j).toNat) T (j + 1) : Nat) : Int) := by rw [es, if_neg c, zadd_e (by omega) (by omega)]; omega
      simp only [yjn, yvl, h65, lt, if_true, nb, if_false, ea, ej]
theorem m_hire_l (hy : HY s n o) {e : Nat} (e60 : e < 60) (ht : 0 ≤ s 64 e ∧ s 64 e ≤ 5) (hd : 0 ≤ s 0 1 ∧ s 0 1 ≤ 9999) (a2 : Int) : ∀ (m f b : Nat) (Lb : List Nat), 2 ^ n - b = m → m < f → 1 ≤ b → b ≤ 2 ^ n → okL s n o 0 (s 64 e) (s 0 1) Lb → bk n (TL o Lb) < b → (∀ L', okL s n o 0 (s 64 e) (s 0 1) L' → bk n (TL o L') < b → ¬ BtT s n (TL o L') (TL o Lb)) →
    ∃ L, (∀ Q, gM_hire_l4 f (e : Int) a2 ((bk n (TL o Lb) : Nat) : Int) ((wk s n (TL o Lb) : Nat) : Int) (b : Int) s Q = Q a2 ((bk n (TL o L) : Nat) : Int) ((wk s n (TL o L) : Nat) : Int) s) ∧ OpL s n o 0 (s 64 e) (s 0 1) L := by
  have n9 := hy.2.1
  have h65 := hy.1
  have p9 := Nat.pow_le_pow_right (n := 2) (by omega) n9
  have c9 : (2 : Nat) ^ 9 = 512 := rfl
  have z9 := zshl_9 ⟨n, by omega⟩
  dsimp only at z9
  intro m
  induction m with
  | zero =>
    intro f b Lb h1 h2 h3 h4 ok lt best
    obtain ⟨f, rfl⟩ : ∃ f', f = f' + 1 := ⟨f - 1, by omega⟩
    refine ⟨Lb, fun Q => ?_, ok, fun L' hL => best L' hL ?_⟩
    · rw [gM_hire_l4, h65, z9, if_neg (by omega)]
    · have := sumP_lt (T := TL o L') n
      unfold bk
      omega
  | succ m ih =>
    intro f b Lb h1 h2 h3 h4 ok lt best
    obtain ⟨f, rfl⟩ : ∃ f', f = f' + 1 := ⟨f - 1, by omega⟩
    have hb : (b : Int) < ((2 ^ n : Nat) : Int) := by omega
    have x1 : 2 ^ n - (b + 1) = m := by omega
    have x2 : m < f := by omega
    have x3 : 1 ≤ b + 1 := by omega
    have x4 : b + 1 ≤ 2 ^ n := by omega
    have lt' : bk n (TL o Lb) < b + 1 := by omega
    have eb1 : zadd (b : Int) 1 = ((b + 1 : Nat) : Int) := by rw [zadd_e (by omega) (by omega)]; omega
    obtain ⟨L0, eL⟩ : ∃ L0, L0 = LQ o b.testBit n 0 := ⟨_, rfl⟩
    have sL : srt n 0 L0 := by rw [eL]; exact LQ_srt n 0 (by omega)
    have eb : bk n (TL o L0) = b := by
      rw [eL, (keys_of (s := s) (LQ_all hy b.testBit)).2.2]
      unfold bk
      rw [sumP_of, Nat.mod_eq_of_lt (by omega)]
    have len : ∀ (L : List Nat) (k : Nat), srt n k L → L.length ≤ n := fun L => by
      have : ∀ (L : List Nat) (k : Nat), srt n k L → k ≤ n → L.length + k ≤ n := fun L => by
        induction L with
        | nil => intro k _ h; simpa using h
        | cons p L ih2 =>
          intro k h h'
          have := ih2 (p + 1) h.2 h.1.2
          have := h.1.1
          rw [List.length_cons]
          omega
      intro k h
      cases L with
      | nil => exact Nat.zero_le _
      | cons p L =>
        have := this (p :: L) k h (by have := h.1; omega)
        omega
    have l0 := len L0 0 sL
    obtain ⟨r, r1, r2, r3⟩ := m_serves_l hy L0 0 zFU (s 64 e) (s 0 1) sL (by rw [zFU_e]; omega) ht (by omega)
    rw [eb] at r1
    have sv : gM_serves (s 64 e) (b : Int) s = some (r, s) := r1
    have wo : ∀ (x13 x14 x15 x16 : Int) Q, gM_hire_l5 zFU x13 x14 x15 x16 (b : Int) 0 0 s Q = Q x13 x14 x15 x16 (b : Int) ((wk s n (TL o L0) : Nat) : Int) s := fun x13 x14 x15 x16 Q => by
      have := m_worth_l hy (T := TL o L0) x13 x14 x15 x16 n zFU 0 (by omega) (by rw [zFU_e]; omega) (by omega) Q
      rw [eb] at this
      exact this
    have pp : ∀ T, pop 10 (bk n T) = zk n T := fun T => by
      have := pop_10 (T := T) (n := n) (10 - n)
      rw [show n + (10 - n) = 10 by omega] at this
      exact this
    have bo1 : gM_bitsOf (b : Int) s = some (((zk n (TL o L0) : Nat) : Int), s) := by rw [m_bitsOf (by omega), ← pp, eb]
    have bo2 : gM_bitsOf ((bk n (TL o Lb) : Nat) : Int) s = some (((zk n (TL o Lb) : Nat) : Int), s) := by rw [m_bitsOf (by omega), pp]
    -- another way with the same number
    have other : ∀ L', okL s n o 0 (s 64 e) (s 0 1) L' → bk n (TL o L') = b → okL s n o 0 (s 64 e) (s 0 1) L0 ∧ wk s n (TL o L') = wk s n (TL o L0) ∧ zk n (TL o L') = zk n (TL o L0) := fun L' hL hb' => by
      have sL' := okL.srt L' hL
      have l1 := len L' 0 sL'
      obtain ⟨r', q1, q2, q3⟩ := m_serves_l hy L' 0 zFU (s 64 e) (s 0 1) sL' (by rw [zFU_e]; omega) ht (by omega)
      rw [hb', r1] at q1
      have er : r = r' := by injection q1 with q1; injection q1
      have ks := keys_of (s := s) (keys_bk (T := TL o L') (T' := TL o L0) (n := n) (by rw [hb', eb]))
      exact ⟨r3.mp (er.trans (q3.mpr hL)), ks.1, ks.2.1⟩
    have keep : (okL s n o 0 (s 64 e) (s 0 1) L0 → ¬ BtT s n (TL o L0) (TL o Lb)) → ∀ L', okL s n o 0 (s 64 e) (s 0 1) L' → bk n (TL o L') < b + 1 → ¬ BtT s n (TL o L') (TL o Lb) := fun w L' hL hb' => by
      by_cases c : bk n (TL o L') = b
      · obtain ⟨o1, o2, o3⟩ := other L' hL c
        have := w o1
        unfold BtT at this ⊢
        rw [o2, o3, c, ← eb]
        exact this
      · exact best L' hL (by omega)
    have run : ∀ Q, gM_hire_l4 (f + 1) (e : Int) a2 ((bk n (TL o Lb) : Nat) : Int) ((wk s n (TL o Lb) : Nat) : Int) (b : Int) s Q = if ((wk s n (TL o L0) : Nat) : Int) < ((wk s n (TL o Lb) : Nat) : Int) then gM_hire_l4 f (e : Int) a2 ((bk n (TL o Lb) : Nat) : Int) ((wk s n (TL o Lb) : Nat) : Int) ((b + 1 : Nat) : Int) s Q else if ((wk s n (TL o L0) : Nat) : Int) = ((wk s n (TL o Lb) : Nat) : Int) then (if ((zk n (TL o L0) : Nat) : Int) < ((zk n (TL o Lb) : Nat) : Int) then (if r = 0 then gM_hire_l4 f (e : Int) a2 ((bk n (TL o Lb) : Nat) : Int) ((wk s n (TL o Lb) : Nat) : Int) ((b + 1 : Nat) : Int) s Q else gM_hire_l4 f (e : Int) a2 (b : Int) ((wk s n (TL o L0) : Nat) : Int) ((b + 1 : Nat) : Int) s Q) else gM_hire_l4 f (e : Int) a2 ((bk n (TL o Lb) : Nat) : Int) ((wk s n (TL o Lb) : Nat) : Int) ((b + 1 : Nat) : Int) s Q) else (if r = 0 then gM_hire_l4 f (e : Int) a2 ((bk n (TL o Lb) : Nat) : Int) ((wk s n (TL o Lb) : Nat) : Int) ((b + 1 : Nat) : Int) s Q else gM_hire_l4 f (e : Int) a2 (b : Int) ((wk s n (TL o L0) : Nat) : Int) ((b + 1 : Nat) : Int) s Q) := fun Q => by
      rw [gM_hire_l4, h65, z9, if_pos hb]
      simp only [wo, yjn, yvl, bo1, bo2, ybd_s, yrd_n e60, sv, eb1]
    have bad : ∀ (w : ¬ BtT s n (TL o L0) (TL o Lb) ∨ r = 0), ∃ L, (∀ Q, gM_hire_l4 f (e : Int) a2 ((bk n (TL o Lb) : Nat) : Int) ((wk s n (TL o Lb) : Nat) : Int) ((b + 1 : Nat) : Int) s Q = Q a2 ((bk n (TL o L) : Nat) : Int) ((wk s n (TL o L) : Nat) : Int) s) ∧ OpL s n o 0 (s 64 e) (s 0 1) L := fun w =>
      ih f (b + 1) Lb x1 x2 x3 x4 ok lt' (keep fun hok => w.elim id fun r0 => absurd (r3.mpr hok) (by rw [r0]; decide))
    have good : ∀ (w : BtT s n (TL o L0) (TL o Lb)) (h : ¬ r = 0), ∃ L, (∀ Q, gM_hire_l4 f (e : Int) a2 (b : Int) ((wk s n (TL o L0) : Nat) : Int) ((b + 1 : Nat) : Int) s Q = Q a2 ((bk n (TL o L) : Nat) : Int) ((wk s n (TL o L) : Nat) : Int) s) ∧ OpL s n o 0 (s 64 e) (s 0 1) L := fun w h => by
      have ok0 := r3.mp (r2.resolve_right h)
      obtain ⟨L, i1, i2⟩ := ih f (b + 1) L0 x1 x2 x3 x4 ok0 (by omega) (fun L' hL hb' => by
        by_cases c : bk n (TL o L') = b
        · obtain ⟨o1, o2, o3⟩ := other L' hL c
          unfold BtT
          rw [o2, o3, c, eb]
          unfold Bt
          omega
        · exact BtT.le (best L' hL (by omega)) w)
      rw [eb] at i1
      exact ⟨L, i1, i2⟩
    by_cases c1 : ((wk s n (TL o L0) : Nat) : Int) < ((wk s n (TL o Lb) : Nat) : Int)
    · obtain ⟨L, i1, i2⟩ := bad (Or.inl (by unfold BtT Bt; omega))
      exact ⟨L, fun Q => by rw [run, if_pos c1, i1], i2⟩
    · by_cases c2 : ((wk s n (TL o L0) : Nat) : Int) = ((wk s n (TL o Lb) : Nat) : Int)
      · by_cases c3 : ((zk n (TL o L0) : Nat) : Int) < ((zk n (TL o Lb) : Nat) : Int)
        · by_cases c4 : r = 0
          · obtain ⟨L, i1, i2⟩ := bad (Or.inr c4)
            exact ⟨L, fun Q => by rw [run, if_neg c1, if_pos c2, if_pos c3, if_pos c4, i1], i2⟩
          · obtain ⟨L, i1, i2⟩ := good (by unfold BtT Bt; omega) c4
            exact ⟨L, fun Q => by rw [run, if_neg c1, if_pos c2, if_pos c3, if_neg c4, i1], i2⟩
        · obtain ⟨L, i1, i2⟩ := bad (Or.inl (by unfold BtT Bt; omega))
          exact ⟨L, fun Q => by rw [run, if_neg c1, if_pos c2, if_neg c3, i1], i2⟩
      · by_cases c4 : r = 0
        · obtain ⟨L, i1, i2⟩ := bad (Or.inr c4)
          exact ⟨L, fun Q => by rw [run, if_neg c1, if_neg c2, if_pos c4, i1], i2⟩
        · obtain ⟨L, i1, i2⟩ := good (by unfold BtT Bt; omega) c4
          exact ⟨L, fun Q => by rw [run, if_neg c1, if_neg c2, if_neg c4, i1], i2⟩
end HIRE5
