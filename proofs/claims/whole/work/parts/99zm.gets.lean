/-! paid: the reference adds up a contract's clauses -/
/-- the sums of the first clauses -/
def sS (s : zSg) (c : Nat) (d y z pa ac : Int) (k : Nat) : Int × Bool := sumC (s 50) (s 51) (s 52) (hC (s 53) (s 54) (s 55) (s 56) d y z c) pa ac c k
section GETS2
variable {d y z pa ac sum lim : Int} {c n : Nat} {f : Nat → Int} {s0 : zSg}
theorem sS_s {k : Nat} : sS s0 c d y z pa ac (k + 1) = if s0 50 (8 * c + k) = pa ∧ s0 51 (8 * c + k) = ac ∧ hC (s0 53) (s0 54) (s0 55) (s0 56) d y z c k = true then ((sS s0 c d y z pa ac k).1 + s0 52 (8 * c + k), true) else sS s0 c d y z pa ac k := rfl
theorem m_gets_step {s : zSg} {i g : Nat} {tot v52 : Int} {any : Bool} {N : Nat} (c12 : c < 13) (row : 8 * c + i < 104) (hN : s0 49 c = (N : Int)) (hi : (i : Int) < (N : Int)) (r : R62 s0 s) (er : zadd (zmul 8 (c : Int)) (i : Int) = ((8 * c + i : Nat) : Int)) (ei : zadd (i : Int) 1 = ((i + 1 : Nat) : Int)) (hv : s0 52 (8 * c + i) = v52) (et : zadd tot v52 = tot + v52) {s' : zSg} {h : Bool} (hh : gM_holdsFor ((8 * c + i : Nat) : Int) d y z s = some (bi h, s')) (r' : R62 s s') :
    ∃ s2, (∀ K, gM_gets_l1 (g + 1) (c : Int) pa ac d y z sum lim tot (bi any) (i : Int) s K = gM_gets_l1 g (c : Int) pa ac d y z sum lim (if s0 50 (8 * c + i) = pa ∧ s0 51 (8 * c + i) = ac ∧ h = true then tot + v52 else tot) (bi (if s0 50 (8 * c + i) = pa ∧ s0 51 (8 * c + i) = ac ∧ h = true then true else any)) ((i + 1 : Nat) : Int) s2 K) ∧ R62 s0 s2 := by
  have q49 : s 49 c = (N : Int) := (r 49 c (by decide)).trans hN
  have q50 : s 50 (8 * c + i) = s0 50 (8 * c + i) := r 50 _ (by decide)
  have q51 : s 51 (8 * c + i) = s0 51 (8 * c + i) := r 51 _ (by decide)
  have q52 : s' 52 (8 * c + i) = v52 := (r' 52 _ (by decide)).trans ((r 52 _ (by decide)).trans hv)
  have c0 : ¬ (c : Int) < 0 := by omega
  have n10 : ¬ (1 : Int) = 0 := by decide
  by_cases g1 : s0 50 (8 * c + i) = pa
  · by_cases g2 : s0 51 (8 * c + i) = ac
    · cases h
      · refine ⟨s', fun K => ?_, r.tr r'⟩
        rw [if_neg (fun w => Bool.noConfusion w.2.2), if_neg (fun w => Bool.noConfusion w.2.2), gM_gets_l1]
        generalize gM_gets_l1 g = L
        simp only [↓yjn_p, ↓yvl_p, c0, if_false, yrd_n c12, q49, hi, if_true, er, yrd_n row, q50, g1, q51, g2, hh, ybd_s, bi_f, ei]
      · refine ⟨s', fun K => ?_, r.tr r'⟩
        rw [if_pos ⟨g1, g2, rfl⟩, if_pos ⟨g1, g2, rfl⟩, gM_gets_l1]
        generalize gM_gets_l1 g = L
        simp only [↓yjn_p, ↓yvl_p, c0, if_false, yrd_n c12, q49, hi, if_true, er, yrd_n row, q50, g1, q51, g2, hh, ybd_s, bi_t, n10, q52, et, ei]
    · refine ⟨s, fun K => ?_, r⟩
      rw [if_neg (fun w => g2 w.2.1), if_neg (fun w => g2 w.2.1), gM_gets_l1]
      generalize gM_gets_l1 g = L
      simp only [↓yjn_p, ↓yvl_p, c0, if_false, yrd_n c12, q49, hi, if_true, er, yrd_n row, q50, g1, q51, g2, ei]
  · refine ⟨s, fun K => ?_, r⟩
    rw [if_neg (fun w => g1 w.1), if_neg (fun w => g1 w.1), gM_gets_l1]
    generalize gM_gets_l1 g = L
    simp only [↓yjn_p, ↓yvl_p, c0, if_false, yrd_n c12, q49, hi, if_true, er, yrd_n row, q50, g1, ei]
theorem m_gets_l (d01 : d = 0 ∨ d = 1) (c12 : c ≤ 12) (cp : CPar f n s0 c) {N : Nat} (hN : s0 49 c = (N : Int)) : ∀ (m i g : Nat) (s : zSg), N - i = m → m < g → i ≤ N → R62 s0 s → ∃ s', (∀ K, gM_gets_l1 g (c : Int) pa ac d y z sum lim (sS s0 c d y z pa ac i).1 (bi (sS s0 c d y z pa ac i).2) (i : Int) s K = K (c : Int) sum lim (sS s0 c d y z pa ac N).1 (bi (sS s0 c d y z pa ac N).2) s') ∧ R62 s0 s' := by
  intro m
  induction m with
  | zero =>
    intro i g s h1 h2 h3 r
    obtain ⟨g, rfl⟩ : ∃ g', g = g' + 1 := ⟨g - 1, by omega⟩
    obtain rfl : i = N := by omega
    have q49 : s 49 c = (i : Int) := (r 49 c (by decide)).trans hN
    have c0 : ¬ (c : Int) < 0 := by omega
    have cc : c < 13 := by omega
    refine ⟨s, fun K => ?_, r⟩
    rw [gM_gets_l1]
    generalize gM_gets_l1 g = L
    simp only [↓yjn_p, ↓yvl_p, c0, if_false, yrd_n cc, q49, Int.lt_irrefl]
  | succ m ih =>
    intro i g s h1 h2 h3 r
    obtain ⟨g, rfl⟩ : ∃ g', g = g' + 1 := ⟨g - 1, by omega⟩
    obtain ⟨-, ⟨b1, b2⟩, b3, -⟩ := id cp
    have iN : i < N := by omega
    have n8 : N ≤ 8 := by omega
    obtain ⟨⟨v1, v2⟩, a, b, e53, e54, b120, hcv⟩ := b3 i (by omega)
    have sb := sumC_b (r50 := s0 50) (r51 := s0 51) (r52 := s0 52) (h := hC (s0 53) (s0 54) (s0 55) (s0 56) d y z c) (pa := pa) (ac := ac) (c := c) i (fun j hj => (b3 j (by omega)).1)
    have er : zadd (zmul 8 (c : Int)) (i : Int) = ((8 * c + i : Nat) : Int) := by rw [zmul_e (by omega) (by omega), zadd_e (by omega) (by omega)]; omega
    have ei : zadd (i : Int) 1 = ((i + 1 : Nat) : Int) := za_1 (by omega)
    have et : zadd (sS s0 c d y z pa ac i).1 (s0 52 (8 * c + i)) = (sS s0 c d y z pa ac i).1 + s0 52 (8 * c + i) := zadd_e (by unfold sS; omega) (by unfold sS; omega)
    obtain ⟨s1, hh, r1⟩ := m_holds (s := s) (c := c) (i := i) (a := a) (b := b) (d := d) (y := y) (z := z) d01 c12 (by omega) ((r 53 _ (by decide)).trans e53) ((r 54 _ (by decide)).trans e54) b120 (by
      rw [r.row (by decide), r.row (by decide)]
      rcases hcv with w | w
      · exact Or.inl w
      · exact Or.inr (w d y z))
    rw [r.row (by decide), r.row (by decide), r.row (by decide), r.row (by decide)] at hh
    obtain ⟨s2, k1, k2⟩ := m_gets_step (sum := sum) (lim := lim) (any := (sS s0 c d y z pa ac i).2) (g := g) (pa := pa) (ac := ac) (by omega) (by omega) hN (by omega) r er ei rfl et hh r1
    obtain ⟨s', j1, j2⟩ := ih (i + 1) g s2 (by omega) (by omega) iN k2
    refine ⟨s', fun K => ?_, j2⟩
    rw [k1, ← j1 K, sS_s]
    by_cases g3 : s0 50 (8 * c + i) = pa ∧ s0 51 (8 * c + i) = ac ∧ hC (s0 53) (s0 54) (s0 55) (s0 56) d y z c i = true
    · rw [if_pos g3, if_pos g3, if_pos g3]
    · rw [if_neg g3, if_neg g3, if_neg g3]
theorem zl_0 {x : Int} : zl2i (zldiv (zlmul (zi2l x) (zi2l 0)) 1000) = 0 := by
  have e : zlmul (zi2l x) (zi2l 0) = 0 := by
    unfold zlmul
    have : Int64.ofInt (zi2l 0) = 0 := by decide
    rw [this, Int64.mul_zero]
    rfl
  rw [e]
  decide
/-- what a share comes to, before it is cut to the sum that is left -/
def shV (s : zSg) (c : Nat) (d y z pa ac sum : Int) (N : Nat) : Int := if (sS s c d y z pa ac N).2 = true then zmax (zl2i (zldiv (zlmul (zi2l sum) (zi2l (sS s c d y z pa ac N).1)) 1000)) (s 48 c) else 0
theorem m_gets (d01 : d = 0 ∨ d = 1) (c12 : c ≤ 12) (cp : CPar f n s0 c) {N : Nat} (hN : s0 49 c = (N : Int)) : ∃ s', gM_gets (c : Int) pa ac d y z sum lim s0 = some (zmin lim (shV s0 c d y z pa ac sum N), s') ∧ R62 s0 s' := by
  have n8 : N ≤ 8 := by have := cp.2.1; omega
  obtain ⟨s', j1, j2⟩ := m_gets_l (pa := pa) (ac := ac) (sum := sum) (lim := lim) d01 c12 cp hN N 0 zFU s0 (by omega) (by rw [zFU_e]; omega) (Nat.zero_le _) R62.rf
  have j1' : ∀ K, gM_gets_l1 zFU (c : Int) pa ac d y z sum lim 0 0 0 s0 K = K (c : Int) sum lim (sS s0 c d y z pa ac N).1 (bi (sS s0 c d y z pa ac N).2) s' := j1
  refine ⟨s', ?_, j2⟩
  have q48 : s' 48 c = s0 48 c := j2 48 c (by decide)
  have cc : c < 13 := by omega
  have s0' : (sS s0 c d y z pa ac N).2 = false → (sS s0 c d y z pa ac N).1 = 0 := sumC_0 N
  unfold gM_gets
  rw [j1']
  unfold shV
  obtain ⟨w1, w2⟩ := (⟨rfl, rfl⟩ : (sS s0 c d y z pa ac N).1 = (sS s0 c d y z pa ac N).1 ∧ True = True)
  generalize sS s0 c d y z pa ac N = S at *
  obtain ⟨S1, S2⟩ := S
  dsimp only at s0' ⊢
  cases S2
  · rw [s0' rfl]
    simp only [↓yjn_p, ↓yvl_p, bi_f, if_true, zl_0]
    rw [if_neg (show ¬ (false = true) by decide)]
    unfold zmin
    by_cases g : (0 : Int) < lim
    · rw [if_pos g, if_pos g]
    · rw [if_neg g, if_neg g]
  · simp only [↓yjn_p, ↓yvl_p, bi_t, show ¬ (1 : Int) = 0 by decide, if_false, yrd_n cc, q48, if_true]
    generalize zl2i (zldiv (zlmul (zi2l sum) (zi2l S1)) 1000) = T
    unfold zmin zmax
    by_cases g : T < s0 48 c
    · rw [if_pos g, if_pos g]
      by_cases g2 : s0 48 c < lim
      · rw [if_pos g2, if_pos g2]
      · rw [if_neg g2, if_neg g2]
    · rw [if_neg g, if_neg g]
      by_cases g2 : T < lim
      · rw [if_pos g2, if_pos g2]
      · rw [if_neg g2, if_neg g2]
theorem m_gets0 {s : zSg} {x : Int} (h : x < 0) (hl : 0 ≤ lim) : gM_gets x pa ac d y z sum lim s = some (0, s) := by
  unfold gM_gets
  rw [show zFU = 999999 + 1 from rfl, gM_gets_l1]
  generalize gM_gets_l1 999999 = L
  simp only [↓yjn_p, ↓yvl_p, h, if_true, zl_0]
  by_cases g : (0 : Int) < lim
  · rw [if_pos g]
  · rw [if_neg g, show lim = 0 by omega]
end GETS2
