/-! THE START: the reference -/
section START3
variable {X : Nat} {h : zHp} {r : List (Nat × Nat × Nat × Int)}
theorem z_pair {A : Type} {t n k o : Nat} {K : zHp → Option A} (hX : znx h + 1 = X) (i : numR r = o ∧ tgR r 37 = 12) (ho : 37 < o) (hn : n ≤ 100000) : yna t ((n : Nat) : Int) (zopsR X h r) (fun p s => ypr 11 k (X + 37) p s K) = K (zopsR X h ((2, 37, k, (o : Int)) :: (0, t, n, 0) :: r)) := by
  refine (z_na (o := o) hX i.1 hn).trans ?_
  have e : tgR ((0, t, n, 0) :: r) 37 = 12 := by
    show (if ((0 : Nat) = 0 ∨ (0 : Nat) = 4) ∧ numR r = 37 then t else tgR r 37) = 12
    rw [if_neg (by rw [i.1]; omega)]
    exact i.2
  have e2 : numR ((0, t, n, 0) :: r) = o + 1 := by
    show (if (0 : Nat) = 0 ∨ (0 : Nat) = 4 then numR r + 1 else numR r) = o + 1
    rw [if_pos (Or.inl rfl), i.1]
  exact z_pr (o := 37) (p := o) (c := 11) hX (by rw [e]; rfl) (by rw [e2]; omega)
theorem z_pairI {t n k o o' : Nat} (i : numR r = o ∧ tgR r 37 = 12) (ho : 37 < o) (e : o' = o + 1) : numR ((2, 37, k, (o : Int)) :: (0, t, n, 0) :: r) = o' ∧ tgR ((2, 37, k, (o : Int)) :: (0, t, n, 0) :: r) 37 = 12 := by
  refine ⟨?_, ?_⟩
  · show (if (0 : Nat) = 0 ∨ (0 : Nat) = 4 then numR r + 1 else numR r) = o'
    rw [if_pos (Or.inl rfl), i.1, e]
  · show (if ((0 : Nat) = 0 ∨ (0 : Nat) = 4) ∧ numR r = 37 then t else tgR r 37) = 12
    rw [if_neg (by rw [i.1]; omega)]
    exact i.2
theorem m_l1_ok {R q : Nat} (hR : R ≠ q) : ∀ (m f i : Nat) (H : zHp), 6 - i = m → m < f → i ≤ 6 → zisA 11 (ztg H R) = true → (zct H R 78).toNat = q → ztg H q = 30 → zln H q = 6 → ∀ K, fM_init_l1 f R (i : Int) H K = K R (zfil H q i 6 (-1)) := by
  intro m
  induction m with
  | zero =>
    intro f i H h1 h2 h3 g1 g2 g3 g4 K
    obtain ⟨f, rfl⟩ : ∃ f', f = f' + 1 := ⟨f - 1, by omega⟩
    rw [fM_init_l1, if_neg (by omega), zfil_0 (by omega)]
  | succ m ih =>
    intro f i H h1 h2 h3 g1 g2 g3 g4 K
    obtain ⟨f, rfl⟩ : ∃ f', f = f' + 1 := ⟨f - 1, by omega⟩
    have e1 : zadd (i : Int) 1 = ((i + 1 : Nat) : Int) := by rw [zadd_e (by omega) (by omega)]; omega
    have c : (zct (zwr H q i (-1)) R 78).toNat = q := by rw [zct_wr, if_neg (fun w => hR w.1)]; exact g2
    rw [fM_init_l1, if_pos (by omega)]
    unfold ygr ysi
    rw [if_pos g1, g2]
    dsimp only
    rw [if_pos ⟨g3, by omega, by rw [g4]; omega⟩, Int.toNat_natCast]
    simp only [↓yvl_p, e1]
    rw [ih f (i + 1) (zwr H q i (-1)) (by omega) (by omega) (by omega) g1 c g3 g4 K, zfil_s (by omega)]
theorem z_l1 {p : Nat} (hX : znx h + 1 = X) (hp : p ≠ 37) (h37 : 37 < numR r) (hpn : p < numR r) (ht : tgR r 37 = 12) (hc : cellR r 37 78 = (1, (p : Int))) (ht2 : tgR r p = 30) (hl : lnR r p = 6) : ∀ K, fM_init_l1 zFU (X + 37) 0 (zopsR X h r) K = K (X + 37) (zopsR X h ((3, p, 6, -1) :: r)) := by
  obtain ⟨a1, a2, a3⟩ := (zopsR_ok hX r).2.2 37 h37
  obtain ⟨b1, b2, b3⟩ := (zopsR_ok hX r).2.2 p hpn
  have g2 : (zct (zopsR X h r) (X + 37) 78).toNat = X + p := by
    rw [a3, hc]
    show (((X + ((p : Int)).toNat : Nat) : Int)).toNat = X + p
    rw [Int.toNat_natCast, Int.toNat_natCast]
  exact m_l1_ok (R := X + 37) (q := X + p) (by omega) 6 zFU 0 (zopsR X h r) (by omega) (by rw [zFU_e]; omega) (by omega) (by rw [a1, ht]; rfl) g2 (b1.trans ht2) (b2.trans hl)
theorem m_l3_ok {R q : Nat} (hR : R ≠ q) : ∀ (m f i : Nat) (H : zHp), 12 - i = m → m < f → i ≤ 12 → zisA 11 (ztg H R) = true → (zct H R 9).toNat = q → ztg H q = 30 → zln H q = 12 → ∀ K, fM_init_l3 f R (i : Int) H K = K R (zfil H q i 12 (-1)) := by
  intro m
  induction m with
  | zero =>
    intro f i H h1 h2 h3 g1 g2 g3 g4 K
    obtain ⟨f, rfl⟩ : ∃ f', f = f' + 1 := ⟨f - 1, by omega⟩
    rw [fM_init_l3, if_neg (by omega), zfil_0 (by omega)]
  | succ m ih =>
    intro f i H h1 h2 h3 g1 g2 g3 g4 K
    obtain ⟨f, rfl⟩ : ∃ f', f = f' + 1 := ⟨f - 1, by omega⟩
    have e1 : zadd (i : Int) 1 = ((i + 1 : Nat) : Int) := by rw [zadd_e (by omega) (by omega)]; omega
    have c : (zct (zwr H q i (-1)) R 9).toNat = q := by rw [zct_wr, if_neg (fun w => hR w.1)]; exact g2
    rw [fM_init_l3, if_pos (by omega)]
    unfold ygr ysi
    rw [if_pos g1, g2]
    dsimp only
    rw [if_pos ⟨g3, by omega, by rw [g4]; omega⟩, Int.toNat_natCast]
    simp only [↓yvl_p, e1]
    rw [ih f (i + 1) (zwr H q i (-1)) (by omega) (by omega) (by omega) g1 c g3 g4 K, zfil_s (by omega)]
theorem z_l3 {p : Nat} (hX : znx h + 1 = X) (hp : p ≠ 37) (h37 : 37 < numR r) (hpn : p < numR r) (ht : tgR r 37 = 12) (hc : cellR r 37 9 = (1, (p : Int))) (ht2 : tgR r p = 30) (hl : lnR r p = 12) : ∀ K, fM_init_l3 zFU (X + 37) 0 (zopsR X h r) K = K (X + 37) (zopsR X h ((3, p, 12, -1) :: r)) := by
  obtain ⟨a1, a2, a3⟩ := (zopsR_ok hX r).2.2 37 h37
  obtain ⟨b1, b2, b3⟩ := (zopsR_ok hX r).2.2 p hpn
  have g2 : (zct (zopsR X h r) (X + 37) 9).toNat = X + p := by
    rw [a3, hc]
    show (((X + ((p : Int)).toNat : Nat) : Int)).toNat = X + p
    rw [Int.toNat_natCast, Int.toNat_natCast]
  exact m_l3_ok (R := X + 37) (q := X + p) (by omega) 12 zFU 0 (zopsR X h r) (by omega) (by rw [zFU_e]; omega) (by omega) (by rw [a1, ht]; rfl) g2 (b1.trans ht2) (b2.trans hl)
theorem m_l11_ok {R q : Nat} (hR : R ≠ q) : ∀ (m f i : Nat) (H : zHp), 4800 - i = m → m < f → i ≤ 4800 → zisA 11 (ztg H R) = true → (zct H R 29).toNat = q → ztg H q = 30 → zln H q = 4800 → ∀ K, fM_init_l11 f R (i : Int) H K = K R (zfil H q i 4800 (-1)) := by
  intro m
  induction m with
  | zero =>
    intro f i H h1 h2 h3 g1 g2 g3 g4 K
    obtain ⟨f, rfl⟩ : ∃ f', f = f' + 1 := ⟨f - 1, by omega⟩
    rw [fM_init_l11, if_neg (by omega), zfil_0 (by omega)]
  | succ m ih =>
    intro f i H h1 h2 h3 g1 g2 g3 g4 K
    obtain ⟨f, rfl⟩ : ∃ f', f = f' + 1 := ⟨f - 1, by omega⟩
    have e1 : zadd (i : Int) 1 = ((i + 1 : Nat) : Int) := by rw [zadd_e (by omega) (by omega)]; omega
    have c : (zct (zwr H q i (-1)) R 29).toNat = q := by rw [zct_wr, if_neg (fun w => hR w.1)]; exact g2
    rw [fM_init_l11, if_pos (by omega)]
    unfold ygr ysi
    rw [if_pos g1, g2]
    dsimp only
    rw [if_pos ⟨g3, by omega, by rw [g4]; omega⟩, Int.toNat_natCast]
    simp only [↓yvl_p, e1]
    rw [ih f (i + 1) (zwr H q i (-1)) (by omega) (by omega) (by omega) g1 c g3 g4 K, zfil_s (by omega)]
theorem z_l11 {p : Nat} (hX : znx h + 1 = X) (hp : p ≠ 37) (h37 : 37 < numR r) (hpn : p < numR r) (ht : tgR r 37 = 12) (hc : cellR r 37 29 = (1, (p : Int))) (ht2 : tgR r p = 30) (hl : lnR r p = 4800) : ∀ K, fM_init_l11 zFU (X + 37) 0 (zopsR X h r) K = K (X + 37) (zopsR X h ((3, p, 4800, -1) :: r)) := by
  obtain ⟨a1, a2, a3⟩ := (zopsR_ok hX r).2.2 37 h37
  obtain ⟨b1, b2, b3⟩ := (zopsR_ok hX r).2.2 p hpn
  have g2 : (zct (zopsR X h r) (X + 37) 29).toNat = X + p := by
    rw [a3, hc]
    show (((X + ((p : Int)).toNat : Nat) : Int)).toNat = X + p
    rw [Int.toNat_natCast, Int.toNat_natCast]
  exact m_l11_ok (R := X + 37) (q := X + p) (by omega) 4800 zFU 0 (zopsR X h r) (by omega) (by rw [zFU_e]; omega) (by omega) (by rw [a1, ht]; rfl) g2 (b1.trans ht2) (b2.trans hl)
theorem m_l13_ok {R q : Nat} (hR : R ≠ q) : ∀ (m f i : Nat) (H : zHp), 240 - i = m → m < f → i ≤ 240 → zisA 11 (ztg H R) = true → (zct H R 75).toNat = q → ztg H q = 30 → zln H q = 240 → ∀ K, fM_init_l13 f R (i : Int) H K = K R (zfil H q i 240 (-1)) := by
  intro m
  induction m with
  | zero =>
    intro f i H h1 h2 h3 g1 g2 g3 g4 K
    obtain ⟨f, rfl⟩ : ∃ f', f = f' + 1 := ⟨f - 1, by omega⟩
    rw [fM_init_l13, if_neg (by omega), zfil_0 (by omega)]
  | succ m ih =>
    intro f i H h1 h2 h3 g1 g2 g3 g4 K
    obtain ⟨f, rfl⟩ : ∃ f', f = f' + 1 := ⟨f - 1, by omega⟩
    have e1 : zadd (i : Int) 1 = ((i + 1 : Nat) : Int) := by rw [zadd_e (by omega) (by omega)]; omega
    have c : (zct (zwr H q i (-1)) R 75).toNat = q := by rw [zct_wr, if_neg (fun w => hR w.1)]; exact g2
    rw [fM_init_l13, if_pos (by omega)]
    unfold ygr ysi
    rw [if_pos g1, g2]
    dsimp only
    rw [if_pos ⟨g3, by omega, by rw [g4]; omega⟩, Int.toNat_natCast]
    simp only [↓yvl_p, e1]
    rw [ih f (i + 1) (zwr H q i (-1)) (by omega) (by omega) (by omega) g1 c g3 g4 K, zfil_s (by omega)]
theorem z_l13 {p : Nat} (hX : znx h + 1 = X) (hp : p ≠ 37) (h37 : 37 < numR r) (hpn : p < numR r) (ht : tgR r 37 = 12) (hc : cellR r 37 75 = (1, (p : Int))) (ht2 : tgR r p = 30) (hl : lnR r p = 240) : ∀ K, fM_init_l13 zFU (X + 37) 0 (zopsR X h r) K = K (X + 37) (zopsR X h ((3, p, 240, -1) :: r)) := by
  obtain ⟨a1, a2, a3⟩ := (zopsR_ok hX r).2.2 37 h37
  obtain ⟨b1, b2, b3⟩ := (zopsR_ok hX r).2.2 p hpn
  have g2 : (zct (zopsR X h r) (X + 37) 75).toNat = X + p := by
    rw [a3, hc]
    show (((X + ((p : Int)).toNat : Nat) : Int)).toNat = X + p
    rw [Int.toNat_natCast, Int.toNat_natCast]
  exact m_l13_ok (R := X + 37) (q := X + p) (by omega) 240 zFU 0 (zopsR X h r) (by omega) (by rw [zFU_e]; omega) (by omega) (by rw [a1, ht]; rfl) g2 (b1.trans ht2) (b2.trans hl)
/-- the ways, row by row -/
def wl : Nat → List (Nat × Nat × Nat × Int) → List (Nat × Nat × Nat × Int)
  | 0, r => r
  | m + 1, r => (1, 87, m, if m / 6 = m % 6 then 0 else 1) :: wl m r
theorem wl_ok : ∀ m, numR (wl m r) = numR r ∧ (∀ o, tgR (wl m r) o = tgR r o ∧ lnR (wl m r) o = lnR r o) ∧ ∀ k, cellR (wl m r) 37 k = cellR r 37 k
  | 0 => ⟨rfl, fun _ => ⟨rfl, rfl⟩, fun _ => rfl⟩
  | m + 1 => by
    obtain ⟨a, b, c⟩ := wl_ok m
    exact ⟨a, fun o => ⟨(b o).1, (b o).2⟩, fun k => c k⟩
theorem z_l6 (hX : znx h + 1 = X) (h37 : 37 < numR r) (hp : 87 < numR r) (ht : tgR r 37 = 12) (hc : cellR r 37 63 = (1, 87)) (ht2 : tgR r 87 = 30) (hl : lnR r 87 = 36) {a : Nat} (ha : a < 6) : ∀ (d b f : Nat), 6 - b = d → d < f → b ≤ 6 → ∀ K, fM_init_l6 f (X + 37) (a : Int) (b : Int) (zopsR X h (wl (6 * a + b) r)) K = K (X + 37) (a : Int) (zopsR X h (wl (6 * a + 6) r)) := by
  intro d
  induction d with
  | zero =>
    intro b f h1 h2 h3 K
    obtain ⟨f, rfl⟩ : ∃ f', f = f' + 1 := ⟨f - 1, by omega⟩
    obtain rfl : b = 6 := by omega
    rw [fM_init_l6]
    simp only [↓yjn_p]
    rw [if_neg (by decide)]
  | succ d ih =>
    intro b f h1 h2 h3 K
    obtain ⟨f, rfl⟩ : ∃ f', f = f' + 1 := ⟨f - 1, by omega⟩
    obtain ⟨k1, k2, k3⟩ := wl_ok (r := r) (6 * a + b)
    have e : zadd (zmul 6 (a : Int)) (b : Int) = ((6 * a + b : Nat) : Int) := by rw [zmul_e (by omega) (by omega), zadd_e (by omega) (by omega)]; omega
    have e1 : zadd (b : Int) 1 = ((b + 1 : Nat) : Int) := by rw [zadd_e (by omega) (by omega)]; omega
    have lt : ((b : Int) < 6) = True := eq_true (by omega)
    have ih' := ih (b + 1) f (by omega) (by omega) (by omega) K
    have gr : ∀ {A : Type} (Q : Nat → Option A), ygr 11 63 (X + 37) (zopsR X h (wl (6 * a + b) r)) Q = Q (X + 87) := fun Q => z_gr (o := 37) (p := 87) hX (by rw [(k2 37).1, ht]; rfl) (by rw [k1]; exact h37) ((k3 63).trans hc)
    have si : ∀ {A : Type} (v : Int) (Q : zHp → Option A), ysi (X + 87) ((6 * a + b : Nat) : Int) v (zopsR X h (wl (6 * a + b) r)) Q = Q (zopsR X h ((1, 87, 6 * a + b, v) :: wl (6 * a + b) r)) := fun v Q => z_si (o := 87) (j := 6 * a + b) hX ((k2 87).1.trans ht2) (by rw [(k2 87).2, hl]; omega) (by rw [k1]; exact hp)
    have es : zopsR X h (wl (6 * a + (b + 1)) r) = zopsR X h ((1, 87, 6 * a + b, if a = b then 0 else 1) :: wl (6 * a + b) r) := by
      show zopsR X h ((1, 87, 6 * a + b, if (6 * a + b) / 6 = (6 * a + b) % 6 then 0 else 1) :: wl (6 * a + b) r) = _
      rw [show (6 * a + b) / 6 = a by omega, show (6 * a + b) % 6 = b by omega]
    rw [es] at ih'
    rw [fM_init_l6]
    generalize fM_init_l6 f = Lk at *
    simp only [↓yjn_p, ↓yvl_p, lt, if_true, gr, e, e1]
    by_cases g : a = b
    · rw [if_pos g] at ih'
      rw [if_pos (by omega), si]
      exact ih'
    · rw [if_neg g] at ih'
      rw [if_neg (by omega), si]
      exact ih'
theorem z_l5 (hX : znx h + 1 = X) (h37 : 37 < numR r) (hp : 87 < numR r) (ht : tgR r 37 = 12) (hc : cellR r 37 63 = (1, 87)) (ht2 : tgR r 87 = 30) (hl : lnR r 87 = 36) : ∀ (d a f : Nat), 6 - a = d → d < f → a ≤ 6 → ∀ K, fM_init_l5 f (X + 37) (a : Int) (zopsR X h (wl (6 * a) r)) K = K (X + 37) (zopsR X h (wl 36 r)) := by
  intro d
  induction d with
  | zero =>
    intro a f h1 h2 h3 K
    obtain ⟨f, rfl⟩ : ∃ f', f = f' + 1 := ⟨f - 1, by omega⟩
    obtain rfl : a = 6 := by omega
    rw [fM_init_l5, if_neg (by decide)]
  | succ d ih =>
    intro a f h1 h2 h3 K
    obtain ⟨f, rfl⟩ : ∃ f', f = f' + 1 := ⟨f - 1, by omega⟩
    have e1 : zadd (a : Int) 1 = ((a + 1 : Nat) : Int) := by rw [zadd_e (by omega) (by omega)]; omega
    have l6 := z_l6 hX h37 hp ht hc ht2 hl (a := a) (by omega) 6 0 zFU (by omega) (by rw [zFU_e]; omega) (by omega)
    rw [fM_init_l5, if_pos (by omega)]
    refine (l6 _).trans ?_
    show fM_init_l5 f (X + 37) (zadd (a : Int) 1) (zopsR X h (wl (6 * a + 6) r)) K = _
    rw [e1]
    exact ih (a + 1) f (by omega) (by omega) (by omega) K
def oR : List (Nat × Nat × Nat × Int) := (2, 37, 81, 99) :: (0, 30, 60, 0) :: (2, 37, 80, 98) :: (0, 30, 360, 0) :: (2, 37, 79, 97) :: (0, 30, 6, 0) :: (2, 37, 78, 96) :: (0, 30, 6, 0) :: (2, 37, 77, 95) :: (0, 30, 20, 0) :: (2, 37, 75, 94) :: (0, 30, 240, 0) :: (2, 37, 71, 93) :: (0, 30, 10, 0) :: (2, 37, 69, 92) :: (0, 30, 9, 0) :: (2, 37, 68, 91) :: (0, 30, 9, 0) :: (2, 37, 67, 90) :: (0, 30, 9, 0) :: (2, 37, 66, 89) :: (0, 30, 9, 0) :: (2, 37, 64, 88) :: (0, 30, 60, 0) :: (2, 37, 63, 87) :: (0, 30, 36, 0) :: (2, 37, 62, 86) :: (0, 31, 130, 0) :: (2, 37, 56, 85) :: (0, 30, 1820, 0) :: (2, 37, 55, 84) :: (0, 30, 1820, 0) :: (2, 37, 54, 83) :: (0, 30, 104, 0) :: (2, 37, 53, 82) :: (0, 30, 104, 0) :: (2, 37, 52, 81) :: (0, 30, 104, 0) :: (2, 37, 51, 80) :: (0, 30, 104, 0) :: (2, 37, 50, 79) :: (0, 30, 104, 0) :: (2, 37, 49, 78) :: (0, 30, 13, 0) :: (2, 37, 48, 77) :: (0, 30, 13, 0) :: (2, 37, 47, 76) :: (0, 30, 13, 0) :: (2, 37, 46, 75) :: (0, 30, 13, 0) :: (2, 37, 45, 74) :: (0, 30, 13, 0) :: (2, 37, 42, 73) :: (0, 32, 120, 0) :: (2, 37, 41, 72) :: (0, 30, 84, 0) :: (2, 37, 40, 71) :: (0, 30, 84, 0) :: (2, 37, 39, 70) :: (0, 31, 20, 0) :: (2, 37, 38, 69) :: (0, 31, 20, 0) :: (2, 37, 37, 68) :: (0, 30, 20, 0) :: (2, 37, 36, 67) :: (0, 31, 60, 0) :: (2, 37, 35, 66) :: (0, 30, 441, 0) :: (2, 37, 34, 65) :: (0, 30, 20, 0) :: (2, 37, 33, 64) :: (0, 30, 20, 0) :: (2, 37, 32, 63) :: (0, 30, 60, 0) :: (2, 37, 31, 62) :: (0, 30, 60, 0) :: (2, 37, 30, 61) :: (0, 30, 60, 0) :: (2, 37, 29, 60) :: (0, 30, 4800, 0) :: (2, 37, 28, 59) :: (0, 30, 38400, 0) :: (2, 37, 27, 58) :: (0, 30, 38400, 0) :: (2, 37, 26, 57) :: (0, 30, 38400, 0) :: (2, 37, 25, 56) :: (0, 30, 12, 0) :: (2, 37, 23, 55) :: (0, 30, 480, 0) :: (2, 37, 22, 54) :: (0, 30, 3840, 0) :: (2, 37, 21, 53) :: (0, 30, 3840, 0) :: (2, 37, 20, 52) :: (0, 30, 3840, 0) :: (2, 37, 19, 51) :: (0, 30, 8, 0) :: (2, 37, 18, 50) :: (0, 30, 8, 0) :: (2, 37, 17, 49) :: (0, 30, 8, 0) :: (2, 37, 14, 48) :: (0, 30, 240, 0) :: (2, 37, 13, 47) :: (0, 30, 4800, 0) :: (2, 37, 12, 46) :: (0, 30, 38400, 0) :: (2, 37, 11, 45) :: (0, 30, 38400, 0) :: (2, 37, 10, 44) :: (0, 30, 38400, 0) :: (2, 37, 9, 43) :: (0, 30, 12, 0) :: (2, 37, 7, 42) :: (0, 30, 60, 0) :: (2, 37, 6, 41) :: (0, 30, 60, 0) :: (2, 37, 5, 40) :: (0, 30, 60, 0) :: (2, 37, 4, 39) :: (0, 30, 60, 0) :: (2, 37, 3, 38) :: (0, 30, 60, 0) :: (0, 12, 82, 0) :: oLH
def oL : List (Nat × Nat × Nat × Int) := (1, 37, 74, 9999) :: (1, 37, 15, -1) :: (3, 94, 240, -1) :: (3, 60, 4800, -1) :: wl 36 ((3, 43, 12, -1) :: (3, 96, 6, -1) :: oR)
set_option maxRecDepth 100000 in
theorem st_M (hX : znx h + 1 = X) : fM_init (X + 37) (zopsR X h ((0, 12, 82, 0) :: oLH)) = some ((), zopsR X h oL) := by
  unfold fM_init
  refine (z_n0 (o := 37) hX).trans ?_
  have i38 : numR ((0, 12, 82, 0) :: oLH) = 38 ∧ tgR ((0, 12, 82, 0) :: oLH) 37 = 12 := by decide +kernel
  refine (z_pair (o := 38) (n := 60) (k := 3) hX i38 (by decide) (by decide)).trans ?_
  have i39 := z_pairI (t := 30) (n := 60) (k := 3) (o := 38) (o' := 39) i38 (by decide) rfl
  refine (z_pair (o := 39) (n := 60) (k := 4) hX i39 (by decide) (by decide)).trans ?_
  have i40 := z_pairI (t := 30) (n := 60) (k := 4) (o := 39) (o' := 40) i39 (by decide) rfl
  refine (z_pair (o := 40) (n := 60) (k := 5) hX i40 (by decide) (by decide)).trans ?_
  have i41 := z_pairI (t := 30) (n := 60) (k := 5) (o := 40) (o' := 41) i40 (by decide) rfl
  refine (z_pair (o := 41) (n := 60) (k := 6) hX i41 (by decide) (by decide)).trans ?_
  have i42 := z_pairI (t := 30) (n := 60) (k := 6) (o := 41) (o' := 42) i41 (by decide) rfl
  refine (z_pair (o := 42) (n := 60) (k := 7) hX i42 (by decide) (by decide)).trans ?_
  have i43 := z_pairI (t := 30) (n := 60) (k := 7) (o := 42) (o' := 43) i42 (by decide) rfl
  refine (z_pair (o := 43) (n := 12) (k := 9) hX i43 (by decide) (by decide)).trans ?_
  have i44 := z_pairI (t := 30) (n := 12) (k := 9) (o := 43) (o' := 44) i43 (by decide) rfl
  refine (z_pair (o := 44) (n := 38400) (k := 10) hX i44 (by decide) (by decide)).trans ?_
  have i45 := z_pairI (t := 30) (n := 38400) (k := 10) (o := 44) (o' := 45) i44 (by decide) rfl
  refine (z_pair (o := 45) (n := 38400) (k := 11) hX i45 (by decide) (by decide)).trans ?_
  have i46 := z_pairI (t := 30) (n := 38400) (k := 11) (o := 45) (o' := 46) i45 (by decide) rfl
  refine (z_pair (o := 46) (n := 38400) (k := 12) hX i46 (by decide) (by decide)).trans ?_
  have i47 := z_pairI (t := 30) (n := 38400) (k := 12) (o := 46) (o' := 47) i46 (by decide) rfl
  refine (z_pair (o := 47) (n := 4800) (k := 13) hX i47 (by decide) (by decide)).trans ?_
  have i48 := z_pairI (t := 30) (n := 4800) (k := 13) (o := 47) (o' := 48) i47 (by decide) rfl
  refine (z_pair (o := 48) (n := 240) (k := 14) hX i48 (by decide) (by decide)).trans ?_
  have i49 := z_pairI (t := 30) (n := 240) (k := 14) (o := 48) (o' := 49) i48 (by decide) rfl
  refine (z_pair (o := 49) (n := 8) (k := 17) hX i49 (by decide) (by decide)).trans ?_
  have i50 := z_pairI (t := 30) (n := 8) (k := 17) (o := 49) (o' := 50) i49 (by decide) rfl
  refine (z_pair (o := 50) (n := 8) (k := 18) hX i50 (by decide) (by decide)).trans ?_
  have i51 := z_pairI (t := 30) (n := 8) (k := 18) (o := 50) (o' := 51) i50 (by decide) rfl
  refine (z_pair (o := 51) (n := 8) (k := 19) hX i51 (by decide) (by decide)).trans ?_
  have i52 := z_pairI (t := 30) (n := 8) (k := 19) (o := 51) (o' := 52) i51 (by decide) rfl
  refine (z_pair (o := 52) (n := 3840) (k := 20) hX i52 (by decide) (by decide)).trans ?_
  have i53 := z_pairI (t := 30) (n := 3840) (k := 20) (o := 52) (o' := 53) i52 (by decide) rfl
  refine (z_pair (o := 53) (n := 3840) (k := 21) hX i53 (by decide) (by decide)).trans ?_
  have i54 := z_pairI (t := 30) (n := 3840) (k := 21) (o := 53) (o' := 54) i53 (by decide) rfl
  refine (z_pair (o := 54) (n := 3840) (k := 22) hX i54 (by decide) (by decide)).trans ?_
  have i55 := z_pairI (t := 30) (n := 3840) (k := 22) (o := 54) (o' := 55) i54 (by decide) rfl
  refine (z_pair (o := 55) (n := 480) (k := 23) hX i55 (by decide) (by decide)).trans ?_
  have i56 := z_pairI (t := 30) (n := 480) (k := 23) (o := 55) (o' := 56) i55 (by decide) rfl
  refine (z_pair (o := 56) (n := 12) (k := 25) hX i56 (by decide) (by decide)).trans ?_
  have i57 := z_pairI (t := 30) (n := 12) (k := 25) (o := 56) (o' := 57) i56 (by decide) rfl
  refine (z_pair (o := 57) (n := 38400) (k := 26) hX i57 (by decide) (by decide)).trans ?_
  have i58 := z_pairI (t := 30) (n := 38400) (k := 26) (o := 57) (o' := 58) i57 (by decide) rfl
  refine (z_pair (o := 58) (n := 38400) (k := 27) hX i58 (by decide) (by decide)).trans ?_
  have i59 := z_pairI (t := 30) (n := 38400) (k := 27) (o := 58) (o' := 59) i58 (by decide) rfl
  refine (z_pair (o := 59) (n := 38400) (k := 28) hX i59 (by decide) (by decide)).trans ?_
  have i60 := z_pairI (t := 30) (n := 38400) (k := 28) (o := 59) (o' := 60) i59 (by decide) rfl
  refine (z_pair (o := 60) (n := 4800) (k := 29) hX i60 (by decide) (by decide)).trans ?_
  have i61 := z_pairI (t := 30) (n := 4800) (k := 29) (o := 60) (o' := 61) i60 (by decide) rfl
  refine (z_pair (o := 61) (n := 60) (k := 30) hX i61 (by decide) (by decide)).trans ?_
  have i62 := z_pairI (t := 30) (n := 60) (k := 30) (o := 61) (o' := 62) i61 (by decide) rfl
  refine (z_pair (o := 62) (n := 60) (k := 31) hX i62 (by decide) (by decide)).trans ?_
  have i63 := z_pairI (t := 30) (n := 60) (k := 31) (o := 62) (o' := 63) i62 (by decide) rfl
  refine (z_pair (o := 63) (n := 60) (k := 32) hX i63 (by decide) (by decide)).trans ?_
  have i64 := z_pairI (t := 30) (n := 60) (k := 32) (o := 63) (o' := 64) i63 (by decide) rfl
  refine (z_pair (o := 64) (n := 20) (k := 33) hX i64 (by decide) (by decide)).trans ?_
  have i65 := z_pairI (t := 30) (n := 20) (k := 33) (o := 64) (o' := 65) i64 (by decide) rfl
  refine (z_pair (o := 65) (n := 20) (k := 34) hX i65 (by decide) (by decide)).trans ?_
  have i66 := z_pairI (t := 30) (n := 20) (k := 34) (o := 65) (o' := 66) i65 (by decide) rfl
  refine (z_pair (o := 66) (n := 441) (k := 35) hX i66 (by decide) (by decide)).trans ?_
  have i67 := z_pairI (t := 30) (n := 441) (k := 35) (o := 66) (o' := 67) i66 (by decide) rfl
  refine (z_pair (o := 67) (n := 60) (k := 36) hX i67 (by decide) (by decide)).trans ?_
  have i68 := z_pairI (t := 31) (n := 60) (k := 36) (o := 67) (o' := 68) i67 (by decide) rfl
  refine (z_pair (o := 68) (n := 20) (k := 37) hX i68 (by decide) (by decide)).trans ?_
  have i69 := z_pairI (t := 30) (n := 20) (k := 37) (o := 68) (o' := 69) i68 (by decide) rfl
  refine (z_pair (o := 69) (n := 20) (k := 38) hX i69 (by decide) (by decide)).trans ?_
  have i70 := z_pairI (t := 31) (n := 20) (k := 38) (o := 69) (o' := 70) i69 (by decide) rfl
  refine (z_pair (o := 70) (n := 20) (k := 39) hX i70 (by decide) (by decide)).trans ?_
  have i71 := z_pairI (t := 31) (n := 20) (k := 39) (o := 70) (o' := 71) i70 (by decide) rfl
  refine (z_pair (o := 71) (n := 84) (k := 40) hX i71 (by decide) (by decide)).trans ?_
  have i72 := z_pairI (t := 30) (n := 84) (k := 40) (o := 71) (o' := 72) i71 (by decide) rfl
  refine (z_pair (o := 72) (n := 84) (k := 41) hX i72 (by decide) (by decide)).trans ?_
  have i73 := z_pairI (t := 30) (n := 84) (k := 41) (o := 72) (o' := 73) i72 (by decide) rfl
  refine (z_pair (o := 73) (n := 120) (k := 42) hX i73 (by decide) (by decide)).trans ?_
  have i74 := z_pairI (t := 32) (n := 120) (k := 42) (o := 73) (o' := 74) i73 (by decide) rfl
  refine (z_pair (o := 74) (n := 13) (k := 45) hX i74 (by decide) (by decide)).trans ?_
  have i75 := z_pairI (t := 30) (n := 13) (k := 45) (o := 74) (o' := 75) i74 (by decide) rfl
  refine (z_pair (o := 75) (n := 13) (k := 46) hX i75 (by decide) (by decide)).trans ?_
  have i76 := z_pairI (t := 30) (n := 13) (k := 46) (o := 75) (o' := 76) i75 (by decide) rfl
  refine (z_pair (o := 76) (n := 13) (k := 47) hX i76 (by decide) (by decide)).trans ?_
  have i77 := z_pairI (t := 30) (n := 13) (k := 47) (o := 76) (o' := 77) i76 (by decide) rfl
  refine (z_pair (o := 77) (n := 13) (k := 48) hX i77 (by decide) (by decide)).trans ?_
  have i78 := z_pairI (t := 30) (n := 13) (k := 48) (o := 77) (o' := 78) i77 (by decide) rfl
  refine (z_pair (o := 78) (n := 13) (k := 49) hX i78 (by decide) (by decide)).trans ?_
  have i79 := z_pairI (t := 30) (n := 13) (k := 49) (o := 78) (o' := 79) i78 (by decide) rfl
  refine (z_pair (o := 79) (n := 104) (k := 50) hX i79 (by decide) (by decide)).trans ?_
  have i80 := z_pairI (t := 30) (n := 104) (k := 50) (o := 79) (o' := 80) i79 (by decide) rfl
  refine (z_pair (o := 80) (n := 104) (k := 51) hX i80 (by decide) (by decide)).trans ?_
  have i81 := z_pairI (t := 30) (n := 104) (k := 51) (o := 80) (o' := 81) i80 (by decide) rfl
  refine (z_pair (o := 81) (n := 104) (k := 52) hX i81 (by decide) (by decide)).trans ?_
  have i82 := z_pairI (t := 30) (n := 104) (k := 52) (o := 81) (o' := 82) i81 (by decide) rfl
  refine (z_pair (o := 82) (n := 104) (k := 53) hX i82 (by decide) (by decide)).trans ?_
  have i83 := z_pairI (t := 30) (n := 104) (k := 53) (o := 82) (o' := 83) i82 (by decide) rfl
  refine (z_pair (o := 83) (n := 104) (k := 54) hX i83 (by decide) (by decide)).trans ?_
  have i84 := z_pairI (t := 30) (n := 104) (k := 54) (o := 83) (o' := 84) i83 (by decide) rfl
  refine (z_pair (o := 84) (n := 1820) (k := 55) hX i84 (by decide) (by decide)).trans ?_
  have i85 := z_pairI (t := 30) (n := 1820) (k := 55) (o := 84) (o' := 85) i84 (by decide) rfl
  refine (z_pair (o := 85) (n := 1820) (k := 56) hX i85 (by decide) (by decide)).trans ?_
  have i86 := z_pairI (t := 30) (n := 1820) (k := 56) (o := 85) (o' := 86) i85 (by decide) rfl
  refine (z_pair (o := 86) (n := 130) (k := 62) hX i86 (by decide) (by decide)).trans ?_
  have i87 := z_pairI (t := 31) (n := 130) (k := 62) (o := 86) (o' := 87) i86 (by decide) rfl
  refine (z_pair (o := 87) (n := 36) (k := 63) hX i87 (by decide) (by decide)).trans ?_
  have i88 := z_pairI (t := 30) (n := 36) (k := 63) (o := 87) (o' := 88) i87 (by decide) rfl
  refine (z_pair (o := 88) (n := 60) (k := 64) hX i88 (by decide) (by decide)).trans ?_
  have i89 := z_pairI (t := 30) (n := 60) (k := 64) (o := 88) (o' := 89) i88 (by decide) rfl
  refine (z_pair (o := 89) (n := 9) (k := 66) hX i89 (by decide) (by decide)).trans ?_
  have i90 := z_pairI (t := 30) (n := 9) (k := 66) (o := 89) (o' := 90) i89 (by decide) rfl
  refine (z_pair (o := 90) (n := 9) (k := 67) hX i90 (by decide) (by decide)).trans ?_
  have i91 := z_pairI (t := 30) (n := 9) (k := 67) (o := 90) (o' := 91) i90 (by decide) rfl
  refine (z_pair (o := 91) (n := 9) (k := 68) hX i91 (by decide) (by decide)).trans ?_
  have i92 := z_pairI (t := 30) (n := 9) (k := 68) (o := 91) (o' := 92) i91 (by decide) rfl
  refine (z_pair (o := 92) (n := 9) (k := 69) hX i92 (by decide) (by decide)).trans ?_
  have i93 := z_pairI (t := 30) (n := 9) (k := 69) (o := 92) (o' := 93) i92 (by decide) rfl
  refine (z_pair (o := 93) (n := 10) (k := 71) hX i93 (by decide) (by decide)).trans ?_
  have i94 := z_pairI (t := 30) (n := 10) (k := 71) (o := 93) (o' := 94) i93 (by decide) rfl
  refine (z_pair (o := 94) (n := 240) (k := 75) hX i94 (by decide) (by decide)).trans ?_
  have i95 := z_pairI (t := 30) (n := 240) (k := 75) (o := 94) (o' := 95) i94 (by decide) rfl
  refine (z_pair (o := 95) (n := 20) (k := 77) hX i95 (by decide) (by decide)).trans ?_
  have i96 := z_pairI (t := 30) (n := 20) (k := 77) (o := 95) (o' := 96) i95 (by decide) rfl
  refine (z_pair (o := 96) (n := 6) (k := 78) hX i96 (by decide) (by decide)).trans ?_
  have i97 := z_pairI (t := 30) (n := 6) (k := 78) (o := 96) (o' := 97) i96 (by decide) rfl
  refine (z_pair (o := 97) (n := 6) (k := 79) hX i97 (by decide) (by decide)).trans ?_
  have i98 := z_pairI (t := 30) (n := 6) (k := 79) (o := 97) (o' := 98) i97 (by decide) rfl
  refine (z_pair (o := 98) (n := 360) (k := 80) hX i98 (by decide) (by decide)).trans ?_
  have i99 := z_pairI (t := 30) (n := 360) (k := 80) (o := 98) (o' := 99) i98 (by decide) rfl
  refine (z_pair (o := 99) (n := 60) (k := 81) hX i99 (by decide) (by decide)).trans ?_
  have i100 := z_pairI (t := 30) (n := 60) (k := 81) (o := 99) (o' := 100) i99 (by decide) rfl
  show fM_init_l1 zFU (X + 37) 0 (zopsR X h oR) _ = _
  refine (z_l1 (p := 96) hX (by decide +kernel) (by decide +kernel) (by decide +kernel) (by decide +kernel) (by decide +kernel) (by decide +kernel) (by decide +kernel) _).trans ?_
  refine (z_l3 (p := 43) (r := ((3, 96, 6, -1) :: oR)) hX (by decide +kernel) (by decide +kernel) (by decide +kernel) (by decide +kernel) (by decide +kernel) (by decide +kernel) (by decide +kernel) _).trans ?_
  refine (z_l5 (r := ((3, 43, 12, -1) :: (3, 96, 6, -1) :: oR)) hX (by decide +kernel) (by decide +kernel) (by decide +kernel) (by decide +kernel) (by decide +kernel) (by decide +kernel) 6 0 zFU (by omega) (by rw [zFU_e]; omega) (by omega) _).trans ?_
  refine (z_l11 (p := 60) (r := (wl 36 ((3, 43, 12, -1) :: (3, 96, 6, -1) :: oR))) hX (by decide +kernel) (by decide +kernel) (by decide +kernel) (by decide +kernel) (by decide +kernel) (by decide +kernel) (by decide +kernel) _).trans ?_
  refine (z_l13 (p := 94) (r := ((3, 60, 4800, -1) :: (wl 36 ((3, 43, 12, -1) :: (3, 96, 6, -1) :: oR)))) hX (by decide +kernel) (by decide +kernel) (by decide +kernel) (by decide +kernel) (by decide +kernel) (by decide +kernel) (by decide +kernel) _).trans ?_
  refine (z_pi (o := 37) (k := 15) (r := ((3, 94, 240, -1) :: (3, 60, 4800, -1) :: (wl 36 ((3, 43, 12, -1) :: (3, 96, 6, -1) :: oR)))) hX (by decide +kernel) (by decide +kernel)).trans ?_
  refine (z_pi (o := 37) (k := 74) (r := (1, 37, 15, -1) :: ((3, 94, 240, -1) :: (3, 60, 4800, -1) :: (wl 36 ((3, 43, 12, -1) :: (3, 96, 6, -1) :: oR)))) hX (by decide +kernel) (by decide +kernel)).trans ?_
  rfl
end START3
