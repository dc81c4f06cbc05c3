/-! BITS of small sets; bars that are the same -/
theorem zn_b {x : Nat} (h : x < 2147483648) : (Int32.ofNat x).toInt = (x : Int) := by
  rw [← Int32.ofInt_eq_ofNat]
  exact zof ⟨by omega, by omega⟩
theorem zand_n {x y : Nat} (h : x < 2147483648) : zand (x : Int) (y : Int) = ((x &&& y : Nat) : Int) := by
  have e : Int32.ofNat x &&& Int32.ofNat y = Int32.ofNat (x &&& y) := Int32.toBitVec.inj (by
    show BitVec.ofNat 32 x &&& BitVec.ofNat 32 y = BitVec.ofNat 32 (x &&& y)
    rw [BitVec.ofNat_and])
  have h2 : x &&& y ≤ x := Nat.and_le_left
  unfold zand
  rw [Int32.ofInt_eq_ofNat, Int32.ofInt_eq_ofNat, e]
  exact zn_b (by omega)
theorem zor_n {x y k : Nat} (hk : k ≤ 31) (hx : x < 2 ^ k) (hy : y < 2 ^ k) : zor (x : Int) (y : Int) = ((x ||| y : Nat) : Int) := by
  have e : Int32.ofNat x ||| Int32.ofNat y = Int32.ofNat (x ||| y) := Int32.toBitVec.inj (by
    show BitVec.ofNat 32 x ||| BitVec.ofNat 32 y = BitVec.ofNat 32 (x ||| y)
    rw [BitVec.ofNat_or])
  have h2 : x ||| y < 2 ^ k := Nat.or_lt_two_pow hx hy
  have h3 : 2 ^ k ≤ 2 ^ 31 := Nat.pow_le_pow_right (by omega) hk
  have h4 : (2 : Nat) ^ 31 = 2147483648 := rfl
  unfold zor
  rw [Int32.ofInt_eq_ofNat, Int32.ofInt_eq_ofNat, e]
  exact zn_b (by omega)
/-- ones among the first k bits -/
def pop : Nat → Nat → Nat
  | 0, _ => 0
  | k + 1, z => pop k z + (z.testBit k).toNat
theorem pop_or {x y : Nat} : ∀ k, pop k (x ||| y) + pop k (x &&& y) = pop k x + pop k y
  | 0 => rfl
  | k + 1 => by
    have := pop_or (x := x) (y := y) k
    show pop k (x ||| y) + ((x ||| y).testBit k).toNat + (pop k (x &&& y) + ((x &&& y).testBit k).toNat) = pop k x + (x.testBit k).toNat + (pop k y + (y.testBit k).toNat)
    rw [Nat.testBit_or, Nat.testBit_and]
    cases x.testBit k <;> cases y.testBit k <;> simp <;> omega
theorem pop_and {x y : Nat} : ∀ k, pop k (x &&& y) ≤ pop k x ∧ pop k (x &&& y) ≤ pop k y
  | 0 => ⟨Nat.le_refl _, Nat.le_refl _⟩
  | k + 1 => by
    have := pop_and (x := x) (y := y) k
    show pop k (x &&& y) + ((x &&& y).testBit k).toNat ≤ pop k x + (x.testBit k).toNat ∧ pop k (x &&& y) + ((x &&& y).testBit k).toNat ≤ pop k y + (y.testBit k).toNat
    rw [Nat.testBit_and]
    cases x.testBit k <;> cases y.testBit k <;> simp <;> omega
theorem pop_le {z : Nat} : ∀ k, pop k z ≤ k
  | 0 => Nat.le_refl _
  | k + 1 => by
    have := pop_le (z := z) k
    show pop k z + (z.testBit k).toNat ≤ k + 1
    cases z.testBit k <;> simp <;> omega
def bcv (z : Int) : Int :=
  let v1 := zsub z (zand (zushr z 1) 1431655765)
  let v2 := zadd (zand v1 858993459) (zand (zushr v1 2) 858993459)
  let v3 := zand (zadd v2 (zushr v2 4)) 252645135
  let v4 := zadd v3 (zushr v3 8)
  let v5 := zadd v4 (zushr v4 16)
  zand v5 63
theorem bc_256 : ∀ z : Fin 256, bcv ((z.val : Nat) : Int) = ((pop 10 z.val : Nat) : Int) := by decide +kernel
theorem e_bitCount {z : Nat} (h : z < 256) {H : zHp} : fJInteger_bitCount (z : Int) H = some (((pop 10 z : Nat) : Int), H) := by
  have e : fJInteger_bitCount (z : Int) H = some (bcv (z : Int), H) := rfl
  rw [e, bc_256 ⟨z, h⟩]
theorem pop_step : ∀ z : Fin 1024, z.val ≠ 0 → z.val &&& (z.val - 1) < z.val ∧ pop 10 z.val = pop 10 (z.val &&& (z.val - 1)) + 1 := by decide +kernel
theorem m_bits_l {s : zSg} : ∀ (n z f c : Nat), z ≤ n → z < 1024 → n < f → c + n ≤ 100000 → gM_bitsOf_l1 f (c : Int) (z : Int) s = some (((c + pop 10 z : Nat) : Int), s) := by
  have p0 : pop 10 0 = 0 := by decide
  intro n
  induction n with
  | zero =>
    intro z f c h1 h2 h3 h4
    obtain ⟨f, rfl⟩ : ∃ f', f = f' + 1 := ⟨f - 1, by omega⟩
    obtain rfl : z = 0 := by omega
    rw [gM_bitsOf_l1, if_pos (show ((0 : Nat) : Int) = 0 from rfl), p0]
    rfl
  | succ n ih =>
    intro z f c h1 h2 h3 h4
    obtain ⟨f, rfl⟩ : ∃ f', f = f' + 1 := ⟨f - 1, by omega⟩
    rw [gM_bitsOf_l1]
    by_cases h : z = 0
    · subst h
      rw [if_pos (show ((0 : Nat) : Int) = 0 from rfl), p0]
      rfl
    · obtain ⟨q1, q2⟩ := pop_step ⟨z, h2⟩ h
      dsimp only at q1 q2
      have e : zadd (c : Int) 1 = ((c + 1 : Nat) : Int) := by rw [zadd_e (by omega) (by omega)]; omega
      have e2 : zsub (z : Int) 1 = ((z - 1 : Nat) : Int) := by rw [zsub_e (by omega) (by omega)]; omega
      simp only [yvl, e, e2, zand_n (show z < 2147483648 by omega)]
      rw [if_neg (by omega), ih _ f (c + 1) (by omega) (by omega) (by omega) (by omega), q2]
      congr 2
      omega
theorem m_bitsOf {z : Nat} (h : z < 1024) {s : zSg} : gM_bitsOf (z : Int) s = some (((pop 10 z : Nat) : Int), s) := by
  have := m_bits_l (s := s) 1024 z zFU 0 (by omega) h (by rw [zFU_e]; omega) (by omega)
  rw [Nat.zero_add] at this
  exact this
def nt4 (x y : Int) : Int := zadd y (zushr x 1)
def nt3 (x y : Int) : Int := if 4 < x then nt4 (zushr x 2) (zadd y 2) else nt4 x y
def nt2 (x y : Int) : Int := if 16 < x then nt3 (zushr x 4) (zadd y 4) else nt3 x y
def nt1 (x y : Int) : Int := if 256 < x then nt2 (zushr x 8) (zadd y 8) else nt2 x y
def nt0 (v : Int) : Int := if 0 < v then (if 65536 < v then nt1 (zushr v 16) (zadd 1 16) else nt1 v 1) else zand v 32
def ntv (z : Int) : Int := nt0 (zand (zxor z (-1)) (zsub z 1))
theorem some_ite {c : Prop} [Decidable c] {a b : Int} {H : zHp} : some (if c then a else b, H) = if c then some (a, H) else some (b, H) := by
  by_cases h : c
  · rw [if_pos h, if_pos h]
  · rw [if_neg h, if_neg h]
theorem e_ntz {z : Int} {H : zHp} : fJInteger_numberOfTrailingZeros z H = some (ntv z, H) := by
  unfold fJInteger_numberOfTrailingZeros
  simp only [yvl, yjn, ntv, nt0, nt1, nt2, nt3, nt4, some_ite]
theorem nt_256 : ∀ z : Fin 256, z.val ≠ 0 → 0 ≤ ntv ((z.val : Nat) : Int) ∧ ntv ((z.val : Nat) : Int) < 8 ∧ zand (zshr ((z.val : Nat) : Int) (ntv ((z.val : Nat) : Int))) 1 ≠ 0 ∧ ∀ k : Fin 8, ((k.val : Nat) : Int) < ntv ((z.val : Nat) : Int) → zand (zshr ((z.val : Nat) : Int) ((k.val : Nat) : Int)) 1 = 0 := by decide +kernel
theorem m_tz_l {t z : Nat} (hz : z < 256) (h0 : z ≠ 0) {s : zSg} {Q : Int → Int → zSg → Option (Int × zSg)} : ∀ (n f k : Nat), (ntv (z : Int)).toNat - k = n → n < f → k ≤ (ntv (z : Int)).toNat → gM_differs_l6 f (t : Int) (z : Int) (k : Int) s Q = Q (t : Int) (ntv (z : Int)) s := by
  obtain ⟨q1, q2, q3, q4⟩ := nt_256 ⟨z, hz⟩ h0
  dsimp only at q1 q2 q3 q4
  intro n
  induction n with
  | zero =>
    intro f k h1 h2 h3
    obtain ⟨f, rfl⟩ : ∃ f', f = f' + 1 := ⟨f - 1, by omega⟩
    have ek : (k : Int) = ntv (z : Int) := by omega
    rw [gM_differs_l6, ek, if_neg q3]
  | succ n ih =>
    intro f k h1 h2 h3
    obtain ⟨f, rfl⟩ : ∃ f', f = f' + 1 := ⟨f - 1, by omega⟩
    have e : zadd (k : Int) 1 = ((k + 1 : Nat) : Int) := by rw [zadd_e (by omega) (by omega)]; omega
    have q := q4 ⟨k, by omega⟩ (by dsimp only; omega)
    dsimp only at q
    rw [gM_differs_l6, if_pos q]
    simp only [yvl, e]
    exact ih f (k + 1) (by omega) (by omega) (by omega)
theorem zor_256 : ∀ k : Fin 8, ∀ z : Fin 256, z.val < 2 ^ k.val → zor ((z.val : Nat) : Int) (zshl 1 ((k.val : Nat) : Int)) = ((z.val + 2 ^ k.val : Nat) : Int) ∧ zor ((z.val : Nat) : Int) 0 = ((z.val : Nat) : Int) := by decide +kernel
theorem ncode_inj {p l t p' l' t' lo hi lo' hi' : Int} (h : NR lo hi p l t) (h' : NR lo' hi' p' l' t') (b : -99 ≤ lo) (b2 : hi ≤ 1000) (b' : -99 ≤ lo') (b2' : hi' ≤ 1000) : ncode p l t = ncode p' l' t' ↔ p = p' ∧ l = l' ∧ t = t' := by
  obtain ⟨h1, h2, h3, h4⟩ := h
  obtain ⟨g1, g2, g3, g4⟩ := h'
  unfold ncode
  by_cases e : p = -1000
  · by_cases e' : p' = -1000
    · rw [if_pos e, if_pos e']; omega
    · rw [if_pos e, if_neg e']; omega
  · by_cases e' : p' = -1000
    · rw [if_neg e, if_pos e']; omega
    · rw [if_neg e, if_neg e']; omega
def BarH (H : zHp) (b : Nat) : Prop := ztg H b = 1 ∧ zct H b 0 = ((b + 1 : Nat) : Int) ∧ ztg H (b + 1) = 30 ∧ zln H (b + 1) = 8
theorem BarO.h {X : Nat} {H : zHp} {ow : Nat → Nat × Nat} {b o j : Nat} (h : BarO X H ow b o j) : BarH H b := h.2.2
theorem e_same_l {H : zHp} {b c M : Nat} {P L T P2 L2 T2 : Nat → Int} (hb : BarH H b) (hc : BarH H c) (vb : BarV H b (M : Int) P L T) (vc : BarV H c (M : Int) P2 L2 T2) {lo hi lo' hi' : Int} (d1 : -99 ≤ lo) (d2 : hi ≤ 1000) (d3 : -99 ≤ lo') (d4 : hi' ≤ 1000) (nb : ∀ i, i < M → NR lo hi (P i) (L i) (T i)) (nc : ∀ i, i < M → NR lo' hi' (P2 i) (L2 i) (T2 i)) :
    ∀ (n f i : Nat), M - i = n → n < f → i ≤ M → ∃ r, fBar_sameNotes_l3 f b c 1 (i : Int) H = some (r, H) ∧ (r = 1 ∨ r = 0) ∧ (r = 1 ↔ ∀ j, i ≤ j → j < M → P j = P2 j ∧ L j = L2 j ∧ T j = T2 j) := by
  obtain ⟨b2, b3, b4, b5⟩ := hb
  obtain ⟨c2, c3, c4, c5⟩ := hc
  obtain ⟨v1, -, v3, v4⟩ := vb
  obtain ⟨w1, -, w3, w4⟩ := vc
  intro n
  induction n with
  | zero =>
    intro f i h1 h2 h3
    obtain ⟨f, rfl⟩ : ∃ f', f = f' + 1 := ⟨f - 1, by omega⟩
    refine ⟨1, ?_, Or.inl rfl, fun _ j q1 q2 => by omega, fun _ => rfl⟩
    rw [fBar_sameNotes_l3]
    simp only [yjn, ygi, b2, zA0, if_true, v1]
    rw [if_neg (by omega)]
    rfl
  | succ n ih =>
    intro f i h1 h2 h3
    obtain ⟨f, rfl⟩ : ∃ f', f = f' + 1 := ⟨f - 1, by omega⟩
    have e : zadd (i : Int) 1 = ((i + 1 : Nat) : Int) := by rw [zadd_e (by omega) (by omega)]; omega
    have hi : 0 ≤ (i : Int) ∧ (i : Int) < ((8 : Nat) : Int) := by omega
    have run : fBar_sameNotes_l3 (f + 1) b c 1 (i : Int) H = if ncode (P i) (L i) (T i) = ncode (P2 i) (L2 i) (T2 i) then fBar_sameNotes_l3 f b c 1 ((i + 1 : Nat) : Int) H else fBar_sameNotes_l3 f b c 0 ((i + 1 : Nat) : Int) H := by
      rw [fBar_sameNotes_l3]
      simp only [yjn, yvl, ygi, ygr, yai, b2, c2, zA0, if_true, v1, b3, c3, Int.toNat_natCast, b4, b5, c4, c5, true_or, true_and, hi, and_self, v4 i (by omega), w4 i (by omega), e]
      rw [if_pos (by omega), if_neg (by omega)]
    rw [run]
    have inj := ncode_inj (nb i (by omega)) (nc i (by omega)) d1 d2 d3 d4
    by_cases g : ncode (P i) (L i) (T i) = ncode (P2 i) (L2 i) (T2 i)
    · rw [if_pos g]
      obtain ⟨r, r1, r2, r3⟩ := ih f (i + 1) (by omega) (by omega) (by omega)
      refine ⟨r, r1, r2, r3.trans ⟨fun h j q1 q2 => ?_, fun h j q1 q2 => h j (by omega) q2⟩⟩
      by_cases ej : j = i
      · rw [ej]; exact inj.mp g
      · exact h j (by omega) q2
    · rw [if_neg g]
      refine ⟨0, ?_, Or.inr rfl, fun h => absurd h (by omega), fun h => absurd (inj.mpr (h i (Nat.le_refl _) (by omega))) g⟩
      obtain ⟨f, rfl⟩ : ∃ f', f = f' + 1 := ⟨f - 1, by omega⟩
      rw [fBar_sameNotes_l3]
      simp only [yjn, ygi, b2, zA0, if_true, v1]
      by_cases g2 : ((i + 1 : Nat) : Int) < (M : Int)
      · rw [if_pos g2]; rfl
      · rw [if_neg g2]; rfl
theorem e_same {H : zHp} {b c M M2 : Nat} {P L T P2 L2 T2 : Nat → Int} (hb : BarH H b) (hc : BarH H c) (vb : BarV H b (M : Int) P L T) (vc : BarV H c (M2 : Int) P2 L2 T2) {lo hi lo' hi' : Int} (d1 : -99 ≤ lo) (d2 : hi ≤ 1000) (d3 : -99 ≤ lo') (d4 : hi' ≤ 1000) (nb : ∀ i, i < M → NR lo hi (P i) (L i) (T i)) (nc : ∀ i, i < M2 → NR lo' hi' (P2 i) (L2 i) (T2 i)) :
    ∃ r, fBar_sameNotes b c H = some (r, H) ∧ (r = 1 ∨ r = 0) ∧ (r = 1 ↔ M = M2 ∧ ∀ j, j < M → P j = P2 j ∧ L j = L2 j ∧ T j = T2 j) := by
  have m8 := vb.2.2.1
  have run : fBar_sameNotes b c H = if (M : Int) = (M2 : Int) then fBar_sameNotes_l3 zFU b c 1 0 H else fBar_sameNotes_l3 zFU b c 0 0 H := by
    unfold fBar_sameNotes
    simp only [yjn, ygi, hb.1, hc.1, zA0, if_true, vb.1, vc.1]
  rw [run]
  by_cases h : M = M2
  · subst h
    rw [if_pos rfl]
    obtain ⟨r, r1, r2, r3⟩ := e_same_l hb hc vb vc d1 d2 d3 d4 nb nc M zFU 0 (by omega) (by rw [zFU_e]; omega) (by omega)
    exact ⟨r, r1, r2, r3.trans ⟨fun h => ⟨rfl, fun j q => h j (by omega) q⟩, fun h j _ q => h.2 j q⟩⟩
  · rw [if_neg (by omega)]
    refine ⟨0, ?_, Or.inr rfl, fun h => absurd h (by omega), fun q => absurd q.1 h⟩
    obtain ⟨f, hf⟩ : ∃ f, zFU = f + 1 := ⟨999999, rfl⟩
    rw [hf, fBar_sameNotes_l3]
    simp only [yjn, ygi, hb.1, zA0, if_true, vb.1]
    by_cases g2 : (0 : Int) < (M : Int)
    · rw [if_pos g2]; rfl
    · rw [if_neg g2]; rfl
