/-! HIRE: the best set of asks -/
def sumP (f : Nat → Nat) (P : Nat → Bool) : Nat → Nat
  | 0 => 0
  | k + 1 => sumP f P k + if P k = true then f k else 0
theorem sumP_none {f : Nat → Nat} {P : Nat → Bool} : ∀ n, (∀ j, j < n → P j = false) → sumP f P n = 0
  | 0, _ => rfl
  | n + 1, h => by
    show sumP f P n + (if P n = true then f n else 0) = 0
    rw [sumP_none n (fun j hj => h j (by omega)), h n (by omega), if_neg (by decide)]
theorem sumP_eq {f : Nat → Nat} {P Q : Nat → Bool} : ∀ n, (∀ j, j < n → P j = Q j) → sumP f P n = sumP f Q n
  | 0, _ => rfl
  | n + 1, h => by
    show sumP f P n + (if P n = true then f n else 0) = sumP f Q n + (if Q n = true then f n else 0)
    rw [sumP_eq n (fun j hj => h j (by omega)), h n (by omega)]
theorem sumP_tp {f : Nat → Nat} {T : Nat → Bool} {b : Nat} (hb : T b = false) : ∀ n, sumP f (Tp T b) n = sumP f T n + (if b < n then f b else 0)
  | 0 => rfl
  | n + 1 => by
    have ih := sumP_tp (f := f) hb n
    show sumP f (Tp T b) n + (if Tp T b n = true then f n else 0) = sumP f T n + (if T n = true then f n else 0) + _
    by_cases c : n = b
    · subst c
      rw [if_neg (Nat.lt_irrefl _)] at ih
      have e : Tp T n n = true := by show (if n = n then true else T n) = true; rw [if_pos rfl]
      rw [ih, e, hb, if_pos rfl, if_neg (show ¬ false = true by decide), if_pos (Nat.lt_succ_self _)]
    · have e : Tp T b n = T n := by show (if n = b then true else T n) = T n; rw [if_neg c]
      rw [ih, e]
      by_cases c2 : b < n
      · rw [if_pos c2, if_pos (show b < n + 1 by omega)]; omega
      · rw [if_neg c2, if_neg (show ¬ b < n + 1 by omega)]; omega
theorem sumP_lt {T : Nat → Bool} : ∀ n, sumP (2 ^ ·) T n < 2 ^ n
  | 0 => Nat.one_pos
  | n + 1 => by
    have := sumP_lt (T := T) n
    show sumP (2 ^ ·) T n + (if T n = true then 2 ^ n else 0) < 2 ^ (n + 1)
    rw [Nat.pow_succ]
    split <;> omega
theorem sumP_bit {T : Nat → Bool} : ∀ n j, (sumP (2 ^ ·) T n).testBit j = if j < n then T j else false
  | 0, j => by rw [if_neg (by omega)]; exact Nat.zero_testBit j
  | n + 1, j => by
    have ih := sumP_bit (T := T) n j
    have lt := sumP_lt (T := T) n
    show (sumP (2 ^ ·) T n + (if T n = true then 2 ^ n else 0)).testBit j = _
    by_cases h : T n = true
    · rw [if_pos h, Nat.add_comm]
      rcases Nat.lt_trichotomy j n with c | c | c
      · rw [Nat.testBit_two_pow_add_gt c, ih, if_pos c, if_pos (show j < n + 1 by omega)]
      · subst c
        rw [Nat.testBit_two_pow_add_eq, ih, if_neg (Nat.lt_irrefl _), if_pos (Nat.lt_succ_self _), h]
        rfl
      · rw [if_neg (show ¬ j < n + 1 by omega)]
        refine Nat.testBit_lt_two_pow ?_
        have := Nat.pow_le_pow_right (n := 2) (by omega) (show n + 1 ≤ j by omega)
        rw [Nat.pow_succ] at this
        omega
    · have h' : T n = false := by cases q : T n with | true => exact absurd q h | false => rfl
      rw [if_neg h, Nat.add_zero, ih]
      by_cases c : j < n
      · rw [if_pos c, if_pos (show j < n + 1 by omega)]
      · rw [if_neg c]
        by_cases c2 : j < n + 1
        · rw [if_pos c2, show j = n by omega, h']
        · rw [if_neg c2]
theorem sumP_of {z : Nat} : ∀ n, sumP (2 ^ ·) z.testBit n = z % 2 ^ n
  | 0 => (Nat.mod_one z).symm
  | n + 1 => by
    show sumP (2 ^ ·) z.testBit n + (if z.testBit n = true then 2 ^ n else 0) = _
    rw [sumP_of n, Nat.mod_pow_succ, Nat.testBit_eq_decide_div_mod_eq]
    by_cases c : z / 2 ^ n % 2 = 1
    · rw [if_pos (decide_eq_true c), c, Nat.mul_one]
    · rw [if_neg (by rw [decide_eq_true_eq]; exact c), show z / 2 ^ n % 2 = 0 by omega, Nat.mul_zero]
theorem pop_sum {T : Nat → Bool} {n : Nat} : ∀ k, k ≤ n → pop k (sumP (2 ^ ·) T n) = sumP (fun _ => 1) T k
  | 0, _ => rfl
  | k + 1, h => by
    show pop k (sumP (2 ^ ·) T n) + ((sumP (2 ^ ·) T n).testBit k).toNat = sumP (fun _ => 1) T k + _
    rw [pop_sum k (by omega), sumP_bit, if_pos (show k < n by omega)]
    cases T k <;> rfl
theorem pop_10 {T : Nat → Bool} {n : Nat} : ∀ d, pop (n + d) (sumP (2 ^ ·) T n) = sumP (fun _ => 1) T n
  | 0 => pop_sum n (Nat.le_refl _)
  | d + 1 => by
    show pop (n + d) (sumP (2 ^ ·) T n) + ((sumP (2 ^ ·) T n).testBit (n + d)).toNat = _
    rw [pop_10 d, sumP_bit, if_neg (by omega)]
    rfl
/-- one key is better than another: more worth, then fewer, then the smaller number -/
def Bt (w z b w' z' b' : Nat) : Prop := w' < w ∨ (w' = w ∧ (z < z' ∨ (z = z' ∧ b < b')))
def bk (n : Nat) (T : Nat → Bool) : Nat := sumP (2 ^ ·) T n
def zk (n : Nat) (T : Nat → Bool) : Nat := sumP (fun _ => 1) T n
def wk (s : zSg) (n : Nat) (T : Nat → Bool) : Nat := sumP (fun j => (s 69 j).toNat) T n
def BtT (s : zSg) (n : Nat) (T T' : Nat → Bool) : Prop := Bt (wk s n T) (zk n T) (bk n T) (wk s n T') (zk n T') (bk n T')
theorem BtT.ntr {s : zSg} {n : Nat} {T1 T2 T3 : Nat → Bool} (a : ¬ BtT s n T1 T2) (b : ¬ BtT s n T2 T3) : ¬ BtT s n T1 T3 := by
  unfold BtT Bt at *
  omega
theorem BtT.le {s : zSg} {n : Nat} {T1 T2 T3 : Nat → Bool} (a : ¬ BtT s n T1 T2) (b : BtT s n T3 T2) : ¬ BtT s n T1 T3 := by
  unfold BtT Bt at *
  omega
theorem BtT.irr {s : zSg} {n : Nat} {T : Nat → Bool} : ¬ BtT s n T T := by
  unfold BtT Bt
  omega
theorem BtT.same {s : zSg} {n : Nat} {T1 T2 : Nat → Bool} (a : ¬ BtT s n T1 T2) (b : ¬ BtT s n T2 T1) : wk s n T1 = wk s n T2 ∧ bk n T1 = bk n T2 := by
  unfold BtT Bt at *
  omega
theorem keys_of {s : zSg} {n : Nat} {T T' : Nat → Bool} (h : ∀ j, j < n → T j = T' j) : wk s n T = wk s n T' ∧ zk n T = zk n T' ∧ bk n T = bk n T' := ⟨sumP_eq n h, sumP_eq n h, sumP_eq n h⟩
theorem keys_bk {n : Nat} {T T' : Nat → Bool} (h : bk n T = bk n T') : ∀ j, j < n → T j = T' j := fun j hj => by
  have e1 := sumP_bit (T := T) n j
  have e2 := sumP_bit (T := T') n j
  rw [if_pos hj] at e1 e2
  unfold bk at h
  rw [← e1, ← e2, h]
theorem keys_tp {s : zSg} {n : Nat} {T : Nat → Bool} {b : Nat} (hb : T b = false) (h : b < n) : wk s n (Tp T b) = wk s n T + (s 69 b).toNat ∧ zk n (Tp T b) = zk n T + 1 ∧ bk n (Tp T b) = bk n T + 2 ^ b := by
  unfold wk zk bk
  rw [sumP_tp hb, sumP_tp hb, sumP_tp hb, if_pos h, if_pos h, if_pos h]
  exact ⟨rfl, rfl, rfl⟩
/-- what is told of the asks, and the order of their first days -/
def HY (s : zSg) (n : Nat) (o : Nat → Nat) : Prop := s 0 65 = (n : Int) ∧ n ≤ 9 ∧ (∀ j, j < n → (0 ≤ s 66 j ∧ s 66 j ≤ 5) ∧ (0 ≤ s 67 j ∧ s 67 j ≤ 9999) ∧ (s 67 j ≤ s 68 j ∧ s 68 j ≤ 9999) ∧ 0 ≤ s 69 j ∧ s 69 j ≤ 999) ∧ (∀ i, i < 36 → 0 ≤ s 63 i ∧ s 63 i ≤ 99) ∧ (∀ p, p < n → o p < n) ∧ ∀ p q, p < q → q < n → s 67 (o p) < s 67 (o q) ∨ (s 67 (o p) = s 67 (o q) ∧ o p < o q)
def wyb (s : zSg) (a b : Int) : Int := s 63 (6 * a + b).toNat
/-- a way through places of the order, from place k on, from a town and a day -/
def okL (s : zSg) (n : Nat) (o : Nat → Nat) : Nat → Int → Int → List Nat → Prop
  | _, _, _, [] => True
  | k, t, d, p :: L => (k ≤ p ∧ p < n) ∧ d + wyb s t (s 66 (o p)) ≤ s 67 (o p) ∧ okL s n o (p + 1) (s 66 (o p)) (s 68 (o p) + 1) L
def srt (n : Nat) : Nat → List Nat → Prop
  | _, [] => True
  | k, p :: L => (k ≤ p ∧ p < n) ∧ srt n (p + 1) L
def TL (o : Nat → Nat) : List Nat → Nat → Bool
  | [] => fun _ => false
  | p :: L => Tp (TL o L) (o p)
section HIRE1
variable {s : zSg} {n : Nat} {o : Nat → Nat}
theorem okL.srt : ∀ (L : List Nat) {k : Nat} {t d : Int}, okL s n o k t d L → srt n k L
  | [], _, _, _, _ => trivial
  | _ :: L, _, _, _, h => ⟨h.1, okL.srt L h.2.2⟩
theorem HY.inj (h : HY s n o) {p q : Nat} (hp : p < n) (hq : q < n) (e : o p = o q) : p = q := by
  obtain ⟨-, -, -, -, -, w⟩ := h
  rcases Nat.lt_trichotomy p q with c | c | c
  · have := w p q c hq; rw [e] at this; omega
  · exact c
  · have := w q p c hp; rw [e] at this; omega
theorem TL.off (h : HY s n o) : ∀ (L : List Nat) {k p : Nat}, srt n k L → p < k → p < n → TL o L (o p) = false
  | [], _, _, _, _, _ => rfl
  | q :: L, k, p, hs, h1, h2 => by
    show (if o p = o q then true else TL o L (o p)) = false
    rw [if_neg (fun e => by have := h.inj h2 hs.1.2 e; have := hs.1.1; omega)]
    exact TL.off h L hs.2 (by have := hs.1.1; omega) h2
theorem TL.cons (h : HY s n o) {L : List Nat} {k p : Nat} (hs : srt n k (p :: L)) : wk s n (TL o (p :: L)) = wk s n (TL o L) + (s 69 (o p)).toNat ∧ zk n (TL o (p :: L)) = zk n (TL o L) + 1 ∧ bk n (TL o (p :: L)) = bk n (TL o L) + 2 ^ (o p) :=
  keys_tp (TL.off h L hs.2 (Nat.lt_succ_self p) hs.1.2) (h.2.2.2.2.1 p hs.1.2)
theorem TL.btc (h : HY s n o) {L L' : List Nat} {k k' p : Nat} (hs : srt n k (p :: L)) (hs' : srt n k' (p :: L')) (hb : ¬ BtT s n (TL o L) (TL o L')) : ¬ BtT s n (TL o (p :: L)) (TL o (p :: L')) := by
  have a := TL.cons h hs
  have b := TL.cons h hs'
  unfold BtT Bt at *
  omega
theorem nil_keys : wk s n (TL o []) = 0 ∧ zk n (TL o []) = 0 ∧ bk n (TL o []) = 0 := ⟨sumP_none n fun _ _ => rfl, sumP_none n fun _ _ => rfl, sumP_none n fun _ _ => rfl⟩
theorem onto : ∀ (n : Nat) (o : Nat → Nat), (∀ p, p < n → o p < n) → (∀ p q, p < n → q < n → o p = o q → p = q) → ∀ j, j < n → ∃ p, p < n ∧ o p = j
  | 0, _, _, _, _, h => absurd h (by omega)
  | n + 1, o, h1, h2, j, hj => by
    obtain ⟨v, ev⟩ : ∃ v, v = o n := ⟨_, rfl⟩
    have hv := h1 n (by omega)
    have ih := onto n (fun p => if o p = n then v else o p) (fun p hp => by
      show (if o p = n then v else o p) < n
      by_cases c : o p = n
      · rw [if_pos c]
        have : v ≠ n := fun e => by have := h2 p n (by omega) (by omega) (by omega); omega
        omega
      · rw [if_neg c]; have := h1 p (by omega); omega) (fun p q hp hq e => by
      have e : (if o p = n then v else o p) = (if o q = n then v else o q) := e
      by_cases c : o p = n
      · by_cases c2 : o q = n
        · exact h2 p q (by omega) (by omega) (by omega)
        · rw [if_pos c, if_neg c2] at e
          have := h2 n q (by omega) (by omega) (by omega)
          omega
      · by_cases c2 : o q = n
        · rw [if_neg c, if_pos c2] at e
          have := h2 p n (by omega) (by omega) (by omega)
          omega
        · rw [if_neg c, if_neg c2] at e
          exact h2 p q (by omega) (by omega) e)
    by_cases c : j = v
    · exact ⟨n, by omega, by omega⟩
    · by_cases c2 : j = n
      · obtain ⟨p, p1, p2⟩ := ih v (by omega)
        have p2 : (if o p = n then v else o p) = v := p2
        by_cases c3 : o p = n
        · exact ⟨p, by omega, by omega⟩
        · rw [if_neg c3] at p2
          have := h2 p n (by omega) (by omega) (by omega)
          omega
      · obtain ⟨p, p1, p2⟩ := ih j (by omega)
        have p2 : (if o p = n then v else o p) = j := p2
        by_cases c3 : o p = n
        · rw [if_pos c3] at p2; omega
        · rw [if_neg c3] at p2; exact ⟨p, by omega, p2⟩
/-- the places whose asks are in a set -/
def LQ (o : Nat → Nat) (T : Nat → Bool) : Nat → Nat → List Nat
  | 0, _ => []
  | m + 1, k => if T (o k) = true then k :: LQ o T m (k + 1) else LQ o T m (k + 1)
theorem LQ_srt {T : Nat → Bool} : ∀ (m k : Nat), k + m = n → srt n k (LQ o T m k)
  | 0, _, _ => trivial
  | m + 1, k, h => by
    have ih := LQ_srt (T := T) m (k + 1) (by omega)
    have up : ∀ (L : List Nat), srt n (k + 1) L → srt n k L := fun L hL => by
      cases L with
      | nil => exact hL
      | cons p L => exact ⟨⟨by have := hL.1.1; omega, hL.1.2⟩, hL.2⟩
    show srt n k (if T (o k) = true then k :: LQ o T m (k + 1) else LQ o T m (k + 1))
    by_cases c : T (o k) = true
    · rw [if_pos c]; exact ⟨⟨Nat.le_refl _, by omega⟩, ih⟩
    · rw [if_neg c]; exact up _ ih
theorem LQ_tl {T : Nat → Bool} {j : Nat} : ∀ (m k : Nat), TL o (LQ o T m k) j = true ↔ ∃ p, k ≤ p ∧ p < k + m ∧ o p = j ∧ T j = true
  | 0, k => ⟨fun h => absurd h (show ¬ false = true by decide), fun ⟨p, h1, h2, _⟩ => absurd h2 (by omega)⟩
  | m + 1, k => by
    have ih := LQ_tl (T := T) (j := j) m (k + 1)
    show TL o (if T (o k) = true then k :: LQ o T m (k + 1) else LQ o T m (k + 1)) j = true ↔ _
    have skip : (T j = true → o k ≠ j) → (TL o (LQ o T m (k + 1)) j = true ↔ ∃ p, k ≤ p ∧ p < k + (m + 1) ∧ o p = j ∧ T j = true) := fun w => by
      rw [ih]
      constructor
      · rintro ⟨p, h1, h2, h3⟩; exact ⟨p, by omega, by omega, h3⟩
      · rintro ⟨p, h1, h2, h3, h4⟩
        have : p ≠ k := fun e => w h4 (by rw [← e]; exact h3)
        exact ⟨p, by omega, by omega, h3, h4⟩
    by_cases c : T (o k) = true
    · rw [if_pos c]
      show (if j = o k then true else TL o (LQ o T m (k + 1)) j) = true ↔ _
      by_cases c2 : j = o k
      · rw [if_pos c2]
        exact ⟨fun _ => ⟨k, by omega, by omega, c2.symm, by rw [c2]; exact c⟩, fun _ => rfl⟩
      · rw [if_neg c2]; exact skip fun _ e => c2 e.symm
    · rw [if_neg c]; exact skip fun h e => c (by rw [e]; exact h)
theorem LQ_all (h : HY s n o) (T : Nat → Bool) : ∀ j, j < n → TL o (LQ o T n 0) j = T j := fun j hj => by
  obtain ⟨p, p1, p2⟩ := onto n o h.2.2.2.2.1 (fun p q => h.inj) j hj
  have := LQ_tl (o := o) (T := T) (j := j) n 0
  cases c : T j with
  | true => exact this.mpr ⟨p, by omega, by omega, p2, c⟩
  | false =>
    cases c2 : TL o (LQ o T n 0) j with
    | false => rfl
    | true =>
      obtain ⟨-, -, -, -, w⟩ := this.mp c2
      rw [c] at w
      cases w
/-- the best list from place k on -/
def OpL (s : zSg) (n : Nat) (o : Nat → Nat) (k : Nat) (t d : Int) (L : List Nat) : Prop := okL s n o k t d L ∧ ∀ L', okL s n o k t d L' → ¬ BtT s n (TL o L') (TL o L)
theorem OpL.same {k : Nat} {t d : Int} {L L' : List Nat} (a : OpL s n o k t d L) (b : OpL s n o k t d L') : wk s n (TL o L) = wk s n (TL o L') ∧ bk n (TL o L) = bk n (TL o L') := BtT.same (b.2 L a.1) (a.2 L' b.1)
end HIRE1
