/-! PRINTS: the cheapest months to print in -/
/-- copies asked from month a on, b months -/
def sgN (s : zSg) (a : Nat) : Nat → Nat
  | 0 => 0
  | b + 1 => sgN s a b + (s 71 (a + b)).toNat
/-- what their keeping costs -/
def hdN (s : zSg) (a : Nat) : Nat → Nat
  | 0 => 0
  | b + 1 => hdN s a b + (s 71 (a + b)).toNat * b * (s 0 73).toNat
def hdm (m : Nat) : List Nat → Nat
  | [] => m
  | p :: _ => p
/-- the run from a print at p to month e -/
def run1 (s : zSg) (p e : Nat) : Prop := 0 < sgN s p (e - p) ∧ (sgN s p (e - p) : Int) ≤ s 0 74
def okQ (s : zSg) (m : Nat) : List Nat → Prop
  | [] => True
  | p :: L => (p < hdm m L ∧ hdm m L ≤ m) ∧ run1 s p (hdm m L) ∧ okQ s m L
def ck (s : zSg) (m : Nat) : List Nat → Nat
  | [] => 0
  | p :: L => (s 0 72).toNat + hdN s p (hdm m L - p) + ck s m L
/-- cheaper, then fewer, then the smaller number -/
def Ct (c z b c' z' b' : Nat) : Prop := c < c' ∨ (c = c' ∧ (z < z' ∨ (z = z' ∧ b < b')))
def CtL (s : zSg) (m : Nat) (L L' : List Nat) : Prop := Ct (ck s m L) (zk m (TL id L)) (bk m (TL id L)) (ck s m L') (zk m (TL id L')) (bk m (TL id L'))
/-- what is told of the months -/
def HP (s : zSg) (m : Nat) : Prop := s 0 70 = (m : Int) ∧ m ≤ 10 ∧ (∀ j, j < m → 0 ≤ s 71 j ∧ s 71 j ≤ 999) ∧ (0 ≤ s 0 72 ∧ s 0 72 ≤ 9999) ∧ (0 ≤ s 0 73 ∧ s 0 73 ≤ 99) ∧ (1 ≤ s 0 74 ∧ s 0 74 ≤ 9999)
section PRINTS1
variable {s : zSg} {m : Nat}
theorem CtL.ntr {a b c : List Nat} (h : ¬ CtL s m a b) (h' : ¬ CtL s m b c) : ¬ CtL s m a c := by
  unfold CtL Ct at *
  omega
theorem CtL.le {a b c : List Nat} (h : ¬ CtL s m a b) (h' : CtL s m c b) : ¬ CtL s m a c := by
  unfold CtL Ct at *
  omega
theorem CtL.irr {a : List Nat} : ¬ CtL s m a a := by
  unfold CtL Ct
  omega
theorem CtL.same {a b : List Nat} (h : ¬ CtL s m a b) (h' : ¬ CtL s m b a) : ck s m a = ck s m b ∧ bk m (TL id a) = bk m (TL id b) := by
  unfold CtL Ct at *
  omega
theorem sgN_le (hp : HP s m) {a : Nat} : ∀ b, a + b ≤ m → sgN s a b ≤ 999 * b
  | 0, _ => Nat.le_refl _
  | b + 1, h => by
    have := sgN_le hp (a := a) b (by omega)
    have := hp.2.2.1 (a + b) (by omega)
    show sgN s a b + (s 71 (a + b)).toNat ≤ 999 * (b + 1)
    omega
theorem hdN_le (hp : HP s m) {a : Nat} : ∀ b, a + b ≤ m → hdN s a b ≤ 999 * 10 * 99 * b
  | 0, _ => Nat.le_refl _
  | b + 1, h => by
    have := hdN_le hp (a := a) b (by omega)
    have h1 := hp.2.2.1 (a + b) (by omega)
    have h2 := hp.2.2.2.2.1
    have h3 := hp.2.1
    have : (s 71 (a + b)).toNat * b * (s 0 73).toNat ≤ 999 * 10 * 99 := Nat.mul_le_mul (Nat.mul_le_mul (by omega) (by omega)) (by omega)
    show hdN s a b + (s 71 (a + b)).toNat * b * (s 0 73).toNat ≤ 999 * 10 * 99 * (b + 1)
    omega
theorem okQ.srt : ∀ (L : List Nat) {k : Nat}, okQ s m L → k ≤ hdm m L → srt m k L
  | [], _, _, _ => trivial
  | p :: L, k, h, hk => by
    have a : p < hdm m L := h.1.1
    have b : hdm m L ≤ m := h.1.2
    exact ⟨⟨hk, by omega⟩, okQ.srt L h.2.2 a⟩
theorem ck_le (hp : HP s m) : ∀ (L : List Nat), okQ s m L → ck s m L ≤ (9999 + 999 * 10 * 99) * (m - hdm m L) + 999 * 10 * 99 * (m - hdm m L)
  | [], _ => Nat.zero_le _
  | p :: L, h => by
    have ih := ck_le hp L h.2.2
    have a : p < hdm m L := h.1.1
    have b : hdm m L ≤ m := h.1.2
    have c := hdN_le hp (a := p) (hdm m L - p) (by omega)
    have d := hp.2.2.2.1
    show (s 0 72).toNat + hdN s p (hdm m L - p) + ck s m L ≤ (9999 + 999 * 10 * 99) * (m - p) + 999 * 10 * 99 * (m - p)
    omega
theorem TLid_off : ∀ (L : List Nat) {k p : Nat}, srt m k L → p < k → TL id L p = false
  | [], _, _, _, _ => rfl
  | q :: L, k, p, hs, h1 => by
    have a := hs.1.1
    show (if p = q then true else TL id L p) = false
    rw [if_neg (by omega)]
    exact TLid_off L hs.2 (by omega)
theorem TLid_cons (s : zSg) {m : Nat} {L : List Nat} {k p : Nat} (hs : srt m k (p :: L)) : zk m (TL id (p :: L)) = zk m (TL id L) + 1 ∧ bk m (TL id (p :: L)) = bk m (TL id L) + 2 ^ p := (keys_tp (s := s) (TLid_off L hs.2 (Nat.lt_succ_self p)) hs.1.2).2
theorem CtL.cons {L L' : List Nat} {k k' p : Nat} (hs : srt m k (p :: L)) (hs' : srt m k' (p :: L')) (h : hdm m L = hdm m L') (hb : ¬ CtL s m L L') : ¬ CtL s m (p :: L) (p :: L') := by
  have a := TLid_cons s hs
  have b := TLid_cons s hs'
  have c : ck s m (p :: L) = (s 0 72).toNat + hdN s p (hdm m L - p) + ck s m L := rfl
  have d : ck s m (p :: L') = (s 0 72).toNat + hdN s p (hdm m L' - p) + ck s m L' := rfl
  rw [h] at c
  obtain ⟨a1, a2⟩ := a
  obtain ⟨b1, b2⟩ := b
  unfold CtL Ct at *
  rw [a1, a2, b1, b2, c, d]
  clear a1 a2 b1 b2 c d
  generalize 2 ^ p = w
  omega
end PRINTS1
