/-! CHANGES: the least changes of two rows -/
def cntP (P : Nat → Bool) : Nat → Nat
  | 0 => 0
  | k + 1 => cntP P k + if P k = true then 1 else 0
theorem cntP_len {P : Nat → Bool} : ∀ k, ((List.range k).filter P).length = cntP P k
  | 0 => rfl
  | k + 1 => by
    rw [List.range_succ, List.filter_append, List.length_append, cntP_len k]
    show cntP P k + _ = cntP P k + _
    by_cases h : P k = true
    · rw [if_pos h, List.filter_cons_of_pos h]; rfl
    · rw [if_neg h, List.filter_cons_of_neg h]; rfl
theorem cntP_le {P : Nat → Bool} : ∀ k, cntP P k ≤ k
  | 0 => Nat.le_refl _
  | k + 1 => by
    have := cntP_le (P := P) k
    show cntP P k + (if P k = true then 1 else 0) ≤ k + 1
    split <;> omega
theorem cntP_mono {P : Nat → Bool} {k : Nat} : ∀ d, cntP P k ≤ cntP P (k + d)
  | 0 => Nat.le_refl _
  | d + 1 => by
    have := cntP_mono (P := P) (k := k) d
    show cntP P k ≤ cntP P (k + d) + (if P (k + d) = true then 1 else 0)
    split <;> omega
theorem filt_get {P : Nat → Bool} {k : Nat} (hk : P k = true) : ∀ d, ((List.range (k + 1 + d)).filter P)[cntP P k]? = some k
  | 0 => by
    rw [Nat.add_zero, List.range_succ, List.filter_append, List.filter_cons_of_pos hk]
    rw [List.getElem?_append_right (by rw [cntP_len]; exact Nat.le_refl _), cntP_len, Nat.sub_self]
    rfl
  | d + 1 => by
    have e := filt_get hk d
    have e2 : k + 1 + (d + 1) = k + 1 + d + 1 := rfl
    rw [e2, List.range_succ, List.filter_append]
    obtain ⟨h, -⟩ := List.getElem?_eq_some_iff.mp e
    rw [List.getElem?_append_left h]
    exact e
def hB (s : zSg) (e v k : Nat) : Bool := decide (0 ≤ s 29 (80 * e + 20 * v + k))
theorem edL_len {s : zSg} {e v : Nat} : (edL s e v).length = cntP (hB s e v) 20 := by
  unfold edL
  rw [List.length_map]
  exact cntP_len 20
theorem edL_get {s : zSg} {e v k : Nat} (hk : k < 20) (hp : hB s e v k = true) : (edL s e v).getD (cntP (hB s e v) k) 0 = 80 * e + 20 * v + k := by
  have := filt_get hp (20 - (k + 1))
  rw [show k + 1 + (20 - (k + 1)) = 20 by omega] at this
  unfold edL
  rw [List.getD_eq_getElem?_getD, List.getElem?_map]
  have e : ((List.range 20).filter fun k => decide (0 ≤ s 29 (80 * e + 20 * v + k)))[cntP (hB s e v) k]? = some k := this
  rw [e]
  rfl
theorem edi0 {c : Nat → Nat → Bool} {f g : Nat → Nat} {i : Nat} : edD c f g i 0 = i := by
  cases i <;> rfl
theorem edS {c : Nat → Nat → Bool} {f g : Nat → Nat} {i j : Nat} : edD c f g (i + 1) (j + 1) = min (min (edD c f g i j + if c (f i) (g j) = true then 0 else 1) (edD c f g i (j + 1) + 1)) (edD c f g (i + 1) j + 1) := rfl
theorem edD_sym {c : Nat → Nat → Bool} {f g : Nat → Nat} (hc : ∀ x y, c x y = c y x) : ∀ i j, edD c f g i j = edD c g f j i := by
  intro i
  induction i with
  | zero =>
    intro j
    rw [edi0]
    rfl
  | succ i ih =>
    intro j
    induction j with
    | zero => rw [edi0]; rfl
    | succ j jh =>
      rw [edS, edS, ih j, ih (j + 1), jh, hc (f i) (g j)]
      omega
theorem edD_le {c : Nat → Nat → Bool} {f g : Nat → Nat} : ∀ i j, edD c f g i j ≤ i + j := by
  intro i
  induction i with
  | zero => intro j; show j ≤ 0 + j; omega
  | succ i ih =>
    intro j
    induction j with
    | zero => rw [edi0]; omega
    | succ j jh =>
      have := ih (j + 1)
      rw [edS]
      omega
theorem edD_diag {c : Nat → Nat → Bool} {f : Nat → Nat} (hc : ∀ x, c x x = true) : ∀ i, edD c f f i i = 0
  | 0 => rfl
  | i + 1 => by
    have := edD_diag (f := f) hc i
    rw [edS, this, if_pos (hc _)]
    omega
theorem alike_iff {s : zSg} {q r : Nat} : alike s q r = true ↔ s 29 q = s 29 r ∧ ∀ i, i < (s 29 q).toNat → s 26 (8 * q + i) = s 26 (8 * r + i) ∧ s 27 (8 * q + i) = s 27 (8 * r + i) ∧ s 28 (8 * q + i) = s 28 (8 * r + i) := by
  unfold alike
  rw [Bool.and_eq_true, decide_eq_true_eq, List.all_eq_true]
  refine and_congr Iff.rfl ⟨fun h i hi => ?_, fun h i hi => ?_⟩
  · have := h i (List.mem_range.mpr hi)
    rw [Bool.and_eq_true, Bool.and_eq_true, decide_eq_true_eq, decide_eq_true_eq, decide_eq_true_eq] at this
    exact ⟨this.1.1, this.1.2, this.2⟩
  · obtain ⟨a, b, c⟩ := h i (List.mem_range.mp hi)
    rw [Bool.and_eq_true, Bool.and_eq_true, decide_eq_true_eq, decide_eq_true_eq, decide_eq_true_eq]
    exact ⟨⟨a, b⟩, c⟩
theorem alike_sym {s : zSg} (q r : Nat) : alike s q r = alike s r q := by
  rw [Bool.eq_iff_iff, alike_iff, alike_iff]
  refine ⟨fun h => ⟨h.1.symm, fun i hi => ?_⟩, fun h => ⟨h.1.symm, fun i hi => ?_⟩⟩
  · rw [← h.1] at hi
    obtain ⟨a, b, c⟩ := h.2 i hi
    exact ⟨a.symm, b.symm, c.symm⟩
  · rw [← h.1] at hi
    obtain ⟨a, b, c⟩ := h.2 i hi
    exact ⟨a.symm, b.symm, c.symm⟩
theorem alike_refl {s : zSg} (q : Nat) : alike s q q = true := alike_iff.mpr ⟨rfl, fun _ _ => ⟨rfl, rfl, rfl⟩⟩
theorem edV_sym {s : zSg} {a b v : Nat} : edV s a b v = edV s b a v := edD_sym alike_sym _ _
theorem edist_sym {s : zSg} {a b : Nat} : edist s a b = edist s b a := by
  unfold edist
  rw [edV_sym (a := a), edV_sym (a := a), edV_sym (a := a), edV_sym (a := a)]
theorem edist_self {s : zSg} {a : Nat} : edist s a a = 0 := by
  have : ∀ v, edV s a a v = 0 := fun v => edD_diag alike_refl _
  unfold edist
  rw [this, this, this, this]
  rfl
theorem edV_le {s : zSg} {a b v : Nat} : edV s a b v ≤ 40 := by
  have h1 := edL_len (s := s) (e := a) (v := v)
  have h2 := edL_len (s := s) (e := b) (v := v)
  have h3 := cntP_le (P := hB s a v) 20
  have h4 := cntP_le (P := hB s b v) 20
  have := edD_le (c := alike s) (f := fun i => (edL s a v).getD i 0) (g := fun i => (edL s b v).getD i 0) (edL s a v).length (edL s b v).length
  unfold edV
  omega
section CHANGES
variable {X : Nat} {H : zHp} {s : zSg} {A : Nat → Nat} {B : Nat → Nat → Nat} {K : Nat → Nat} {ow : Nat → Nat × Nat} {a b : Nat}
/-- what a reckoning of changes writes: two rows of an edition, and which is which -/
def Ech (A : Nat → Nat) (a : Nat) (H H' : zHp) : Prop := zst H H' ∧ znx H' = znx H ∧ zus H' = zus H ∧ (∀ q k, q ≠ A a + 2 → q ≠ A a + 3 → ¬ (q = A a ∧ (k = 7 ∨ k = 8)) → zct H' q k = zct H q k)
theorem Ech.tr {H1 H2 H3 : zHp} (h : Ech A a H1 H2) (k : Ech A a H2 H3) : Ech A a H1 H3 := ⟨h.1.tr k.1, k.2.1.trans h.2.1, k.2.2.1.trans h.2.2.1, fun q i h1 h2 h3 => (k.2.2.2 q i h1 h2 h3).trans (h.2.2.2 q i h1 h2 h3)⟩
theorem Ech.rf {H1 : zHp} : Ech A a H1 H1 := ⟨zst.rf, rfl, rfl, fun _ _ _ _ _ => rfl⟩
theorem Ech.wr {H1 H2 : zHp} (h : Ech A a H1 H2) {q k : Nat} {x : Int} (hq : q = A a + 2 ∨ q = A a + 3) : Ech A a H1 (zwr H2 q k x) := h.tr ⟨zst.rf.wr _ _ _, rfl, rfl, fun p i h1 h2 _ => by rw [zct_wr, if_neg (by rintro ⟨rfl, -⟩; omega)]⟩
def EPr (A : Nat → Nat) (a : Nat) (H : zHp) (p r : Nat) : Prop := zct H (A a) 7 = (p : Int) ∧ zct H (A a) 8 = (r : Int) ∧ ((p = A a + 2 ∧ r = A a + 3) ∨ (p = A a + 3 ∧ r = A a + 2))
theorem IV.ed {H' : zHp} {p r : Nat} (I : IV X H s A B K ow) (ha : (a : Int) < s 0 2) (hk : s 3 a = 4) (h : Ech A a H H') (hp : EPr A a H' p r) : IV X H' s A B K ow := by
  have hn := I.n
  obtain ⟨h1, -, -, hx⟩ := h
  obtain ⟨m, ⟨a0, a1, a2, a3, a4, a5, a6⟩, w, ⟨g1, g2, g3, g4, g5, g6, g7, g8⟩, bb⟩ := (I.to ha).2.2.2.1 hk
  obtain ⟨m0, m1, m2, m3, m4⟩ := id m
  have kt : ∀ q, q ≤ znx H → ztg H' q = ztg H q ∧ zln H' q = zln H q := fun q hq => h1.2.2 q hq
  refine I.ch (gs := []) (t := a) h1 ?_ ?_ zfs.rf (fun u _ _ => zts.rf) rfl rfl rfl rfl rfl rfl rfl (fun _ _ _ => rfl) (fun _ _ => rfl) ?_ (fun _ => ?_) I.2.2.2.2.1 rfl rfl rfl rfl rfl rfl rfl rfl rfl rfl (Or.inl rfl) (by omega)
  · intro o k ho _
    have := m0.1
    exact hx _ _ (by omega) (by omega) (by omega)
  · refine zfd.of fun q k hq hp => hx q k (fun e => hp ?_) (fun e => hp ?_) (fun e => hp ?_)
    · rw [e]; exact ⟨m2.1, by rw [m2.2.2]⟩
    · rw [e]; exact ⟨m3.1, by rw [m3.2.2]⟩
    · rw [e.1]; exact ⟨m0.1, by rw [m0.2.2]⟩
  · refine ⟨fun w => by omega, fun w => by omega, fun w => by omega, fun _ => ?_, fun w => by omega⟩
    unfold TOe
    rw [(kt _ m0.2.1).1, (kt _ m1.2.1).1, (kt _ m1.2.1).2, (kt _ m2.2.1).1, (kt _ m2.2.1).2, (kt _ m3.2.1).1, (kt _ m3.2.1).2, (kt _ m4.2.1).1, (kt _ m4.2.1).2]
    rw [hx _ 0 (by omega) (by omega) (by omega), hx _ 1 (by omega) (by omega) (by omega), hx _ 2 (by omega) (by omega) (by omega), hx _ 3 (by omega) (by omega) (by omega), hx _ 5 (by omega) (by omega) (by omega), hx _ 6 (by omega) (by omega) (by omega)]
    refine ⟨⟨m0.fr h1 (fun _ _ => rfl), m1.fr h1 (fun _ _ => rfl), m2.fr h1 (fun _ _ => rfl), m3.fr h1 (fun _ _ => rfl), m4.fr h1 (fun _ _ => rfl)⟩, ⟨a0, a1, a2, a3, a4, a5, a6⟩, ?_, ⟨g1, g2, g3, g4, g5, g6, g7, g8⟩, fun j hj => ?_⟩
    · obtain ⟨e1, e2, e3⟩ := hp
      rw [e1, e2]
      rcases e3 with ⟨rfl, rfl⟩ | ⟨rfl, rfl⟩
      · exact Or.inl ⟨rfl, rfl⟩
      · exact Or.inr ⟨rfl, rfl⟩
    · obtain ⟨b1, b2⟩ := bb j hj
      rw [hx _ j (by omega) (by omega) (by omega)]
      refine ⟨b1, fun w => ?_⟩
      obtain ⟨bo, bv⟩ := b2 w
      have n0 : ∀ k, zct H' (B a j) k = zct H (B a j) k := fun k => hx _ _ (bo.1.ne m2 (Or.inl (by omega))) (bo.1.ne m3 (Or.inl (by omega))) (fun e => bo.1.ne m0 (Or.inl (by omega)) e.1)
      have n1 : ∀ k, zct H' (B a j + 1) k = zct H (B a j + 1) k := fun k => hx _ _ (bo.2.1.ne m2 (Or.inl (by omega))) (bo.2.1.ne m3 (Or.inl (by omega))) (fun e => bo.2.1.ne m0 (Or.inl (by omega)) e.1)
      exact ⟨bo.fc h1 (n0 0) (fun _ _ => rfl), bv.fc n0 n1 rfl (fun _ _ => rfl) (fun _ _ => rfl) (fun _ _ => rfl)⟩
  · obtain ⟨e1, e2⟩ := (I.2.2.1 a ha).2 hk
    refine ⟨by rw [hx _ 4 (by omega) (by omega) (by omega)]; exact e1, fun j hj => by rw [hx _ j (by omega) (by omega) (by omega)]; exact e2 j hj⟩
end CHANGES
