/-! THE WHOLE INVARIANT -/
/-- errata told of edition e among the first things -/
def errN (s : zSg) (e : Nat) : Nat → Int
  | 0 => 0
  | n + 1 => errN s e n + if s 3 n = 7 ∧ s 4 n = (e : Int) then 1 else 0
/-- two printed bars are the same -/
def alike (s : zSg) (q r : Nat) : Bool := decide (s 29 q = s 29 r) && (List.range (s 29 q).toNat).all fun i => decide (s 26 (8 * q + i) = s 26 (8 * r + i)) && decide (s 27 (8 * q + i) = s 27 (8 * r + i)) && decide (s 28 (8 * q + i) = s 28 (8 * r + i))
def edrow (prev : Nat → Nat) (first : Nat) (c : Nat → Bool) : Nat → Nat
  | 0 => first
  | j + 1 => min (min (prev j + if c j then 0 else 1) (prev (j + 1) + 1)) (edrow prev first c j + 1)
/-- the least changes from the first i of f to the first j of g -/
def edD (c : Nat → Nat → Bool) (f g : Nat → Nat) : Nat → Nat → Nat
  | 0 => fun j => j
  | i + 1 => edrow (edD c f g i) (i + 1) (fun j => c (f i) (g j))
/-- the bars that an edition has in a voice -/
def edL (s : zSg) (e v : Nat) : List Nat := ((List.range 20).filter fun k => decide (0 ≤ s 29 (80 * e + 20 * v + k))).map fun k => 80 * e + 20 * v + k
def edV (s : zSg) (a b v : Nat) : Nat := edD (alike s) (fun i => (edL s a v).getD i 0) (fun i => (edL s b v).getD i 0) (edL s a v).length (edL s b v).length
def edist (s : zSg) (a b : Nat) : Int := ((edV s a b 0 + edV s a b 1 + edV s a b 2 + edV s a b 3 : Nat) : Int)
def EO (H : zHp) (s : zSg) (A : Nat → Nat) (n t : Nat) : Prop := s 3 t = 4 → zct H (A t) 4 = errN s t n ∧ ∀ j, j < t → zct H (A t + 4) j = -1 ∨ zct H (A t + 4) j = edist s t j
/-- what a note's numbers are -/
def NR (lo hi p l t : Int) : Prop := ((p = -1000 ∧ t = 0) ∨ (lo ≤ p ∧ p ≤ hi)) ∧ 1 ≤ l ∧ l ≤ 12 ∧ (t = 0 ∨ t = 1)
def BI (s : zSg) (q : Nat) (me : Int) : Prop := (0 ≤ s 13 q ∧ s 13 q ≤ 8) ∧ (∀ i : Nat, (i : Int) < s 13 q → NR 1 60 (s 10 (8 * q + i)) (s 11 (8 * q + i)) (s 12 (8 * q + i))) ∧ zsum (sh (s 11) (8 * q)) (s 13 q).toNat ≤ me ∧ (zsum (sh (s 11) (8 * q)) (s 13 q).toNat < me → s 13 q ≤ 7)
def SIs (s : zSg) (t : Nat) : Prop := (2 ≤ s 5 t ∧ s 5 t ≤ 12) ∧ (1 ≤ s 6 t ∧ s 6 t ≤ 4) ∧ (0 ≤ s 7 t ∧ s 7 t < s 0 8) ∧ (s 3 t = 1 → s 4 t = (t : Int)) ∧ (s 3 t = 6 → 0 ≤ s 4 t ∧ s 4 t < (t : Int) ∧ s 3 (s 4 t).toNat = 1) ∧
  ∀ v, v < 4 → (0 ≤ s 14 (4 * t + v) ∧ s 14 (4 * t + v) ≤ 20) ∧ (s 6 t ≤ (v : Int) → s 14 (4 * t + v) = 0) ∧ ∀ b : Nat, (b : Int) < s 14 (4 * t + v) → BI s (80 * t + 20 * v + b) (s 5 t) ∧ ((b : Int) + 1 < s 14 (4 * t + v) → zsum (sh (s 11) (8 * (80 * t + 20 * v + b))) (s 13 (80 * t + 20 * v + b)).toNat = s 5 t)
def SIp (s : zSg) (t : Nat) : Prop := (0 ≤ s 4 t ∧ s 4 t < (t : Int)) ∧ (s 3 (s 4 t).toNat = 1 ∨ s 3 (s 4 t).toNat = 6) ∧ (0 ≤ s 5 t ∧ s 5 t < s 6 (s 4 t).toNat) ∧ (-12 ≤ s 6 t ∧ s 6 t ≤ 12) ∧ 0 ≤ s 64 t ∧ s 64 t ≤ 5
def SIl (s : zSg) (t : Nat) : Prop := (0 ≤ s 4 t ∧ s 4 t < (t : Int)) ∧ (s 3 (s 4 t).toNat = 2 ∨ s 3 (s 4 t).toNat = 5) ∧ 0 ≤ s 5 t ∧ (1 ≤ s 6 t ∧ s 6 t ≤ 8) ∧ s 5 t + s 6 t ≤ 20 ∧
  (∀ b : Nat, (b : Int) < s 5 t + s 6 t → (b : Int) < s 14 (4 * (s 4 (s 4 t).toNat).toNat + (s 5 (s 4 t).toNat).toNat) ∧ zsum (sh (s 11) (8 * (80 * (s 4 (s 4 t).toNat).toNat + 20 * (s 5 (s 4 t).toNat).toNat + b))) (s 13 (80 * (s 4 (s 4 t).toNat).toNat + 20 * (s 5 (s 4 t).toNat).toNat + b)).toNat = s 5 (s 4 (s 4 t).toNat).toNat) ∧
  (∀ k : Nat, (k : Int) < s 6 t → (1 ≤ s 23 (8 * t + k) ∧ s 23 (8 * t + k) ≤ 8) ∧ ∀ i : Nat, (i : Int) < s 23 (8 * t + k) → NR (-11) 72 (s 20 (64 * t + 8 * k + i)) (s 21 (64 * t + 8 * k + i)) (s 22 (64 * t + 8 * k + i))) ∧
  ∀ k, k < 4 → -1 ≤ s 75 (4 * t + k) ∧ s 75 (4 * t + k) < 2 ^ (s 6 t).toNat
def SIe (s : zSg) (t : Nat) : Prop := (0 ≤ s 4 t ∧ s 4 t < (t : Int)) ∧ (s 3 (s 4 t).toNat = 1 ∨ s 3 (s 4 t).toNat = 6) ∧ (1 ≤ s 5 t ∧ s 5 t ≤ 12) ∧ ∀ j, j < 80 → (-1 ≤ s 29 (80 * t + j) ∧ s 29 (80 * t + j) ≤ 8) ∧ ∀ i : Nat, (i : Int) < s 29 (80 * t + j) → NR (-23) 84 (s 26 (8 * (80 * t + j) + i)) (s 27 (8 * (80 * t + j) + i)) (s 28 (8 * (80 * t + j) + i))
def SIr (s : zSg) (t : Nat) : Prop := (0 ≤ s 4 t ∧ s 4 t < (t : Int)) ∧ s 3 (s 4 t).toNat = 4 ∧ (0 ≤ s 5 t ∧ s 5 t ≤ 3) ∧ (0 ≤ s 6 t ∧ s 6 t ≤ 19) ∧ (0 ≤ s 32 t ∧ s 32 t ≤ 7) ∧ (1 ≤ s 30 t ∧ s 30 t ≤ 60) ∧ 1 ≤ s 31 t ∧ s 31 t ≤ 60
def SIt (s : zSg) (t : Nat) : Prop := (1 ≤ s 3 t ∧ s 3 t ≤ 7) ∧ (s 3 t = 1 ∨ s 3 t = 6 → SIs s t) ∧ (s 3 t = 2 ∨ s 3 t = 5 → SIp s t) ∧ (s 3 t = 3 → SIl s t) ∧ (s 3 t = 4 → SIe s t) ∧ (s 3 t = 7 → SIr s t)
/-- what is not begun yet -/
def SIn (s : zSg) (t : Nat) : Prop := (∀ v, v < 4 → s 14 (4 * t + v) = 0 ∧ s 75 (4 * t + v) = -1) ∧ (∀ j, j < 80 → s 29 (80 * t + j) = -1) ∧ s 64 t = 0
def SI (s : zSg) : Prop := (∀ t : Nat, (t : Int) < s 0 2 → SIt s t) ∧ (∀ t : Nat, s 0 2 ≤ (t : Int) → t < 60 → SIn s t) ∧ (∀ t : Nat, (t : Int) < s 0 2 → (s 3 t ≠ 4 → ∀ j, j < 80 → s 29 (80 * t + j) = -1) ∧ (s 3 t ≠ 1 → s 3 t ≠ 6 → ∀ v, v < 4 → s 14 (4 * t + v) = 0)) ∧ ∀ k : Nat, (k : Int) < s 0 24 → s 25 k < s 0 2 ∧ s 3 (s 25 k).toNat = 3
theorem CPar.fr {f : Nat → Int} {n c : Nat} {s s' : zSg} {gs : List Nat} (h : CPar f n s c) (hs : zfs gs s s') (hg : gs.contains 4 = false) : CPar f n s' c := h.eq fun k h1 h2 => funext fun j => hs k j (by
  have : ∀ k : Fin 10, rgs.getD (47 + k.val) 99 = 4 := by decide
  have e := this ⟨k - 47, by omega⟩
  rw [show 47 + (k - 47) = k by omega] at e
  unfold rg
  rw [if_neg (by omega), e]
  exact hg)
def CO (X : Nat) (H : zHp) (s : zSg) (K : Nat → Nat) (ow : Nat → Nat × Nat) (c : Nat) : Prop := (My X H ow (K c) (1000 + c) 0 ∧ My X H ow (K c + 1) (1000 + c) 1) ∧ (ztg H (K c) = 2 ∧ zct H (K c) 0 = s 45 c ∧ zct H (K c) 1 = s 46 c ∧ zct H (K c) 2 = ((K c + 1 : Nat) : Int) ∧ zct H (K c) 5 = s 47 c ∧ zct H (K c) 6 = s 48 c ∧ zct H (K c) 7 = s 49 c) ∧ (ztg H (K c + 1) = 30 ∧ zln H (K c + 1) ≤ 120) ∧ ((0 ≤ s 45 c ∧ s 45 c ≤ 3) ∧ (0 ≤ s 46 c ∧ s 46 c ≤ 9999) ∧ (0 ≤ s 47 c ∧ s 47 c ≤ 999) ∧ 0 ≤ s 48 c ∧ s 48 c ≤ 999) ∧ CPar (zct H (K c + 1)) (zln H (K c + 1)) s c
theorem CO.fr {X c : Nat} {H H' : zHp} {s s' : zSg} {K : Nat → Nat} {ow ow' : Nat → Nat × Nat} {gs : List Nat} (h : CO X H s K ow c) (hs : zfs gs s s') (hg : gs.contains 4 = false) (hn : zst H H') (hA : zown ow (1000 + c) H H') (hw : ∀ a, a ≤ znx H → ow' a = ow a) : CO X H' s' K ow' c := by
  obtain ⟨⟨m0, m1⟩, q, ⟨w1, w2⟩, r, p⟩ := h
  have e : zct H' (K c + 1) = zct H (K c + 1) := funext fun k => m1.ct hA k
  unfold CO
  rw [hs 45 c hg, hs 46 c hg, hs 47 c hg, hs 48 c hg, hs 49 c hg, e]
  simp only [m0.ct hA, (hn.2.2 _ m0.2.1).1, (hn.2.2 _ m1.2.1).1, (hn.2.2 _ m1.2.1).2]
  exact ⟨⟨m0.fr hn hw, m1.fr hn hw⟩, q, ⟨w1, w2⟩, r, p.fr hs hg⟩
def G4 (c : Nat → Nat → Int) (s : zSg) (K : Nat → Nat) : Prop := c 0 12 = s 0 44 ∧ 0 ≤ s 0 44 ∧ s 0 44 ≤ 12 ∧ ∀ k : Nat, (k : Int) < s 0 44 → c 11 k = ((K k : Nat) : Int)
def IV (X : Nat) (H : zHp) (s : zSg) (A : Nat → Nat) (B : Nat → Nat → Nat) (K : Nat → Nat) (ow : Nat → Nat × Nat) : Prop :=
  IFx X H ∧ (G1 (zcx X H) s ∧ G2 (zcx X H) s A ∧ G3 (zcx X H) s ∧ G4 (zcx X H) s K ∧ G5 (zcx X H) s ∧ G6 (zcx X H) s ∧ G7 (zcx X H) s ∧ G8 (zcx X H) s ∧ G9 (zcx X H) s ∧ G10 (zcx X H) s A) ∧
  (∀ t : Nat, (t : Int) < s 0 2 → TO X H s A B ow t ∧ EO H s A (s 0 2).toNat t) ∧ (∀ c : Nat, (c : Int) < s 0 44 → CO X H s K ow c) ∧ SI s ∧ ∀ a, a ≤ X + 99 → (ow a).1 = 0
/-- a row of the reference in a group that stands is the same -/
theorem SI.fr {s s' : zSg} {gs : List Nat} (h : SI s) (hs : zfs gs s s') (hg : gs.contains 10 = false) (h2 : gs.contains 2 = false) (h8 : s 0 8 ≤ s' 0 8) : SI s' := by
  have e3 : s' 3 = s 3 := funext fun j => hs 3 j hg
  have e4 : s' 4 = s 4 := funext fun j => hs 4 j hg
  have e5 : s' 5 = s 5 := funext fun j => hs 5 j hg
  have e6 : s' 6 = s 6 := funext fun j => hs 6 j hg
  have e7 : s' 7 = s 7 := funext fun j => hs 7 j hg
  have e10 : s' 10 = s 10 := funext fun j => hs 10 j hg
  have e11 : s' 11 = s 11 := funext fun j => hs 11 j hg
  have e12 : s' 12 = s 12 := funext fun j => hs 12 j hg
  have e13 : s' 13 = s 13 := funext fun j => hs 13 j hg
  have e14 : s' 14 = s 14 := funext fun j => hs 14 j hg
  have e20 : s' 20 = s 20 := funext fun j => hs 20 j hg
  have e21 : s' 21 = s 21 := funext fun j => hs 21 j hg
  have e22 : s' 22 = s 22 := funext fun j => hs 22 j hg
  have e23 : s' 23 = s 23 := funext fun j => hs 23 j hg
  have e26 : s' 26 = s 26 := funext fun j => hs 26 j hg
  have e27 : s' 27 = s 27 := funext fun j => hs 27 j hg
  have e28 : s' 28 = s 28 := funext fun j => hs 28 j hg
  have e29 : s' 29 = s 29 := funext fun j => hs 29 j hg
  have e30 : s' 30 = s 30 := funext fun j => hs 30 j hg
  have e31 : s' 31 = s 31 := funext fun j => hs 31 j hg
  have e32 : s' 32 = s 32 := funext fun j => hs 32 j hg
  have e64 : s' 64 = s 64 := funext fun j => hs 64 j hg
  have e75 : s' 75 = s 75 := funext fun j => hs 75 j hg
  have e25 : s' 25 = s 25 := funext fun j => hs 25 j h2
  have n2 : s' 0 2 = s 0 2 := hs 0 2 hg
  have n24 : s' 0 24 = s 0 24 := hs 0 24 h2
  obtain ⟨k1, k2, k3, k4⟩ := h
  unfold SI
  rw [n2, n24]
  refine ⟨fun t ht => ?_, ?_, ?_, ?_⟩
  · obtain ⟨q0, q1, q2, q3, q4, q5⟩ := k1 t ht
    unfold SIt SIs SIp SIl SIe SIr BI
    rw [e3, e4, e5, e6, e7, e10, e11, e12, e13, e14, e20, e21, e22, e23, e26, e27, e28, e29, e30, e31, e32, e64, e75]
    refine ⟨q0, fun w => ?_, q2, q3, q4, q5⟩
    obtain ⟨r1, r2, r3, r4, r5, r6⟩ := q1 w
    exact ⟨r1, r2, ⟨r3.1, by omega⟩, r4, r5, r6⟩
  · unfold SIn
    rw [e14, e75, e29, e64]
    exact k2
  · rw [e3, e29, e14]
    exact k3
  · rw [e3, e25]
    exact k4
theorem errN_eq {s s' : zSg} {e : Nat} : ∀ n, (∀ i, i < n → s' 3 i = s 3 i ∧ s' 4 i = s 4 i) → errN s' e n = errN s e n
  | 0, _ => rfl
  | n + 1, h => by
    show errN s' e n + _ = errN s e n + _
    rw [errN_eq n (fun i hi => h i (by omega)), (h n (by omega)).1, (h n (by omega)).2]
theorem edist_eq {s s' : zSg} {a b : Nat} (h26 : s' 26 = s 26) (h27 : s' 27 = s 27) (h28 : s' 28 = s 28) (h29 : s' 29 = s 29) : edist s' a b = edist s a b := by
  unfold edist edV edL alike
  rw [h26, h27, h28, h29]
/-- the invariant stands over a change of some groups alone -/
theorem IV.fr {X : Nat} {H H' : zHp} {s s' : zSg} {A : Nat → Nat} {B : Nat → Nat → Nat} {K : Nat → Nat} {ow : Nat → Nat × Nat} {gs : List Nat} (I : IV X H s A B K ow) (h1 : zst H H') (h2 : zfx X gs H H') (h3 : zfd X (fun a => a ≤ X + 99) H H') (h4 : zfs gs s s')
    (h0 : gs.contains 0 = false) (hg4 : gs.contains 4 = false) (hg10 : gs.contains 10 = false) (hg2 : gs.contains 2 = false) (h8 : s 0 8 ≤ s' 0 8)
    (g1 : gs.contains 1 = false ∨ G1 (zcx X H') s') (g3 : gs.contains 3 = false ∨ G3 (zcx X H') s') (g5 : gs.contains 5 = false ∨ G5 (zcx X H') s') (g6 : gs.contains 6 = false ∨ G6 (zcx X H') s') (g7 : gs.contains 7 = false ∨ G7 (zcx X H') s') (g8 : gs.contains 8 = false ∨ G8 (zcx X H') s') (g9 : gs.contains 9 = false ∨ G9 (zcx X H') s') : IV X H' s' A B K ow := by
  obtain ⟨F, ⟨k1, k2, k3, k4, k5, k6, k7, k8, k9, k10⟩, kt, kc, ks, ko⟩ := I
  have hc : zfc gs (zcx X H) (zcx X H') := fun o k a b => h2 o k a b
  have n2 : s' 0 2 = s 0 2 := h4 0 2 hg10
  have n44 : s' 0 44 = s 0 44 := h4 0 44 hg4
  have how : ∀ o, o ≠ 0 → zown ow o H H' := fun o ho a ha hb k => by
    have hx : ¬ a ≤ X + 99 := fun q => ho (by rw [← hb]; exact ko a q)
    exact h3 a (Or.inr (by omega)) ha hx k
  refine ⟨F.fr h1 h2 h0, ⟨?_, k2.fr hc h4 hg2 (fun _ _ => rfl), ?_, ?_, ?_, ?_, ?_, ?_, ?_, k10.fr hc h4 hg10⟩, fun t ht => ?_, fun c hcn => ?_, ks.fr h4 hg10 hg2 h8, ko⟩
  · rcases g1 with g | g
    · exact k1.fr hc h4 g
    · exact g
  · rcases g3 with g | g
    · exact k3.fr hc h4 g
    · exact g
  · obtain ⟨a1, a2, a3, a4⟩ := k4
    unfold G4
    rw [hc 0 12 (by omega) hg4, n44]
    exact ⟨a1, a2, a3, fun k hk => by rw [hc 11 k (by omega) hg4]; exact a4 k hk⟩
  · rcases g5 with g | g
    · exact k5.fr hc h4 g
    · exact g
  · rcases g6 with g | g
    · exact k6.fr hc h4 g
    · exact g
  · rcases g7 with g | g
    · exact k7.fr hc h4 g
    · exact g
  · rcases g8 with g | g
    · exact k8.fr hc h4 g
    · exact g
  · rcases g9 with g | g
    · exact k9.fr hc h4 g
    · exact g
  · rw [n2] at ht ⊢
    obtain ⟨to, eo⟩ := kt t ht
    have hz : zts t s s' := zts.of h4 hg10
    have st := ks.1 t ht
    refine ⟨to.fr hz h1 (how _ (by omega)) (fun _ _ => rfl) rfl rfl (fun _ => rfl) (fun w v hv => ((st.2.1 w).2.2.2.2.2 v hv).1.2) (fun w => (st.2.2.2.1 w).2.2.2.1.2), fun w => ?_⟩
    rw [hz.1 3 (by simp)] at w
    obtain ⟨e1, e2⟩ := eo w
    obtain ⟨⟨m0, -, -, -, m4⟩, -⟩ := to.2.2.2.1 w
    refine ⟨?_, fun j hj => ?_⟩
    · rw [m0.ct (how _ (by omega)), e1]
      exact (errN_eq _ fun i _ => ⟨h4 3 i hg10, h4 4 i hg10⟩).symm
    · rw [m4.ct (how _ (by omega)), edist_eq (funext fun j => h4 26 j hg10) (funext fun j => h4 27 j hg10) (funext fun j => h4 28 j hg10) (funext fun j => h4 29 j hg10)]
      exact e2 j hj
  · rw [n44] at hcn
    exact (kc c hcn).fr h4 hg4 h1 (how _ (by omega)) (fun _ _ => rfl)
/-- what a call of both comes to: nothing but growth in the class's memory, the reference's rows as they were, the invariant -/
def KD (X : Nat) (H H' : zHp) (s' : zSg) : Prop := zst H H' ∧ znx H' ≤ znx H + 300 ∧ zus H' ≤ zus H + 4000 ∧ (∀ a, (a < X ∨ X + 36 < a) → a ≤ X + 99 → ∀ k, zct H' a k = zct H a k) ∧ ∃ A B K ow, IV X H' s' A B K ow
section KD
variable {X : Nat} {H H' : zHp} {s s' : zSg} {A : Nat → Nat} {B : Nat → Nat → Nat} {K : Nat → Nat} {ow : Nat → Nat × Nat} {gs : List Nat}
theorem KD.rf (I : IV X H s A B K ow) : KD X H H s := ⟨zst.rf, by omega, by omega, fun _ _ _ _ => rfl, A, B, K, ow, I⟩
theorem KD.fx (I : IV X H s A B K ow) (h1 : zst H H') (hx : znx H' = znx H) (hu : zus H' = zus H) (h2 : zfx X gs H H') (h3 : zfd X (fun _ => False) H H') (h4 : zfs gs s s')
    (h0 : gs.contains 0 = false) (hg4 : gs.contains 4 = false) (hg10 : gs.contains 10 = false) (hg2 : gs.contains 2 = false) (h8 : s 0 8 ≤ s' 0 8)
    (g1 : gs.contains 1 = false ∨ G1 (zcx X H') s') (g3 : gs.contains 3 = false ∨ G3 (zcx X H') s') (g5 : gs.contains 5 = false ∨ G5 (zcx X H') s') (g6 : gs.contains 6 = false ∨ G6 (zcx X H') s') (g7 : gs.contains 7 = false ∨ G7 (zcx X H') s') (g8 : gs.contains 8 = false ∨ G8 (zcx X H') s') (g9 : gs.contains 9 = false ∨ G9 (zcx X H') s') : KD X H H' s' :=
  ⟨h1, by omega, by omega, fun a h5 h6 k => h3 a h5 (by have := I.1.2.1.1; omega) (fun q => q) k, A, B, K, ow, I.fr h1 h2 (fun a h5 h6 _ k => h3 a h5 h6 (fun q => q) k) h4 h0 hg4 hg10 hg2 h8 g1 g3 g5 g6 g7 g8 g9⟩
end KD
