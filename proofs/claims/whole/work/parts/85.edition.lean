/-! A NEW EDITION, bar by bar -/
theorem IV.g2 {X : Nat} {H H' : zHp} {s s' : zSg} {A : Nat → Nat} {B : Nat → Nat → Nat} {K : Nat → Nat} {ow : Nat → Nat × Nat} (I : IV X H s A B K ow) (h1 : zst H H') (h2 : zfx X [2] H H') (h3 : zfd X (fun _ => False) H H') (h4 : zfs [2] s s') (g2 : G2 (zcx X H') s' A) (si : SI s') : IV X H' s' A B K ow := by
  obtain ⟨F, ⟨k1, k2, k3, k4, k5, k6, k7, k8, k9, k10⟩, kt, kc, ks, ko⟩ := I
  have hc : zfc [2] (zcx X H) (zcx X H') := fun o k a b => h2 o k a b
  have n2 : s' 0 2 = s 0 2 := h4 0 2 rfl
  have n44 : s' 0 44 = s 0 44 := h4 0 44 rfl
  have how : ∀ o, o ≠ 0 → zown ow o H H' := fun o ho a ha hb k => by
    have hx : ¬ a ≤ X + 99 := fun q => ho (by rw [← hb]; exact ko a q)
    exact h3 a (Or.inr (by omega)) ha (fun q => q) k
  refine ⟨F.fr h1 h2 rfl, ⟨k1.fr hc h4 rfl, g2, k3.fr hc h4 rfl, ?_, k5.fr hc h4 rfl, k6.fr hc h4 rfl, k7.fr hc h4 rfl, k8.fr hc h4 rfl, k9.fr hc h4 rfl, k10.fr hc h4 rfl⟩, fun t ht => ?_, fun c hcn => ?_, si, ko⟩
  · obtain ⟨a1, a2, a3, a4⟩ := k4
    unfold G4
    rw [hc 0 12 (by omega) rfl, n44]
    exact ⟨a1, a2, a3, fun k hk => by rw [hc 11 k (by omega) rfl]; exact a4 k hk⟩
  · rw [n2] at ht ⊢
    obtain ⟨to, eo⟩ := kt t ht
    have hz : zts t s s' := zts.of h4 rfl
    have st := ks.1 t ht
    refine ⟨to.fr hz h1 (how _ (by omega)) (fun _ _ => rfl) rfl rfl (fun _ => rfl) (fun w v hv => ((st.2.1 w).2.2.2.2.2 v hv).1.2) (fun w => (st.2.2.2.1 w).2.2.2.1.2), fun w => ?_⟩
    rw [hz.1 3 (by simp)] at w
    obtain ⟨e1, e2⟩ := eo w
    obtain ⟨⟨m0, -, -, -, m4⟩, -⟩ := to.2.2.2.1 w
    refine ⟨?_, fun j hj => ?_⟩
    · rw [m0.ct (how _ (by omega)), e1]
      exact (errN_eq _ fun i _ => ⟨h4 3 i rfl, h4 4 i rfl⟩).symm
    · rw [m4.ct (how _ (by omega)), edist_eq (funext fun j => h4 26 j rfl) (funext fun j => h4 27 j rfl) (funext fun j => h4 28 j rfl) (funext fun j => h4 29 j rfl)]
      exact e2 j hj
  · rw [n44] at hcn
    exact (kc c hcn).fr h4 rfl h1 (how _ (by omega)) (fun _ _ => rfl)
def CPe (s s1 : zSg) (src dst i : Nat) (d : Int) : Prop := (∀ r, r ≠ 26 → r ≠ 27 → r ≠ 28 → s1 r = s r) ∧ ∀ j, s1 26 j = (if dst ≤ j ∧ j < dst + i then (fun q => rpit (s 20 (src + q)) d) (j - dst) else s 26 j) ∧ s1 27 j = (if dst ≤ j ∧ j < dst + i then (fun q => s 21 (src + q)) (j - dst) else s 27 j) ∧ s1 28 j = (if dst ≤ j ∧ j < dst + i then (fun q => s 22 (src + q)) (j - dst) else s 28 j)
set_option maxRecDepth 100000 in
theorem m_ce_l {s : zSg} {m t b q : Nat} {tr : Int} (ht : t < 60) (hb : b < 8) (hq : q < 4800) (hm : s 29 q = (m : Int)) (m8 : m ≤ 8) (htr : -12 ≤ tr ∧ tr ≤ 12) (nr : ∀ i, i < m → NR (-11) 72 (s 20 (64 * t + 8 * b + i)) (s 21 (64 * t + 8 * b + i)) (s 22 (64 * t + 8 * b + i))) {x y : Int} :
    ∀ (d f i : Nat) (s1 : zSg), m - i = d → d < f → i ≤ m → CPe s s1 (64 * t + 8 * b) (8 * q) i (-tr) → ∃ s', (∀ Q, gM_edition_l5 f x y (t : Int) tr (b : Int) (q : Int) (i : Int) s1 Q = Q x y (t : Int) tr (b : Int) s') ∧ CPe s s' (64 * t + 8 * b) (8 * q) m (-tr) := by
  intro d
  induction d with
  | zero =>
    intro f i s1 h1 h2 h3 c
    obtain ⟨f, rfl⟩ : ∃ f', f = f' + 1 := ⟨f - 1, by omega⟩
    obtain rfl : i = m := by omega
    refine ⟨s1, fun Q => ?_, c⟩
    have e29 : s1 29 q = (i : Int) := by rw [c.1 29 (by omega) (by omega) (by omega)]; exact hm
    rw [gM_edition_l5]
    simp only [yjn, yrd_n hq, e29]
    rw [if_neg (by omega)]
  | succ d ih =>
    intro f i s1 h1 h2 h3 c
    obtain ⟨f, rfl⟩ : ∃ f', f = f' + 1 := ⟨f - 1, by omega⟩
    have e29 : s1 29 q = (m : Int) := by rw [c.1 29 (by omega) (by omega) (by omega)]; exact hm
    have e20 : s1 20 = s 20 := c.1 20 (by omega) (by omega) (by omega)
    have e21 : s1 21 = s 21 := c.1 21 (by omega) (by omega) (by omega)
    have e22 : s1 22 = s 22 := c.1 22 (by omega) (by omega) (by omega)
    have e2 : zadd (zadd (zmul 64 (t : Int)) (zmul 8 (b : Int))) (i : Int) = ((64 * t + 8 * b + i : Nat) : Int) := by
      rw [zmul_e (by omega) (by omega), zmul_e (by omega) (by omega), zadd_e (x := 64 * (t : Int)) (by omega) (by omega), zadd_e (by omega) (by omega)]; omega
    have e3 : zadd (i : Int) 1 = ((i + 1 : Nat) : Int) := by rw [zadd_e (by omega) (by omega)]; omega
    have e4 : zadd (zmul 8 (q : Int)) (i : Int) = ((8 * q + i : Nat) : Int) := by rw [zmul_e (by omega) (by omega), zadd_e (by omega) (by omega)]; omega
    have b38 : 64 * t + 8 * b + i < 3840 := by omega
    have bq : 8 * q + i < 38400 := by omega
    have ni := nr i (by omega)
    generalize hp : 8 * q + i = p at *
    generalize hu : 64 * t + 8 * b + i = u at *
    obtain ⟨c1, c2⟩ := c
    have er : ∀ Q, gM_edition_l5 (f + 1) x y (t : Int) tr (b : Int) (q : Int) (i : Int) s1 Q = gM_edition_l5 f x y (t : Int) tr (b : Int) (q : Int) ((i + 1 : Nat) : Int) (zup (zup (zup s1 26 p (rpit (s 20 u) (-tr))) 27 p (s 21 u)) 28 p (s 22 u)) Q := fun Q => by
      have z1 : ∀ v, zup s1 26 p v 21 = s 21 := fun v => e21
      have z2 : ∀ v w, zup (zup s1 26 p v) 27 p w 22 = s 22 := fun v w => e22
      rw [gM_edition_l5]
      simp only [yjn, yvl, yrd_n hq, e29, e2, yrd_n b38, e20, e4, ywi_n bq, e3, z1, z2]
      rw [if_pos (by omega)]
      unfold rpit
      by_cases g : s 20 u = -1000
      · rw [if_pos g, if_pos g]
      · rw [if_neg g, if_neg g, zsub_e (by have := ni.1; omega) (by have := ni.1; omega), Int.sub_eq_add_neg]
    obtain ⟨s', q1, q2⟩ := ih f (i + 1) (zup (zup (zup s1 26 p (rpit (s 20 u) (-tr))) 27 p (s 21 u)) 28 p (s 22 u)) (by omega) (by omega) (by omega) (by
      refine ⟨fun r r1 r2 r3 => ?_, fun j => ?_⟩
      · rw [zup_o r3, zup_o r2, zup_o r1]; exact c1 r r1 r2 r3
      · obtain ⟨d1, d2, d3⟩ := c2 j
        have f1 : zup (zup (zup s1 26 p (rpit (s 20 u) (-tr))) 27 p (s 21 u)) 28 p (s 22 u) 26 j = if j = p then rpit (s 20 u) (-tr) else s1 26 j := by rw [zup_o (by omega), zup_o (by omega), zup_r]
        have f2 : zup (zup (zup s1 26 p (rpit (s 20 u) (-tr))) 27 p (s 21 u)) 28 p (s 22 u) 27 j = if j = p then s 21 u else s1 27 j := by rw [zup_o (by omega), zup_r, zup_o (by omega)]
        have f3 : zup (zup (zup s1 26 p (rpit (s 20 u) (-tr))) 27 p (s 21 u)) 28 p (s 22 u) 28 j = if j = p then s 22 u else s1 28 j := by rw [zup_r, zup_o (by omega), zup_o (by omega)]
        rw [f1, f2, f3, d1, d2, d3, ← hu]
        exact ⟨ite_up (i := i) (f := fun q => rpit (s 20 (64 * t + 8 * b + q)) (-tr)) p hp.symm, ite_up (i := i) (f := fun q => s 21 (64 * t + 8 * b + q)) p hp.symm, ite_up (i := i) (f := fun q => s 22 (64 * t + 8 * b + q)) p hp.symm⟩)
    exact ⟨s', fun Q => (er Q).trans (q1 Q), q2⟩
section EDITION
variable {X : Nat} {s : zSg} {A : Nat → Nat} {B : Nat → Nat → Nat} {K : Nat → Nat} {n N0 : Nat}
def ERf (s sA : zSg) (n : Nat) (sc pc : Int) : Prop := (∀ r, r ≠ 0 → r ≠ 3 → r ≠ 4 → r ≠ 5 → r ≠ 6 → r ≠ 26 → r ≠ 27 → r ≠ 28 → r ≠ 29 → sA r = s r) ∧ (∀ j, j ≠ 2 → sA 0 j = s 0 j) ∧ (∀ u, u ≠ n → sA 3 u = s 3 u ∧ sA 4 u = s 4 u ∧ sA 5 u = s 5 u ∧ sA 6 u = s 6 u) ∧
  (∀ j, j / 80 ≠ n → sA 29 j = s 29 j) ∧ (∀ j, j / 640 ≠ n → sA 26 j = s 26 j ∧ sA 27 j = s 27 j ∧ sA 28 j = s 28 j) ∧ sA 3 n = 4 ∧ sA 4 n = sc ∧ sA 5 n = pc ∧ sA 0 2 = ((n + 1 : Nat) : Int)
def EB (X : Nat) (H : zHp) (sA : zSg) (ow : Nat → Nat × Nat) (Bn : Nat → Nat) (n N0 : Nat) : Prop := ∀ j, j < 80 → zct H (N0 + 2) j = (if sA 29 (80 * n + j) < 0 then 0 else ((Bn j : Nat) : Int)) ∧ (0 ≤ sA 29 (80 * n + j) → BarO X H ow (Bn j) (n + 1) j ∧ BarV H (Bn j) (sA 29 (80 * n + j)) (sh (sA 26) (8 * (80 * n + j))) (sh (sA 27) (8 * (80 * n + j))) (sh (sA 28) (8 * (80 * n + j)))) ∧
  (-1 ≤ sA 29 (80 * n + j) ∧ sA 29 (80 * n + j) ≤ 8) ∧ ∀ i : Nat, (i : Int) < sA 29 (80 * n + j) → NR (-23) 84 (sA 26 (8 * (80 * n + j) + i)) (sA 27 (8 * (80 * n + j) + i)) (sA 28 (8 * (80 * n + j) + i))
def EHp (X : Nat) (H0 H : zHp) (ow0 ow : Nat → Nat × Nat) (n N0 Sc : Nat) (pc : Int) (c : Nat) : Prop := zst H0 H ∧ (N0 + 5 ≤ znx H ∧ znx H ≤ N0 + 5 + 2 * c) ∧ zus H ≤ zus H0 + 200 + 11 * c ∧ (∀ q, q ≤ X + 99 → ∀ j, zct H q j = zct H0 q j) ∧
  (ztg H (N0 + 1) = 3 ∧ ztg H (N0 + 2) = 36 ∧ zln H (N0 + 2) = 80 ∧ ztg H (N0 + 3) = 30 ∧ zln H (N0 + 3) = 21 ∧ ztg H (N0 + 4) = 30 ∧ zln H (N0 + 4) = 21 ∧ ztg H (N0 + 5) = 30 ∧ zln H (N0 + 5) = n) ∧
  (zct H (N0 + 1) 0 = 4 ∧ zct H (N0 + 1) 1 = (n : Int) ∧ zct H (N0 + 1) 2 = (Sc : Int) ∧ zct H (N0 + 1) 3 = pc ∧ zct H (N0 + 1) 4 = 0 ∧ zct H (N0 + 1) 5 = ((N0 + 2 : Nat) : Int) ∧ zct H (N0 + 1) 6 = ((N0 + 5 : Nat) : Int) ∧ zct H (N0 + 1) 7 = ((N0 + 3 : Nat) : Int) ∧ zct H (N0 + 1) 8 = ((N0 + 4 : Nat) : Int)) ∧
  (∀ j, j < n → zct H (N0 + 5) j = -1) ∧ (∀ i, i < 5 → ow (N0 + 1 + i) = (n + 1, i)) ∧ ∀ q, q ≤ N0 → ow q = ow0 q
theorem ed_bar {H0 H1 : zHp} {sA : zSg} {ow0 ow : Nat → Nat × Nat} {Bn : Nat → Nat} {Sc c : Nat} {pc : Int} (I : IV X H1 s A B K ow) (hn : s 0 2 = (n : Int)) (h59 : n ≤ 59) (hX : X + 99 ≤ N0) (eh : EHp X H0 H1 ow0 ow n N0 Sc pc c) (eb : EB X H1 sA ow Bn n N0) {j : Nat} (hj : j < 80) :
    ∃ (HB : zHp) (ow2 : Nat → Nat × Nat) (Bn2 : Nat → Nat) (z : Nat), Bn2 j = z ∧ ((zct H1 (N0 + 2) j = 0 ∧ z = znx H1 + 1 ∧ ∃ HN, fBar_init z (zal H1 1 3 fun _ => 0) = some ((), HN) ∧ ztg HN (N0 + 2) = 36 ∧ zln HN (N0 + 2) = 80 ∧ ztg HN z = 1 ∧ zwr HN (N0 + 2) j (z : Int) = HB) ∨ (zct H1 (N0 + 2) j = (z : Int) ∧ HB = H1)) ∧ IV X HB s A B K ow2 ∧ zst H1 HB ∧ znx HB ≤ znx H1 + 2 ∧ zus HB ≤ zus H1 + 11 ∧
      (∀ q i, q ≤ znx H1 → q ≠ N0 + 2 → zct HB q i = zct H1 q i) ∧ (∀ i, zct HB (N0 + 2) i = if i = j then (z : Int) else zct H1 (N0 + 2) i) ∧ (∀ q, q ≤ znx H1 → ow2 q = ow q) ∧ (∀ i, i ≠ j → Bn2 i = Bn i) ∧ BarO X HB ow2 z (n + 1) j := by
  obtain ⟨h1, h2, h3, h4, ⟨g1, g2, g3, -⟩, ⟨-, -, -, -, -, c5, -⟩, -, o1, o2⟩ := eh
  obtain ⟨e1, e2, -, -⟩ := eb j hj
  have hjb : 0 ≤ (j : Int) ∧ (j : Int) < ((80 : Nat) : Int) := by omega
  by_cases g : sA 29 (80 * n + j) < 0
  · rw [if_pos g] at e1
    obtain ⟨z, hz⟩ : ∃ z, z = znx H1 + 1 := ⟨_, rfl⟩
    have ez : znx H1 + 1 = z := hz.symm
    have nb0 := nb_c (H := H1)
    have nb1 := nb_t1 (H := H1)
    have nb2 := nb_t2 (H := H1)
    have nb3 := nb_l2 (H := H1)
    have nbs := nb_st (H := H1)
    have nbo := fun {a k : Nat} h => nb_old (H := H1) (a := a) (k := k) h
    have nbx := nb_nx (H := H1)
    have nbu := nb_us (H := H1)
    have nbr := nb_run (H := H1)
    rw [ez] at nb0 nb1 nb2 nb3 nbr
    generalize hHN : nb H1 = HN at *
    have tN : ztg HN (N0 + 2) = 36 := by rw [(nbs.2.2 _ (by omega)).1]; exact g2
    have lN : zln HN (N0 + 2) = 80 := by rw [(nbs.2.2 _ (by omega)).2]; exact g3
    have sB1 : zst H1 (zwr HN (N0 + 2) j (z : Int)) := nbs.wr _ _ _
    have oB : ∀ q i, q ≤ znx H1 → q ≠ N0 + 2 → zct (zwr HN (N0 + 2) j (z : Int)) q i = zct H1 q i := fun q i w1 w2 => by rw [zct_wr, if_neg (fun w => w2 w.1)]; exact nbo w1
    let ow2 : Nat → Nat × Nat := fun q => if q = z then (n + 1, 10 + 2 * j) else if q = z + 1 then (n + 1, 11 + 2 * j) else ow q
    have w2 : ∀ q, q ≤ znx H1 → ow2 q = ow q := fun q hq => by
      show (if q = z then _ else if q = z + 1 then _ else ow q) = ow q
      rw [if_neg (by omega), if_neg (by omega)]
    have wz : ow2 z = (n + 1, 10 + 2 * j) := if_pos rfl
    have wz1 : ow2 (z + 1) = (n + 1, 11 + 2 * j) := by
      show (if z + 1 = z then _ else if z + 1 = z + 1 then _ else _) = _
      rw [if_neg (by omega), if_pos rfl]
    have xB : znx (zwr HN (N0 + 2) j (z : Int)) = znx H1 + 2 := nbx
    refine ⟨zwr HN (N0 + 2) j (z : Int), ow2, fun i => if i = j then z else Bn i, z, if_pos rfl, Or.inl ⟨e1, hz, HN, nbr, tN, lN, nb1, rfl⟩, I.sep (n := n) (by omega) h59 sB1 (fun q i a1 a2 => oB q i a1 (fun w => a2 (by rw [w]; exact congrArg Prod.fst (o1 1 (by omega))))) w2, sB1, by omega, ?_, oB, fun i => ?_, w2, fun i hi => if_neg hi, ⟨⟨by omega, by omega, wz⟩, ⟨by omega, by omega, wz1⟩, nb1, ?_, nb2, nb3⟩⟩
    · have : zus (zwr HN (N0 + 2) j (z : Int)) = zus H1 + 11 := nbu
      omega
    · rw [zct_wr]
      by_cases e : i = j
      · rw [if_pos ⟨rfl, e⟩, if_pos e]
      · rw [if_neg (fun w => e w.2), if_neg e]
        exact nbo (by omega)
    · rw [zct_wr, if_neg (by omega)]; exact nb0.1
  · rw [if_neg g] at e1
    obtain ⟨bo, -⟩ := e2 (by omega)
    have b0 := bo.1.1
    refine ⟨H1, ow, Bn, Bn j, rfl, Or.inr ⟨e1, rfl⟩, I, zst.rf, by omega, by omega, fun _ _ _ _ => rfl, fun i => ?_, fun _ _ => rfl, fun _ _ => rfl, bo⟩
    by_cases e : i = j
    · rw [if_pos e, e, e1]
    · rw [if_neg e]
end EDITION
