/-! A CHANGE in one thing's cells -/
theorem My.ne {X : Nat} {H : zHp} {ow : Nat → Nat × Nat} {a b o p x y : Nat} (h : My X H ow a o x) (k : My X H ow b p y) (n : x ≠ y ∨ o ≠ p) : a ≠ b := by
  rintro rfl
  have e := h.2.2.symm.trans k.2.2
  simp only [Prod.mk.injEq] at e
  omega
theorem BarO.fc {X : Nat} {H H' : zHp} {ow ow' : Nat → Nat × Nat} {b j o : Nat} (h : BarO X H ow b o j) (hn : zst H H') (h0 : zct H' b 0 = zct H b 0) (hw : ∀ a, a ≤ znx H → ow' a = ow a) : BarO X H' ow' b o j := by
  obtain ⟨m0, m1, h1, h2, h3, h4⟩ := h
  exact ⟨m0.fr hn hw, m1.fr hn hw, by rw [(hn.2.2 _ m0.2.1).1]; exact h1, by rw [h0]; exact h2, by rw [(hn.2.2 _ m1.2.1).1]; exact h3, by rw [(hn.2.2 _ m1.2.1).2]; exact h4⟩
theorem BarV.fc {H H' : zHp} {b : Nat} {m m' : Int} {P L T P' L' T' : Nat → Int} (h : BarV H b m P L T) (h0 : ∀ k, zct H' b k = zct H b k) (h1 : ∀ k, zct H' (b + 1) k = zct H (b + 1) k) (hm : m' = m) (hP : ∀ i, i < 8 → P' i = P i) (hL : ∀ i, i < 8 → L' i = L i) (hT : ∀ i, i < 8 → T' i = T i) : BarV H' b m' P' L' T' := by
  obtain ⟨a1, a2, a4, a3⟩ := h
  subst hm
  refine ⟨by rw [h0]; exact a1, ?_, a4, fun i hi => ?_⟩
  · rw [h0, a2]
    exact zsum_eq _ fun i hi => (hL i (by omega)).symm
  · rw [h1, a3 i hi, hP i (by omega), hL i (by omega), hT i (by omega)]
/-- the invariant over a change of thing t's cells and places (and of some groups) -/
theorem IV.ch {X : Nat} {H H' : zHp} {s s' : zSg} {A : Nat → Nat} {B B' : Nat → Nat → Nat} {K : Nat → Nat} {ow ow' : Nat → Nat × Nat} {gs : List Nat} {t : Nat} (I : IV X H s A B K ow) (h1 : zst H H') (h2 : zfx X gs H H') (h3 : zfd X (fun a => X + 99 < a ∧ (ow a).1 = t + 1) H H') (h4 : zfs (10 :: gs) s s')
    (hz : ∀ u : Nat, u ≠ t → (u : Int) < s 0 2 → zts u s s') (n2 : s' 0 2 = s 0 2) (e3 : s' 3 = s 3) (e4 : s' 4 = s 4) (e26 : s' 26 = s 26) (e27 : s' 27 = s 27) (e28 : s' 28 = s 28) (e29 : s' 29 = s 29)
    (hB : ∀ u, u ≠ t → ∀ j, B' u j = B u j) (hw : ∀ a, a ≤ znx H → ow' a = ow a) (to : TO X H' s' A B' ow' t) (eo : EO H' s' A (s 0 2).toNat t) (si : SI s')
    (h0 : gs.contains 0 = false) (hg1 : gs.contains 1 = false) (hg2 : gs.contains 2 = false) (hg3 : gs.contains 3 = false) (hg4 : gs.contains 4 = false) (hg5 : gs.contains 5 = false) (hg6 : gs.contains 6 = false) (hg7 : gs.contains 7 = false) (hg8 : gs.contains 8 = false) (hg10 : gs.contains 10 = false) (g9 : gs.contains 9 = false ∨ G9 (zcx X H') s') (ht : t + 1 < 1000) : IV X H' s' A B' K ow' := by
  obtain ⟨F, ⟨k1, k2, k3, k4, k5, k6, k7, k8, k9, k10⟩, kt, kc, ks, ko⟩ := I
  have cons : ∀ g, g ≠ 10 → gs.contains g = false → (10 :: gs).contains g = false := fun g hg w => by
    rw [List.contains_cons, w, Bool.or_false]
    simpa using hg
  have hc : zfc (10 :: gs) (zcx X H) (zcx X H') := fun o k a b => h2 o k a (by rw [List.contains_cons, Bool.or_eq_false_iff] at b; exact b.2)
  have hcg : zfc gs (zcx X H) (zcx X H') := fun o k a b => h2 o k a b
  have n44 : s' 0 44 = s 0 44 := h4 0 44 (cons 4 (by decide) hg4)
  have how : ∀ o, o ≠ 0 → o ≠ t + 1 → zown ow o H H' := fun o ho h9 a ha hb k => by
    have hx : ¬ a ≤ X + 99 := fun q => ho (by rw [← hb]; exact ko a q)
    exact h3 a (Or.inr (by omega)) ha (fun w => h9 (hb.symm.trans w.2)) k
  refine ⟨F.fr h1 h2 h0, ⟨k1.fr hc h4 (cons _ (by decide) hg1), k2.fr hc h4 (cons _ (by decide) hg2) (fun _ _ => rfl), k3.fr hc h4 (cons _ (by decide) hg3), ?_, k5.fr hc h4 (cons _ (by decide) hg5), k6.fr hc h4 (cons _ (by decide) hg6), k7.fr hc h4 (cons _ (by decide) hg7), k8.fr hc h4 (cons _ (by decide) hg8), ?_, ?_⟩, fun u hu => ?_, fun c hcn => ?_, si, fun a ha => ?_⟩
  · obtain ⟨a1, a2, a3, a4⟩ := k4
    unfold G4
    rw [hcg 0 12 (by omega) hg4, n44]
    exact ⟨a1, a2, a3, fun k hk => by rw [hcg 11 k (by omega) hg4]; exact a4 k hk⟩
  · rcases g9 with g | g
    · exact k9.fr hc h4 (cons _ (by decide) g)
    · exact g
  · obtain ⟨a1, a2, a3, a4⟩ := k10
    unfold G10
    rw [hcg 0 4 (by omega) hg10, n2]
    exact ⟨a1, a2, a3, fun k hk => by rw [hcg 2 k (by omega) hg10]; exact a4 k hk⟩
  · rw [n2] at hu ⊢
    by_cases e : u = t
    · subst e
      exact ⟨to, eo⟩
    · obtain ⟨tu, eu⟩ := kt u hu
      have st := ks.1 u hu
      have hz' := hz u e hu
      refine ⟨tu.fr hz' h1 (how _ (by omega) (by omega)) hw rfl rfl (hB u e) (fun w v hv => ((st.2.1 w).2.2.2.2.2 v hv).1.2) (fun w => (st.2.2.2.1 w).2.2.2.1.2), fun w => ?_⟩
      rw [e3] at w
      obtain ⟨f1, f2⟩ := eu w
      obtain ⟨⟨m0, -, -, -, m4⟩, -⟩ := tu.2.2.2.1 w
      refine ⟨?_, fun j hj => ?_⟩
      · rw [m0.ct (how _ (by omega) (by omega)), f1]
        exact (errN_eq _ fun i _ => ⟨by rw [e3], by rw [e4]⟩).symm
      · rw [m4.ct (how _ (by omega) (by omega)), edist_eq e26 e27 e28 e29]
        exact f2 j hj
  · rw [n44] at hcn
    have := k4.2.2.1
    exact (kc c hcn).fr h4 (cons _ (by decide) hg4) h1 (how _ (by omega) (by omega)) hw
  · rw [hw a (by have := F.2.1.1; omega)]
    exact ko a ha
