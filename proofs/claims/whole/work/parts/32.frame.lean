/-! WHAT IS KEPT by a change elsewhere -/
theorem My.fr {X : Nat} {H H' : zHp} {ow ow' : Nat → Nat × Nat} {a o b : Nat} (h : My X H ow a o b) (hn : zst H H') (hw : ∀ a, a ≤ znx H → ow' a = ow a) : My X H' ow' a o b := ⟨h.1, Nat.le_trans h.2.1 hn.1, (hw a h.2.1).trans h.2.2⟩
/-- the cells of thing t are as they were -/
def zown (ow : Nat → Nat × Nat) (o : Nat) (H H' : zHp) : Prop := ∀ a, a ≤ znx H → (ow a).1 = o → ∀ k, zct H' a k = zct H a k
theorem zsum_eq {f g : Nat → Int} : ∀ n, (∀ i, i < n → f i = g i) → zsum f n = zsum g n
  | 0, _ => rfl
  | n + 1, h => by
    show zsum f n + f n = zsum g n + g n
    rw [zsum_eq n (fun i hi => h i (by omega)), h n (by omega)]
section FR
variable {X : Nat} {H H' : zHp} {s s' : zSg} {A A' : Nat → Nat} {B B' : Nat → Nat → Nat} {ow ow' : Nat → Nat × Nat} {t : Nat}
theorem My.ct {a o b : Nat} (h : My X H ow a o b) (hA : zown ow o H H') (k : Nat) : zct H' a k = zct H a k := hA a h.2.1 (by rw [h.2.2]) k
theorem BarO.fr {b j o : Nat} (h : BarO X H ow b o j) (hn : zst H H') (hA : zown ow o H H') (hw : ∀ a, a ≤ znx H → ow' a = ow a) : BarO X H' ow' b o j := by
  obtain ⟨m0, m1, h1, h2, h3, h4⟩ := h
  exact ⟨m0.fr hn hw, m1.fr hn hw, by rw [(hn.2.2 _ m0.2.1).1]; exact h1, by rw [m0.ct hA]; exact h2, by rw [(hn.2.2 _ m1.2.1).1]; exact h3, by rw [(hn.2.2 _ m1.2.1).2]; exact h4⟩
theorem BarV.fr {b j o : Nat} {m m' : Int} {P L T P' L' T' : Nat → Int} (h : BarV H b m P L T) (ho : BarO X H ow b o j) (hA : zown ow o H H') (hm : m' = m) (hP : ∀ i, i < 8 → P' i = P i) (hL : ∀ i, i < 8 → L' i = L i) (hT : ∀ i, i < 8 → T' i = T i) : BarV H' b m' P' L' T' := by
  obtain ⟨m0, m1, -, -, -, -⟩ := ho
  obtain ⟨h1, h2, h4, h3⟩ := h
  subst hm
  refine ⟨by rw [m0.ct hA]; exact h1, ?_, h4, fun i hi => ?_⟩
  · rw [m0.ct hA, h2]
    exact zsum_eq _ fun i hi => (hL i (by omega)).symm
  · rw [m1.ct hA, h3 i hi, hP i (by omega), hL i (by omega), hT i (by omega)]
theorem TOp.fr (h : TOp X H s A B ow t) (hs : zts t s s') (hn : zst H H') (hA : zown ow (t + 1) H H') (hw : ∀ a, a ≤ znx H → ow' a = ow a) (hAt : A' t = A t) (hAr : A' (s 4 t).toNat = A (s 4 t).toNat) (hB : ∀ j, B' t j = B t j) : TOp X H' s' A' B' ow' t := by
  obtain ⟨m0, q, b⟩ := h
  unfold TOp
  rw [hAt, hB, hs.1 3 (by simp), hs.1 4 (by simp), hs.1 5 (by simp), hs.1 6 (by simp), hs.1 64 (by simp), hAr]
  simp only [m0.ct hA, (hn.2.2 _ m0.2.1).1]
  exact ⟨m0.fr hn hw, q, b.fr hn hA hw⟩
theorem TOr.fr (h : TOr X H s A ow t) (hs : zts t s s') (hn : zst H H') (hA : zown ow (t + 1) H H') (hw : ∀ a, a ≤ znx H → ow' a = ow a) (hAt : A' t = A t) (hAr : A' (s 4 t).toNat = A (s 4 t).toNat) : TOr X H' s' A' ow' t := by
  obtain ⟨m0, q⟩ := h
  unfold TOr
  rw [hAt, hs.1 3 (by simp), hs.1 4 (by simp), hs.1 5 (by simp), hs.1 6 (by simp), hs.1 30 (by simp), hs.1 31 (by simp), hs.1 32 (by simp), hAr]
  simp only [m0.ct hA, (hn.2.2 _ m0.2.1).1]
  exact ⟨m0.fr hn hw, q⟩
theorem TOs.fr (h : TOs X H s A B ow t) (hs : zts t s s') (hn : zst H H') (hA : zown ow (t + 1) H H') (hw : ∀ a, a ≤ znx H → ow' a = ow a) (hAt : A' t = A t) (hAr : A' (s 4 t).toNat = A (s 4 t).toNat) (hB : ∀ j, B' t j = B t j) (h20 : ∀ v, v < 4 → s 14 (4 * t + v) ≤ 20) : TOs X H' s' A' B' ow' t := by
  obtain ⟨⟨m0, m1, m2⟩, q, r, w, b⟩ := h
  unfold TOs
  rw [hAt, hs.1 3 (by simp), hs.1 4 (by simp), hs.1 5 (by simp), hs.1 6 (by simp), hs.1 7 (by simp), hAr]
  simp only [m0.ct hA, m1.ct hA, m2.ct hA, (hn.2.2 _ m0.2.1).1, (hn.2.2 _ m1.2.1).1, (hn.2.2 _ m1.2.1).2, (hn.2.2 _ m2.2.1).1, (hn.2.2 _ m2.2.1).2]
  refine ⟨⟨m0.fr hn hw, m1.fr hn hw, m2.fr hn hw⟩, q, r, w, fun v hv => ?_⟩
  obtain ⟨c1, c2⟩ := b v hv
  have hv20 := h20 v hv
  rw [(hs.2.1 v hv).1]
  refine ⟨c1, fun j hj => ?_⟩
  obtain ⟨d1, d2, d3⟩ := c2 j hj
  rw [hB]
  refine ⟨d1, d2.fr hn hA hw, d3.fr d2 hA ?_ ?_ ?_ ?_⟩
  · rw [show 80 * t + 20 * v + j = 80 * t + (20 * v + j) by omega]
    exact hs.2.2.2.2.1 13 (by simp) _ (by omega)
  all_goals
    intro i hi
    unfold sh
    rw [show 8 * (80 * t + 20 * v + j) + i = 640 * t + (8 * (20 * v + j) + i) by omega]
    exact hs.2.2.2.2.2 _ (by simp) _ (by omega)
theorem TOl.fr (h : TOl X H s A B ow t) (hs : zts t s s') (hn : zst H H') (hA : zown ow (t + 1) H H') (hw : ∀ a, a ≤ znx H → ow' a = ow a) (hAt : A' t = A t) (hAr : A' (s 4 t).toNat = A (s 4 t).toNat) (hB : ∀ j, B' t j = B t j) (h8 : s 6 t ≤ 8) : TOl X H' s' A' B' ow' t := by
  obtain ⟨⟨m0, m1, m2⟩, q, w, k, b⟩ := h
  unfold TOl
  rw [hAt, hs.1 3 (by simp), hs.1 4 (by simp), hs.1 5 (by simp), hs.1 6 (by simp), hAr]
  simp only [m0.ct hA, m1.ct hA, m2.ct hA, (hn.2.2 _ m0.2.1).1, (hn.2.2 _ m1.2.1).1, (hn.2.2 _ m1.2.1).2, (hn.2.2 _ m2.2.1).1, (hn.2.2 _ m2.2.1).2]
  refine ⟨⟨m0.fr hn hw, m1.fr hn hw, m2.fr hn hw⟩, q, w, fun v hv => by rw [(hs.2.1 v hv).2]; exact k v hv, fun v hv => ?_⟩
  obtain ⟨d1, d2, d3⟩ := b v hv
  rw [hB]
  refine ⟨d1, d2.fr hn hA hw, d3.fr d2 hA (hs.2.2.1 v (by omega)) ?_ ?_ ?_⟩
  all_goals
    intro i hi
    unfold sh
    rw [show 64 * t + 8 * v + i = 64 * t + (8 * v + i) by omega]
    exact hs.2.2.2.1 _ (by simp) _ (by omega)
theorem TOe.fr (h : TOe X H s A B ow t) (hs : zts t s s') (hn : zst H H') (hA : zown ow (t + 1) H H') (hw : ∀ a, a ≤ znx H → ow' a = ow a) (hAt : A' t = A t) (hAr : A' (s 4 t).toNat = A (s 4 t).toNat) (hB : ∀ j, B' t j = B t j) : TOe X H' s' A' B' ow' t := by
  obtain ⟨⟨m0, m1, m2, m3, m4⟩, q, w, k, b⟩ := h
  unfold TOe
  rw [hAt, hs.1 3 (by simp), hs.1 4 (by simp), hs.1 5 (by simp), hAr]
  simp only [m0.ct hA, m1.ct hA, m2.ct hA, m3.ct hA, m4.ct hA, (hn.2.2 _ m0.2.1).1, (hn.2.2 _ m1.2.1).1, (hn.2.2 _ m1.2.1).2, (hn.2.2 _ m2.2.1).1, (hn.2.2 _ m2.2.1).2, (hn.2.2 _ m3.2.1).1, (hn.2.2 _ m3.2.1).2, (hn.2.2 _ m4.2.1).1, (hn.2.2 _ m4.2.1).2]
  refine ⟨⟨m0.fr hn hw, m1.fr hn hw, m2.fr hn hw, m3.fr hn hw, m4.fr hn hw⟩, q, w, k, fun j hj => ?_⟩
  obtain ⟨d1, d2⟩ := b j hj
  rw [hB, hs.2.2.2.2.1 29 (by simp) j hj]
  refine ⟨d1, fun h0 => ?_⟩
  obtain ⟨d3, d4⟩ := d2 h0
  refine ⟨d3.fr hn hA hw, d4.fr d3 hA rfl ?_ ?_ ?_⟩
  all_goals
    intro i hi
    unfold sh
    rw [show 8 * (80 * t + j) + i = 640 * t + (8 * j + i) by omega]
    exact hs.2.2.2.2.2 _ (by simp) _ (by omega)
theorem TO.fr (h : TO X H s A B ow t) (hs : zts t s s') (hn : zst H H') (hA : zown ow (t + 1) H H') (hw : ∀ a, a ≤ znx H → ow' a = ow a) (hAt : A' t = A t) (hAr : A' (s 4 t).toNat = A (s 4 t).toNat) (hB : ∀ j, B' t j = B t j) (h20 : s 3 t = 1 ∨ s 3 t = 6 → ∀ v, v < 4 → s 14 (4 * t + v) ≤ 20) (h8 : s 3 t = 3 → s 6 t ≤ 8) : TO X H' s' A' B' ow' t := by
  unfold TO
  rw [hs.1 3 (by simp)]
  exact ⟨fun k => (h.1 k).fr hs hn hA hw hAt hAr hB (h20 k), fun k => (h.2.1 k).fr hs hn hA hw hAt hAr hB, fun k => (h.2.2.1 k).fr hs hn hA hw hAt hAr hB (h8 k), fun k => (h.2.2.2.1 k).fr hs hn hA hw hAt hAr hB, fun k => (h.2.2.2.2 k).fr hs hn hA hw hAt hAr⟩
end FR
/-! the groups -/
section GF
variable {c c' : Nat → Nat → Int} {s s' : zSg} {gs : List Nat} {A A' : Nat → Nat}
def zfc (gs : List Nat) (c c' : Nat → Nat → Int) : Prop := ∀ o k, o ≤ 36 → gs.contains (xg o k) = false → c' o k = c o k
theorem G1.fr (h : G1 c s) (hc : zfc gs c c') (hs : zfs gs s s') (hg : gs.contains 1 = false) : G1 c' s' := by
  obtain ⟨h1, h2, h3, h4, h5, h6, h7, h8⟩ := h
  unfold G1
  rw [hc 0 0 (by omega) hg, hc 0 2 (by omega) hg, hs 0 1 hg, hs 0 8 hg]
  exact ⟨h1, h2, h3, h4, h5, h6, fun a ha => by rw [hc 1 a (by omega) hg, hs 9 a hg]; exact h7 a ha, fun a ha hb => by rw [hs 9 a hg]; exact h8 a ha hb⟩
theorem G2.fr (h : G2 c s A) (hc : zfc gs c c') (hs : zfs gs s s') (hg : gs.contains 2 = false) (hA : ∀ k : Nat, (k : Int) < s 0 24 → A' (s 25 k).toNat = A (s 25 k).toNat) : G2 c' s' A' := by
  obtain ⟨h1, h2, h3, h4⟩ := h
  unfold G2
  rw [hc 0 7 (by omega) hg, hs 0 24 hg]
  exact ⟨h1, h2, h3, fun a ha => by rw [hc 3 a (by omega) hg, hs 25 a hg, hA a ha]; exact h4 a ha⟩
theorem G3.fr (h : G3 c s) (hc : zfc gs c c') (hs : zfs gs s s') (hg : gs.contains 3 = false) : G3 c' s' := by
  obtain ⟨h1, h2, h3, h4⟩ := h
  unfold G3
  rw [hc 0 10 (by omega) hg, hs 0 43 hg]
  exact ⟨h1, h2, h3, fun a ha => by rw [hc 10 a (by omega) hg, hs 42 a hg]; exact h4 a ha⟩
theorem G5.fr (h : G5 c s) (hc : zfc gs c c') (hs : zfs gs s s') (hg : gs.contains 5 = false) : G5 c' s' := by
  unfold G5 at h ⊢
  have e1 : ∀ a, c' 13 a = c 13 a := fun a => hc 13 a (by omega) hg
  have e2 : ∀ a, c' 14 a = c 14 a := fun a => hc 14 a (by omega) hg
  have e3 : ∀ a, c' 15 a = c 15 a := fun a => hc 15 a (by omega) hg
  have e4 : ∀ a, c' 16 a = c 16 a := fun a => hc 16 a (by omega) hg
  have e5 : ∀ a, c' 17 a = c 17 a := fun a => hc 17 a (by omega) hg
  have e6 : ∀ a, c' 18 a = c 18 a := fun a => hc 18 a (by omega) hg
  have f1 : ∀ a, s' 63 a = s 63 a := fun a => hs 63 a hg
  have f2 : ∀ a, s' 66 a = s 66 a := fun a => hs 66 a hg
  have f3 : ∀ a, s' 67 a = s 67 a := fun a => hs 67 a hg
  have f4 : ∀ a, s' 68 a = s 68 a := fun a => hs 68 a hg
  have f5 : ∀ a, s' 69 a = s 69 a := fun a => hs 69 a hg
  rw [hc 12 1 (by omega) hg, hs 0 65 hg]
  simp only [e1, e2, e3, e4, e5, e6, f1, f2, f3, f4, f5]
  exact h
theorem G6.fr (h : G6 c s) (hc : zfc gs c c') (hs : zfs gs s s') (hg : gs.contains 6 = false) : G6 c' s' := by
  unfold G6 at h ⊢
  have e1 : ∀ a, c' 23 a = c 23 a := fun a => hc 23 a (by omega) hg
  have f1 : ∀ a, s' 71 a = s 71 a := fun a => hs 71 a hg
  rw [hc 22 0 (by omega) hg, hc 22 1 (by omega) hg, hc 22 2 (by omega) hg, hc 22 3 (by omega) hg, hs 0 72 hg, hs 0 73 hg, hs 0 74 hg, hs 0 70 hg]
  simp only [e1, f1]
  exact h
theorem xg7 : ∀ t, t < 6 → ∀ i, xg (28 + t) i = 7
  | 0, _, _ => rfl | 1, _, _ => rfl | 2, _, _ => rfl | 3, _, _ => rfl | 4, _, _ => rfl | 5, _, _ => rfl
  | n + 6, h, _ => absurd h (by omega)
theorem G7.fr (h : G7 c s) (hc : zfc gs c c') (hs : zfs gs s s') (hg : gs.contains 7 = false) : G7 c' s' := by
  intro t ht
  obtain ⟨h1, h2, h3⟩ := h t ht
  have f1 : ∀ a, s' 80 a = s 80 a := fun a => hs 80 a hg
  rw [hc 34 t (by omega) hg, hc 35 t (by omega) hg, hs 78 t hg, hs 79 t hg]
  exact ⟨h1, h2, fun i hi => by rw [hc (28 + t) i (by omega) (by rw [xg7 t ht]; exact hg), f1]; exact h3 i hi⟩
theorem G8.fr (h : G8 c s) (hc : zfc gs c c') (hs : zfs gs s s') (hg : gs.contains 8 = false) : G8 c' s' := by
  obtain ⟨h1, h2, h3, h4⟩ := h
  unfold G8
  rw [hc 0 19 (by omega) hg, hs 0 76 hg]
  exact ⟨h1, h2, h3, fun a ha hb => by rw [hc 36 a (by omega) hg, hs 77 a hg]; exact h4 a ha hb⟩
theorem G9.fr (h : G9 c s) (hc : zfc gs c c') (hs : zfs gs s s') (hg : gs.contains 9 = false) : G9 c' s' := by
  unfold G9 at h ⊢
  rw [hc 0 5 (by omega) hg, hs 0 15 hg]
  exact h
theorem G10.fr (h : G10 c s A) (hc : zfc gs c c') (hs : zfs gs s s') (hg : gs.contains 10 = false) : G10 c' s' A := by
  obtain ⟨h1, h2, h3, h4⟩ := h
  unfold G10
  rw [hc 0 4 (by omega) hg, hs 0 2 hg]
  exact ⟨h1, h2, h3, fun a ha => by rw [hc 2 a (by omega) hg]; exact h4 a ha⟩
end GF
