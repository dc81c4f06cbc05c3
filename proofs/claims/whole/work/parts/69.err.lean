section ERR
variable {X : Nat} {H : zHp} {s : zSg} {A : Nat → Nat} {B : Nat → Nat → Nat} {K : Nat → Nat} {ow : Nat → Nat × Nat} {n x : Nat}
def reH (H : zHp) (n r : Nat) (pl p q : Int) : zHp := zwr (zwr (zwr (zwr (zwr (zwr (zal H 4 6 fun _ => 0) (znx H + 1) 0 7) (znx H + 1) 1 (n : Int)) (znx H + 1) 2 (r : Int)) (znx H + 1) 3 pl) (znx H + 1) 4 p) (znx H + 1) 5 q
theorem re_run {r : Nat} {pl p q : Int} : fErratum_init (znx H + 1) (n : Int) r pl p q (zal H 4 6 fun _ => 0) = some ((), reH H n r pl p q) := by
  have t1 : ztg (zal H 4 6 fun _ => 0) (znx H + 1) = 4 := by rw [ztg_al, if_pos rfl]
  unfold fErratum_init fThing_init
  simp only [yn0, ypi, ypr, ybd_s, show 0 < znx H + 1 by omega, if_true, t1, ztg_wr, show zisA 20 4 = true from rfl, zA3]
  rfl
theorem re_st {r : Nat} {pl p q : Int} : zst H (reH H n r pl p q) := ((((((zst.rf.al _ _ _).wr _ _ _).wr _ _ _).wr _ _ _).wr _ _ _).wr _ _ _).wr _ _ _
theorem re_old {r : Nat} {pl p q : Int} {a k : Nat} (h : a ≤ znx H) : zct (reH H n r pl p q) a k = zct H a k := by
  unfold reH
  rw [zct_wr, if_neg (by omega), zct_wr, if_neg (by omega), zct_wr, if_neg (by omega), zct_wr, if_neg (by omega), zct_wr, if_neg (by omega), zct_wr, if_neg (by omega), zct_al, if_neg (by omega)]
theorem re_a {r : Nat} {pl p q : Int} : ztg (reH H n r pl p q) (znx H + 1) = 4 ∧ zct (reH H n r pl p q) (znx H + 1) 0 = 7 ∧ zct (reH H n r pl p q) (znx H + 1) 1 = (n : Int) ∧ zct (reH H n r pl p q) (znx H + 1) 2 = (r : Int) ∧ zct (reH H n r pl p q) (znx H + 1) 3 = pl ∧ zct (reH H n r pl p q) (znx H + 1) 4 = p ∧ zct (reH H n r pl p q) (znx H + 1) 5 = q := by
  refine ⟨?_, ?_, ?_, ?_, ?_, ?_, ?_⟩
  · show ztg (zal H 4 6 fun _ => 0) (znx H + 1) = 4
    rw [ztg_al, if_pos rfl]
  all_goals
    unfold reH
    simp [zct_wr]
theorem IV.newerr (I : IV X H s A B K ow) (hn : s 0 2 = (n : Int)) (h59 : n ≤ 59) (hx : x < n) (hk : s 3 x = 4) {v b i p q : Int} (hv : 0 ≤ v ∧ v ≤ 3) (hb : 0 ≤ b ∧ b ≤ 19) (hi : 0 ≤ i ∧ i ≤ 7) (hp : 1 ≤ p ∧ p ≤ 60) (hq : 1 ≤ q ∧ q ≤ 60) :
    KD X H (kpH X (zwr (reH H n (A x) ((v * 20 + b) * 8 + i) p q) (A x) 4 (errN s x n + 1)) (znx H + 1) n) (zup (zup (zup (adS s n 7 (x : Int) v b) 32 n i) 30 n p) 31 n q) := by
  have F := I.1
  have hX := F.2.1.1
  have hxs : (x : Int) < s 0 2 := by omega
  have hpx := I.pos hxs
  obtain ⟨i1, i2, i3⟩ := I.n0 (n := n)
  obtain ⟨sn1, sn2, sn3⟩ := i2 hn (by omega)
  have st := re_st (H := H) (n := n) (r := A x) (pl := (v * 20 + b) * 8 + i) (p := p) (q := q)
  obtain ⟨g1, a0, a1, a2, a3, a4, a5⟩ := re_a (H := H) (n := n) (r := A x) (pl := (v * 20 + b) * 8 + i) (p := p) (q := q)
  have old : ∀ q' k, q' ≤ znx H → zct (reH H n (A x) ((v * 20 + b) * 8 + i) p q) q' k = zct H q' k := fun q' k h => re_old h
  have nx : znx (reH H n (A x) ((v * 20 + b) * 8 + i) p q) = znx H + 1 := rfl
  have us : zus (reH H n (A x) ((v * 20 + b) * 8 + i) p q) = zus H + 6 := rfl
  generalize reH H n (A x) ((v * 20 + b) * 8 + i) p q = H1 at *
  obtain ⟨r3, r4, r5, r6, r0⟩ := adS_r (s := s) (n := n) (a := 7) (b := (x : Int)) (c := v) (d := b)
  have N := adS_N (s := s) (n := n) (a := 7) (b := (x : Int)) (c := v) (d := b)
  have Z := adS_z (s := s) (n := n) (a := 7) (b := (x : Int)) (c := v) (d := b)
  have r08 : adS s n 7 (x : Int) v b 0 8 = s 0 8 := adS_0 (by omega)
  have r24 : adS s n 7 (x : Int) v b 0 24 = s 0 24 := adS_0 (by omega)
  have ro : ∀ k, k ≠ 3 → k ≠ 4 → k ≠ 5 → k ≠ 6 → k ≠ 0 → adS s n 7 (x : Int) v b k = s k := fun k h1 h2 h3 h4 h5 => adS_o h1 h2 h3 h4 h5
  have ru : ∀ k w, w ≠ n → k ≠ 0 → adS s n 7 (x : Int) v b k w = s k w := fun k w h1 h2 => adS_u h1 h2
  generalize adS s n 7 (x : Int) v b = s1 at *
  have N2 : NCh n s (zup (zup (zup s1 32 n i) 30 n p) 31 n q) := by
    obtain ⟨y1, y2, y3, y4, y5, y6⟩ := N
    refine ⟨fun k hk w hw => ?_, fun j hj => ?_, fun j hj => ?_, fun j hj => ?_, fun j hj => ?_, fun j hj => ?_⟩
    · rw [← y1 k hk w hw]
      simp [zup, hw]
    · exact y2 j hj
    · exact y3 j hj
    · exact y4 j hj
    · exact y5 j hj
    · exact y6 j hj
  have Z2 : zfs [10] s (zup (zup (zup s1 32 n i) 30 n p) 31 n q) := ((Z.up (by decide) rfl).up (by decide) rfl).up (by decide) rfl
  have qo : ∀ k, k ≠ 30 → k ≠ 31 → k ≠ 32 → zup (zup (zup s1 32 n i) 30 n p) 31 n q k = s1 k := fun k h1 h2 h3 => by rw [zup_o h2, zup_o h1, zup_o h3]
  have q32 : zup (zup (zup s1 32 n i) 30 n p) 31 n q 32 n = i := by simp [zup]
  have q30 : zup (zup (zup s1 32 n i) 30 n p) 31 n q 30 n = p := by simp [zup]
  have q31 : zup (zup (zup s1 32 n i) 30 n p) 31 n q 31 n = q := by simp [zup]
  generalize zup (zup (zup s1 32 n i) 30 n p) 31 n q = s' at *
  have q3 : s' 3 n = 7 := by rw [qo 3 (by omega) (by omega) (by omega)]; exact r3
  have q4 : s' 4 n = (x : Int) := by rw [qo 4 (by omega) (by omega) (by omega)]; exact r4
  have q5 : s' 5 n = v := by rw [qo 5 (by omega) (by omega) (by omega)]; exact r5
  have q6 : s' 6 n = b := by rw [qo 6 (by omega) (by omega) (by omega)]; exact r6
  have q0 : ∀ j, s' 0 j = s1 0 j := fun j => by rw [qo 0 (by omega) (by omega) (by omega)]
  have so : ∀ k, k ≠ 30 → k ≠ 31 → k ≠ 32 → k ≠ 3 → k ≠ 4 → k ≠ 5 → k ≠ 6 → k ≠ 0 → s' k = s k := fun k h1 h2 h3 h4 h5 h6 h7 h8 => by rw [qo k h1 h2 h3]; exact ro k h4 h5 h6 h7 h8
  have sx3 : ∀ w, w ≠ n → s' 3 w = s 3 w := fun w hw => by rw [qo 3 (by omega) (by omega) (by omega)]; exact ru 3 w hw (by omega)
  have eu : ((x : Int)).toNat = x := Int.toNat_natCast x
  have kst : zst H (kpH X (zwr H1 (A x) 4 (errN s x n + 1)) (znx H + 1) n) := ((st.wr _ _ _).wr _ _ _).wr _ _ _
  have kc : ∀ q k, X + 99 < q → zct (kpH X (zwr H1 (A x) 4 (errN s x n + 1)) (znx H + 1) n) q k = if q = A x ∧ k = 4 then errN s x n + 1 else zct H1 q k := fun q k h => by rw [kp_c, if_neg (by omega), if_neg (by omega), zct_wr]
  have ki : ∀ q k, q ≤ X + 99 → zct (kpH X (zwr H1 (A x) 4 (errN s x n + 1)) (znx H + 1) n) q k = if q = X ∧ k = 4 then ((n + 1 : Nat) : Int) else if q = X + 2 ∧ k = n then ((znx H + 1 : Nat) : Int) else zct H q k := fun q k h => by rw [kp_c, zct_wr, if_neg (show ¬ (q = A x ∧ k = 4) by omega), old _ _ (by omega)]
  have knx : znx (kpH X (zwr H1 (A x) 4 (errN s x n + 1)) (znx H + 1) n) = znx H + 1 := nx
  have kus : zus (kpH X (zwr H1 (A x) 4 (errN s x n + 1)) (znx H + 1) n) = zus H + 6 := us
  have ktg : ztg (kpH X (zwr H1 (A x) 4 (errN s x n + 1)) (znx H + 1) n) (znx H + 1) = 4 := g1
  generalize kpH X (zwr H1 (A x) 4 (errN s x n + 1)) (znx H + 1) n = H' at *
  have si : SI s' := I.2.2.2.2.1.add N2 hn (by rw [q0]; exact r0) (by rw [q0]; exact r08) (by rw [q0]; exact r24) (so 25 (by omega) (by omega) (by omega) (by omega) (by omega) (by omega) (by omega) (by omega)) i1 ⟨by omega, fun w => absurd w (by omega), fun w => absurd w (by omega), fun w => absurd w (by omega), fun w => absurd w (by omega), fun _ => by
      unfold SIr
      rw [q4, q5, q6, q30, q31, q32, eu, sx3 x (by omega)]
      exact ⟨by omega, hk, hv, hb, hi, hp, hq⟩⟩ (fun _ j hj => by rw [so 29 (by omega) (by omega) (by omega) (by omega) (by omega) (by omega) (by omega) (by omega)]; exact sn2 j hj) (fun _ _ v hv => by rw [so 14 (by omega) (by omega) (by omega) (by omega) (by omega) (by omega) (by omega) (by omega)]; exact (sn1 v hv).1)
  let A' : Nat → Nat := fun w => if w = n then znx H + 1 else A w
  let ow' : Nat → Nat × Nat := fun a => if a = znx H + 1 then (n + 1, 0) else ow a
  have A1 : A' n = znx H + 1 := if_pos rfl
  have A2 : ∀ w, w ≠ n → A' w = A w := fun w hw => if_neg hw
  have o1 : ow' (znx H + 1) = (n + 1, 0) := if_pos rfl
  have hw : ∀ a, a ≤ znx H → ow' a = ow a := fun a ha => if_neg (by omega)
  obtain ⟨⟨m0, m1, m2, m3, m4⟩, ⟨e0, e1, e2, e3, e4, e5, e6⟩, e7, e8, e9⟩ := (I.to hxs).2.2.2.1 hk
  obtain ⟨f1, f2⟩ := (I.2.2.1 x hxs).2 hk
  have z := N2.zts (u := x) (by omega)
  have hd : ∀ a k, X + 99 < a → a ≤ znx H → ¬ (a = A x ∧ k = 4) → zct H' a k = zct H a k := fun a k h1 h2 h3 => by rw [kc _ _ h1, if_neg h3, old _ _ h2]
  have iv : IV X H' s' A' B K ow' := by
    refine I.add (gs := []) (x := x) hn h59 kst (fun o k h1 h2 => ?_) ?_ (fun k => ?_) ?_ Z2 N2 (by rw [q0]; exact r0) A2 (fun w _ _ j => rfl) hw ?_ (fun w => absurd w (by omega)) (fun _ => ⟨⟨fun w => ?_, fun w => ?_, fun w => ?_, fun _ => ?_, fun w => ?_⟩, fun _ => ⟨?_, fun j hj => ?_⟩⟩) (fun w h1 h2 h3 => by rw [q4] at h3; omega) si (Or.inl rfl) (by omega)
    · rw [ki _ _ (by omega)]
      by_cases e : X + o = X ∧ k = 4
      · have : o = 0 := by omega
        subst this
        rw [e.2] at h2
        cases (show true = false from h2)
      · rw [if_neg e]
        by_cases e2 : X + o = X + 2 ∧ k = n
        · have : o = 2 := by omega
          subst this
          cases (show true = false from h2)
        · rw [if_neg e2]
    · rw [ki _ _ (by omega), if_pos ⟨rfl, rfl⟩]
    · rw [ki _ _ (by omega), if_neg (by omega), A1]
      by_cases e : k = n
      · rw [if_pos ⟨rfl, e⟩, if_pos e]
      · rw [if_neg (fun w => e w.2), if_neg e]
    · refine fun a h1 h2 h3 k => ?_
      by_cases g : a ≤ X + 99
      · rw [ki _ _ g, if_neg (by omega), if_neg (by omega)]
      · exact hd a k (by omega) h2 (fun w => h3 ⟨by omega, by rw [w.1, m0.2.2]⟩)
    · refine ⟨fun w => absurd w (by omega), fun w => absurd w (by omega), fun w => absurd w (by omega), fun w => absurd w (by omega), fun _ => ?_⟩
      unfold TOr My
      have nA : ∀ k, ¬ (znx H + 1 = A x ∧ k = 4) := fun k => by omega
      rw [A1, q3, q4, q5, q6, q30, q31, q32, eu, A2 x (by omega), o1, knx, kc _ _ (by omega), kc _ _ (by omega), kc _ _ (by omega), kc _ _ (by omega), kc _ _ (by omega), kc _ _ (by omega), if_neg (nA _), if_neg (nA _), if_neg (nA _), if_neg (nA _), if_neg (nA _), if_neg (nA _)]
      exact ⟨⟨by omega, by omega, rfl⟩, ktg, a0, a1, a2, a3, a4, a5⟩
    · rw [sx3 x (by omega)] at w; omega
    · rw [sx3 x (by omega)] at w; omega
    · rw [sx3 x (by omega)] at w; omega
    · have c0 : ∀ k, k ≠ 4 → zct H' (A x) k = zct H (A x) k := fun k hk => hd _ k m0.1 m0.2.1 (fun w => hk w.2)
      have c1 : ∀ a k, X + 99 < a → a ≤ znx H → a ≠ A x → zct H' a k = zct H a k := fun a k h1 h2 h3 => hd a k h1 h2 (fun w => h3 w.1)
      have p4 : s' 4 x = s 4 x := z.1 4 (by omega)
      have r4x : (s 4 x).toNat ≠ n := by have := ((I.st hxs).2.2.2.2.1 hk).1; omega
      unfold TOe
      rw [A2 x (by omega), p4, A2 _ r4x, sx3 x (by omega), z.1 5 (by omega), c0 0 (by omega), c0 1 (by omega), c0 2 (by omega), c0 3 (by omega), c0 5 (by omega), c0 6 (by omega), c0 7 (by omega), c0 8 (by omega), (kst.2.2 _ m0.2.1).1, (kst.2.2 _ m1.2.1).1, (kst.2.2 _ m1.2.1).2, (kst.2.2 _ m2.2.1).1, (kst.2.2 _ m2.2.1).2, (kst.2.2 _ m3.2.1).1, (kst.2.2 _ m3.2.1).2, (kst.2.2 _ m4.2.1).1, (kst.2.2 _ m4.2.1).2]
      refine ⟨⟨m0.fr kst hw, m1.fr kst hw, m2.fr kst hw, m3.fr kst hw, m4.fr kst hw⟩, ⟨e0, e1, e2, e3, e4, e5, e6⟩, e7, e8, fun j hj => ?_⟩
      obtain ⟨y1, y2⟩ := e9 j hj
      rw [so 29 (by omega) (by omega) (by omega) (by omega) (by omega) (by omega) (by omega) (by omega), so 26 (by omega) (by omega) (by omega) (by omega) (by omega) (by omega) (by omega) (by omega), so 27 (by omega) (by omega) (by omega) (by omega) (by omega) (by omega) (by omega) (by omega), so 28 (by omega) (by omega) (by omega) (by omega) (by omega) (by omega) (by omega) (by omega), c1 _ _ m1.1 m1.2.1 (by omega)]
      refine ⟨y1, fun w => ?_⟩
      obtain ⟨b1, b2⟩ := y2 w
      have x0 := b1.1
      have x1 := b1.2.1
      exact ⟨b1.fc kst (c1 _ _ x0.1 x0.2.1 (x0.ne m0 (Or.inl (by omega)))) hw, b2.fc (fun k => c1 _ _ x0.1 x0.2.1 (x0.ne m0 (Or.inl (by omega)))) (fun k => c1 _ _ x1.1 x1.2.1 (x1.ne m0 (Or.inl (by omega)))) rfl (fun _ _ => rfl) (fun _ _ => rfl) (fun _ _ => rfl)⟩
    · rw [sx3 x (by omega)] at w; omega
    · rw [A2 x (by omega), kc _ _ m0.1, if_pos ⟨rfl, rfl⟩]
      show _ = errN s' x n + if s' 3 n = 7 ∧ s' 4 n = (x : Int) then 1 else 0
      rw [if_pos ⟨q3, q4⟩, errN_eq n fun w hw => ⟨(N2.zts (u := w) (by omega)).1 3 (by omega), (N2.zts (u := w) (by omega)).1 4 (by omega)⟩]
    · rw [A2 x (by omega), hd _ _ m4.1 m4.2.1 (fun w => absurd w.1 (by omega)), edist_eq (so 26 (by omega) (by omega) (by omega) (by omega) (by omega) (by omega) (by omega) (by omega)) (so 27 (by omega) (by omega) (by omega) (by omega) (by omega) (by omega) (by omega) (by omega)) (so 28 (by omega) (by omega) (by omega) (by omega) (by omega) (by omega) (by omega) (by omega)) (so 29 (by omega) (by omega) (by omega) (by omega) (by omega) (by omega) (by omega) (by omega))]
      exact f2 j hj
  refine ⟨kst, by omega, by omega, fun a h1 h2 k => ?_, A', B, K, ow', iv⟩
  rw [ki _ _ h2, if_neg (by omega), if_neg (by omega)]
end ERR
