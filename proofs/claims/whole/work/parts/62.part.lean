section PART
variable {X : Nat} {H : zHp} {s : zSg} {A : Nat → Nat} {B : Nat → Nat → Nat} {K : Nat → Nat} {ow : Nat → Nat × Nat} {n u : Nat}
/-- the reference with a new thing -/
def adS (s : zSg) (n : Nat) (a b c d : Int) : zSg := zup (zup (zup (zup (zup s 3 n a) 4 n b) 5 n c) 6 n d) 0 2 ((n + 1 : Nat) : Int)
theorem m_add {a b c d : Int} (hn : s 0 2 = (n : Int)) (h59 : n ≤ 59) : gM_add a b c d s = some ((n : Int), adS s n a b c d) := by
  unfold gM_add
  have e : ∀ s5 : zSg, s5 0 2 = (n : Int) → zadd (s5 0 2) 1 = ((n + 1 : Nat) : Int) := fun s5 h => by rw [h, zadd_e (by omega) (by omega)]; omega
  simp only [yvl, hn, ywi_n (show n < 60 by omega)]
  rw [e _ (by simp [zup]; exact hn)]
  rfl
theorem adS_r {a b c d : Int} : adS s n a b c d 3 n = a ∧ adS s n a b c d 4 n = b ∧ adS s n a b c d 5 n = c ∧ adS s n a b c d 6 n = d ∧ adS s n a b c d 0 2 = ((n + 1 : Nat) : Int) := by
  refine ⟨?_, ?_, ?_, ?_, ?_⟩ <;> simp [adS, zup]
theorem adS_o {a b c d : Int} {k : Nat} (h3 : k ≠ 3) (h4 : k ≠ 4) (h5 : k ≠ 5) (h6 : k ≠ 6) (h0 : k ≠ 0) : adS s n a b c d k = s k := funext fun j => by simp [adS, zup, h3, h4, h5, h6, h0]
theorem adS_0 {a b c d : Int} {j : Nat} (h : j ≠ 2) : adS s n a b c d 0 j = s 0 j := by simp [adS, zup, h]
theorem adS_u {a b c d : Int} {k w : Nat} (h : w ≠ n) (h0 : k ≠ 0) : adS s n a b c d k w = s k w := by simp [adS, zup, h, h0]
theorem adS_N {a b c d : Int} : NCh n s (adS s n a b c d) := by
  refine ⟨fun k hk w hw => adS_u hw (by omega), fun j hj => ?_, fun j hj => ?_, fun j hj => ?_, fun j hj => ?_, fun j hj => ?_⟩
  · rw [adS_o (k := 14) (by omega) (by omega) (by omega) (by omega) (by omega), adS_o (k := 75) (by omega) (by omega) (by omega) (by omega) (by omega)]; exact ⟨rfl, rfl⟩
  · rw [adS_o (k := 23) (by omega) (by omega) (by omega) (by omega) (by omega)]
  · rw [adS_o (k := 20) (by omega) (by omega) (by omega) (by omega) (by omega), adS_o (k := 21) (by omega) (by omega) (by omega) (by omega) (by omega), adS_o (k := 22) (by omega) (by omega) (by omega) (by omega) (by omega)]; exact ⟨rfl, rfl, rfl⟩
  · rw [adS_o (k := 13) (by omega) (by omega) (by omega) (by omega) (by omega), adS_o (k := 29) (by omega) (by omega) (by omega) (by omega) (by omega)]; exact ⟨rfl, rfl⟩
  · rw [adS_o (k := 10) (by omega) (by omega) (by omega) (by omega) (by omega), adS_o (k := 11) (by omega) (by omega) (by omega) (by omega) (by omega), adS_o (k := 12) (by omega) (by omega) (by omega) (by omega) (by omega), adS_o (k := 26) (by omega) (by omega) (by omega) (by omega) (by omega), adS_o (k := 27) (by omega) (by omega) (by omega) (by omega) (by omega), adS_o (k := 28) (by omega) (by omega) (by omega) (by omega) (by omega)]; exact ⟨rfl, rfl, rfl, rfl, rfl, rfl⟩
theorem adS_z {a b c d : Int} : zfs [10] s (adS s n a b c d) := by
  unfold adS
  repeat first | exact zfs.rf | refine zfs.up0 ?_ rfl | refine zfs.up ?_ (by decide) rfl
theorem kp_c {H1 : zHp} {a q k : Nat} : zct (kpH X H1 a n) q k = if q = X ∧ k = 4 then ((n + 1 : Nat) : Int) else if q = X + 2 ∧ k = n then (a : Int) else zct H1 q k := rfl
theorem kp_x {H1 : zHp} {a : Nat} (hX : X + 99 ≤ znx H) (ho : ∀ q k, q ≤ znx H → zct H1 q k = zct H q k) : zfx X [10] H (kpH X H1 a n) := fun o k h1 h2 => by
  rw [kp_c]
  by_cases e : X + o = X ∧ k = 4
  · have : o = 0 := by omega
    subst this
    rw [e.2] at h2
    cases (show true = false from h2)
  · rw [if_neg e]
    by_cases e2 : X + o = X + 2 ∧ k = n
    · have : o = 2 := by omega
      subst this
      cases (show true = false from h2)
    · rw [if_neg e2]
      exact ho _ _ (by omega)
theorem IV.n0 (I : IV X H s A B K ow) : (∀ k : Nat, (k : Int) < s 0 24 → 0 ≤ s 25 k) ∧ (s 0 2 = (n : Int) → n < 60 → SIn s n) ∧ ∀ a, a ≤ X + 99 → (ow a).1 = 0 := ⟨fun k hk => (I.2.1.2.1.2.2.2 k hk).2, fun h h2 => I.2.2.2.2.1.2.1 n (by omega) h2, I.2.2.2.2.2⟩
theorem IV.newpart (I : IV X H s A B K ow) (hn : s 0 2 = (n : Int)) (h59 : n ≤ 59) {kd v tr : Int} (hkd : kd = 2 ∨ kd = 5) (hu : u < n) (hk : s 3 u = 1 ∨ s 3 u = 6) (hv : 0 ≤ v ∧ v < s 6 u) (htr : -12 ≤ tr ∧ tr ≤ 12) : KD X H (kpH X (npH H kd n (A u) v tr) (znx H + 1) n) (adS s n kd (u : Int) v tr) := by
  have F := I.1
  have hX := F.2.1.1
  obtain ⟨i1, i2, i3⟩ := I.n0 (n := n)
  obtain ⟨sn1, sn2, sn3⟩ := i2 hn (by omega)
  have st := np_st (H := H) (n := n) (kd := kd) (r := A u) (v := v) (tr := tr)
  obtain ⟨a0, a1, a2, a3, a4, a5, a6⟩ := np_a (H := H) (n := n) (kd := kd) (r := A u) (v := v) (tr := tr)
  obtain ⟨g1, g2, g3, g4, g5⟩ := np_tg (H := H) (n := n) (kd := kd) (r := A u) (v := v) (tr := tr)
  have old : ∀ q k, q ≤ znx H → zct (npH H kd n (A u) v tr) q k = zct H q k := fun q k h => np_old h
  have nx : znx (npH H kd n (A u) v tr) = znx H + 3 := rfl
  have us : zus (npH H kd n (A u) v tr) = zus H + 18 := rfl
  generalize npH H kd n (A u) v tr = H1 at *
  obtain ⟨r3, r4, r5, r6, r0⟩ := adS_r (s := s) (n := n) (a := kd) (b := (u : Int)) (c := v) (d := tr)
  have N := adS_N (s := s) (n := n) (a := kd) (b := (u : Int)) (c := v) (d := tr)
  have Z := adS_z (s := s) (n := n) (a := kd) (b := (u : Int)) (c := v) (d := tr)
  have r08 : adS s n kd (u : Int) v tr 0 8 = s 0 8 := adS_0 (by omega)
  have r24 : adS s n kd (u : Int) v tr 0 24 = s 0 24 := adS_0 (by omega)
  have r25 : adS s n kd (u : Int) v tr 25 = s 25 := adS_o (by omega) (by omega) (by omega) (by omega) (by omega)
  have r29 : adS s n kd (u : Int) v tr 29 = s 29 := adS_o (by omega) (by omega) (by omega) (by omega) (by omega)
  have r14 : adS s n kd (u : Int) v tr 14 = s 14 := adS_o (by omega) (by omega) (by omega) (by omega) (by omega)
  have r64 : adS s n kd (u : Int) v tr 64 = s 64 := adS_o (by omega) (by omega) (by omega) (by omega) (by omega)
  have ru3 : adS s n kd (u : Int) v tr 3 u = s 3 u := adS_u (by omega) (by omega)
  have ru6 : adS s n kd (u : Int) v tr 6 u = s 6 u := adS_u (by omega) (by omega)
  generalize adS s n kd (u : Int) v tr = s' at *
  have eu : ((u : Int)).toNat = u := Int.toNat_natCast u
  have kst : zst H (kpH X H1 (znx H + 1) n) := (st.wr _ _ _).wr _ _ _
  have kc : ∀ q k, X + 99 < q → zct (kpH X H1 (znx H + 1) n) q k = zct H1 q k := fun q k h => by rw [kp_c, if_neg (by omega), if_neg (by omega)]
  have si : SI s' := I.2.2.2.2.1.add N hn r0 r08 r24 r25 i1 ⟨by omega, fun w => absurd w (by omega), fun _ => by
      unfold SIp
      rw [r4, r5, r6, r64, sn3, eu, ru3, ru6]
      exact ⟨by omega, hk, hv, htr, by omega, by omega⟩, fun w => absurd w (by omega), fun w => absurd w (by omega), fun w => absurd w (by omega)⟩ (fun _ j hj => by rw [r29]; exact sn2 j hj) (fun _ _ v hv => by rw [r14]; exact (sn1 v hv).1)
  let A' : Nat → Nat := fun w => if w = n then znx H + 1 else A w
  let B' : Nat → Nat → Nat := fun w j => if w = n then znx H + 2 else B w j
  let ow' : Nat → Nat × Nat := fun a => if a = znx H + 1 then (n + 1, 0) else if a = znx H + 2 then (n + 1, 10) else if a = znx H + 3 then (n + 1, 11) else ow a
  have A1 : A' n = znx H + 1 := if_pos rfl
  have A2 : A' u = A u := if_neg (by omega)
  have B1 : B' n 0 = znx H + 2 := if_pos rfl
  have o1 : ow' (znx H + 1) = (n + 1, 0) := if_pos rfl
  have o2 : ow' (znx H + 2) = (n + 1, 10) := by
    show (if znx H + 2 = znx H + 1 then _ else if znx H + 2 = znx H + 2 then _ else _) = _
    rw [if_neg (by omega), if_pos rfl]
  have o3 : ow' (znx H + 3) = (n + 1, 11) := by
    show (if znx H + 3 = znx H + 1 then _ else if znx H + 3 = znx H + 2 then _ else if znx H + 3 = znx H + 3 then _ else _) = _
    rw [if_neg (by omega), if_neg (by omega), if_pos rfl]
  have iv : IV X (kpH X H1 (znx H + 1) n) s' A' B' K ow' := by
    refine I.add (gs := []) (x := n) hn h59 kst (kp_x hX old) ?_ (fun k => ?_) ?_ Z N r0 (fun w hw => if_neg hw) (fun w hw _ j => if_neg hw) (fun a ha => ?_) ?_ (fun w => absurd w (by omega)) (fun w => absurd w (by omega)) (fun w _ _ h => by omega) si (Or.inl rfl) (Nat.le_refl _)
    · rw [kp_c, if_pos ⟨rfl, rfl⟩]
    · rw [kp_c, if_neg (by omega), A1]
      by_cases e : k = n
      · rw [if_pos ⟨rfl, e⟩, if_pos e]
      · rw [if_neg (fun w => e w.2), if_neg e]
        exact old _ _ (by omega)
    · refine fun a h1 h2 h3 k => ?_
      rw [kp_c, if_neg (by omega), if_neg (by omega)]
      exact old _ _ h2
    · show (if a = znx H + 1 then _ else if a = znx H + 2 then _ else if a = znx H + 3 then _ else ow a) = ow a
      rw [if_neg (by omega), if_neg (by omega), if_neg (by omega)]
    · refine ⟨fun w => absurd w (by omega), fun _ => ?_, fun w => absurd w (by omega), fun w => absurd w (by omega), fun w => absurd w (by omega)⟩
      unfold TOp BarO My
      rw [A1, B1, r3, r4, r5, r6, r64, sn3, eu, A2, o1, o2]
      have nx2 : znx (kpH X H1 (znx H + 1) n) = znx H + 3 := nx
      rw [nx2, show znx H + 2 + 1 = znx H + 3 from rfl, o3, kc _ _ (by omega), kc _ _ (by omega), kc _ _ (by omega), kc _ _ (by omega), kc _ _ (by omega), kc _ _ (by omega), kc _ _ (by omega), kc _ _ (by omega)]
      exact ⟨⟨by omega, by omega, rfl⟩, ⟨g1, a0, a1, a2, a3, a4, a5, a6⟩, ⟨by omega, by omega, rfl⟩, ⟨by omega, by omega, rfl⟩, g2, g5, g3, g4⟩
  refine ⟨kst, ?_, ?_, fun a h1 h2 k => ?_, A', B', K, ow', iv⟩
  · show znx H1 ≤ _
    omega
  · show zus H1 ≤ _
    omega
  · rw [kp_c, if_neg (by omega), if_neg (by omega)]
    exact old _ _ (by omega)
end PART
