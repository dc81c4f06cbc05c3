section NEWSCORE2
variable {X : Nat} {H : zHp} {s : zSg} {A : Nat → Nat} {B : Nat → Nat → Nat} {K : Nat → Nat} {ow : Nat → Nat × Nat} {n : Nat}
theorem IV.newscore (I : IV X H s A B K ow) (hn : s 0 2 = (n : Int)) (h59 : n ≤ 59) {kd au me vo : Int} {u : Nat} (hu : (kd = 1 ∧ u = n) ∨ (kd = 6 ∧ u < n ∧ s 3 u = 1)) (ha : 0 ≤ au ∧ au < s 0 8) (hme : 2 ≤ me ∧ me ≤ 12) (hvo : 1 ≤ vo ∧ vo ≤ 4) :
    KD X H (kpH X (nsH H kd n (if kd = 1 then 0 else A u) au me vo) (znx H + 1) n) (zup (adS s n kd (u : Int) me vo) 7 n au) := by
  have F := I.1
  have hX := F.2.1.1
  obtain ⟨i1, i2, i3⟩ := I.n0 (n := n)
  obtain ⟨sn1, sn2, sn3⟩ := i2 hn (by omega)
  generalize hr : (if kd = 1 then 0 else A u) = r
  have st := ns_st (H := H) (n := n) (kd := kd) (r := r) (au := au) (me := me) (vo := vo)
  obtain ⟨a0, a1, a2, a3, a4, a5, a6, a7, a8⟩ := ns_a (H := H) (n := n) (kd := kd) (r := r) (au := au) (me := me) (vo := vo)
  obtain ⟨g1, g2, g3, g4, g5⟩ := ns_at (H := H) (n := n) (kd := kd)
  have old : ∀ q k, q ≤ znx H → zct (nsH H kd n r au me vo) q k = zct H q k := fun q k h => ns_old h
  have nx : znx (nsH H kd n r au me vo) = znx H + 3 := rfl
  have us : zus (nsH H kd n r au me vo) = zus H + 92 := rfl
  have g1 : ztg (nsH H kd n r au me vo) (znx H + 1) = 9 := g1
  have g2 : ztg (nsH H kd n r au me vo) (znx H + 2) = 36 := g2
  have g3 : zln (nsH H kd n r au me vo) (znx H + 2) = 80 := g3
  have g4 : ztg (nsH H kd n r au me vo) (znx H + 3) = 30 := g4
  have g5 : zln (nsH H kd n r au me vo) (znx H + 3) = 4 := g5
  generalize nsH H kd n r au me vo = H1 at *
  obtain ⟨r3, r4, r5, r6, r0⟩ := adS_r (s := s) (n := n) (a := kd) (b := (u : Int)) (c := me) (d := vo)
  have N := adS_N (s := s) (n := n) (a := kd) (b := (u : Int)) (c := me) (d := vo)
  have Z := adS_z (s := s) (n := n) (a := kd) (b := (u : Int)) (c := me) (d := vo)
  have r08 : adS s n kd (u : Int) me vo 0 8 = s 0 8 := adS_0 (by omega)
  have r24 : adS s n kd (u : Int) me vo 0 24 = s 0 24 := adS_0 (by omega)
  have r25 : adS s n kd (u : Int) me vo 25 = s 25 := adS_o (by omega) (by omega) (by omega) (by omega) (by omega)
  have r29 : adS s n kd (u : Int) me vo 29 = s 29 := adS_o (by omega) (by omega) (by omega) (by omega) (by omega)
  have r14 : adS s n kd (u : Int) me vo 14 = s 14 := adS_o (by omega) (by omega) (by omega) (by omega) (by omega)
  have ru3 : u < n → adS s n kd (u : Int) me vo 3 u = s 3 u := fun h => adS_u (by omega) (by omega)
  generalize adS s n kd (u : Int) me vo = s1 at *
  have N2 : NCh n s (zup s1 7 n au) := by
    obtain ⟨y1, y2, y3, y4, y5, y6⟩ := N
    refine ⟨fun k hk w hw => ?_, fun j hj => ?_, fun j hj => ?_, fun j hj => ?_, fun j hj => ?_, fun j hj => ?_⟩
    · rw [← y1 k hk w hw]
      simp [zup, hw]
    · rw [zup_o (by omega), zup_o (by omega)]; exact y2 j hj
    · rw [zup_o (by omega)]; exact y3 j hj
    · rw [zup_o (by omega), zup_o (by omega), zup_o (by omega)]; exact y4 j hj
    · rw [zup_o (by omega), zup_o (by omega)]; exact y5 j hj
    · rw [zup_o (by omega), zup_o (by omega), zup_o (by omega), zup_o (by omega), zup_o (by omega), zup_o (by omega)]; exact y6 j hj
  have Z2 : zfs [10] s (zup s1 7 n au) := Z.up (by decide) rfl
  have q3 : zup s1 7 n au 3 n = kd := by rw [zup_o (by omega)]; exact r3
  have q4 : zup s1 7 n au 4 n = (u : Int) := by rw [zup_o (by omega)]; exact r4
  have q5 : zup s1 7 n au 5 n = me := by rw [zup_o (by omega)]; exact r5
  have q6 : zup s1 7 n au 6 n = vo := by rw [zup_o (by omega)]; exact r6
  have q7 : zup s1 7 n au 7 n = au := by rw [zup_r]; dsimp only; rw [if_pos rfl]
  have q0 : zup s1 7 n au 0 2 = ((n + 1 : Nat) : Int) := by rw [zup_o (by omega)]; exact r0
  have q08 : zup s1 7 n au 0 8 = s 0 8 := by rw [zup_o (by omega)]; exact r08
  have q24 : zup s1 7 n au 0 24 = s 0 24 := by rw [zup_o (by omega)]; exact r24
  have q25 : zup s1 7 n au 25 = s 25 := by rw [zup_o (by omega)]; exact r25
  have q29 : zup s1 7 n au 29 = s 29 := by rw [zup_o (by omega)]; exact r29
  have q14 : zup s1 7 n au 14 = s 14 := by rw [zup_o (by omega)]; exact r14
  have qu3 : u < n → zup s1 7 n au 3 u = s 3 u := fun h => by rw [zup_o (by omega)]; exact ru3 h
  generalize zup s1 7 n au = s' at *
  have eu : ((u : Int)).toNat = u := Int.toNat_natCast u
  have kst : zst H (kpH X H1 (znx H + 1) n) := (st.wr _ _ _).wr _ _ _
  have kc : ∀ q k, X + 99 < q → zct (kpH X H1 (znx H + 1) n) q k = zct H1 q k := fun q k h => by rw [kp_c, if_neg (by omega), if_neg (by omega)]
  have ns : SIs s' n := by
    unfold SIs
    rw [q3, q4, q5, q6, q7, q08, q14, eu]
    refine ⟨hme, hvo, ha, fun w => by omega, fun w => ?_, fun v hv => ?_⟩
    · rcases hu with ⟨w', -⟩ | ⟨-, h1, h2⟩
      · omega
      · rw [qu3 h1]
        exact ⟨by omega, by omega, h2⟩
    · rw [(sn1 v hv).1]
      exact ⟨by omega, fun _ => rfl, fun b hb => absurd hb (by omega)⟩
  have si : SI s' := I.2.2.2.2.1.add N2 hn q0 q08 q24 q25 i1 ⟨by omega, fun _ => ns, fun w => absurd w (by omega), fun w => absurd w (by omega), fun w => absurd w (by omega), fun w => absurd w (by omega)⟩ (fun _ j hj => by rw [q29]; exact sn2 j hj) (fun _ _ v hv => by rw [q14]; exact (sn1 v hv).1)
  let A' : Nat → Nat := fun w => if w = n then znx H + 1 else A w
  let B' : Nat → Nat → Nat := B
  let ow' : Nat → Nat × Nat := fun a => if a = znx H + 1 then (n + 1, 0) else if a = znx H + 2 then (n + 1, 1) else if a = znx H + 3 then (n + 1, 2) else ow a
  have A1 : A' n = znx H + 1 := if_pos rfl
  have o1 : ow' (znx H + 1) = (n + 1, 0) := if_pos rfl
  have o2 : ow' (znx H + 2) = (n + 1, 1) := by
    show (if znx H + 2 = znx H + 1 then _ else if znx H + 2 = znx H + 2 then _ else _) = _
    rw [if_neg (by omega), if_pos rfl]
  have o3 : ow' (znx H + 3) = (n + 1, 2) := by
    show (if znx H + 3 = znx H + 1 then _ else if znx H + 3 = znx H + 2 then _ else if znx H + 3 = znx H + 3 then _ else _) = _
    rw [if_neg (by omega), if_neg (by omega), if_pos rfl]
  have iv : IV X (kpH X H1 (znx H + 1) n) s' A' B' K ow' := by
    refine I.add (gs := []) (x := n) hn h59 kst (kp_x hX old) ?_ (fun k => ?_) ?_ Z2 N2 q0 (fun w hw => if_neg hw) (fun w hw _ j => rfl) (fun a ha => ?_) ?_ (fun w => absurd w (by omega)) (fun w => absurd w (by omega)) (fun w _ _ h => by omega) si (Or.inl rfl) (Nat.le_refl _)
    · rw [kp_c, if_pos ⟨rfl, rfl⟩]
    · rw [kp_c, if_neg (by omega), A1]
      by_cases e : k = n
      · rw [if_pos ⟨rfl, e⟩, if_pos e]
      · rw [if_neg (fun w => e w.2), if_neg e]
        exact old _ _ (by omega)
    · refine fun a h1 h2 h3 k => ?_
      rw [kp_c, if_neg (by omega), if_neg (by omega)]
      exact old _ _ h2
    · show (if a = znx H + 1 then _ else if a = znx H + 2 then _ else if a = znx H + 3 then _ else ow a) = ow a
      rw [if_neg (by omega), if_neg (by omega), if_neg (by omega)]
    · refine ⟨fun _ => ?_, fun w => absurd w (by omega), fun w => absurd w (by omega), fun w => absurd w (by omega), fun w => absurd w (by omega)⟩
      unfold TOs My
      have nx2 : znx (kpH X H1 (znx H + 1) n) = znx H + 3 := nx
      rw [A1, q3, q4, q5, q6, q7, q14, eu, o1, show znx H + 1 + 1 = znx H + 2 from rfl, show znx H + 1 + 2 = znx H + 3 from rfl, o2, o3, nx2, kc _ _ (by omega), kc _ _ (by omega), kc _ _ (by omega), kc _ _ (by omega), kc _ _ (by omega), kc _ _ (by omega), kc _ _ (by omega), kc _ _ (by omega)]
      refine ⟨⟨⟨by omega, by omega, rfl⟩, ⟨by omega, by omega, rfl⟩, ⟨by omega, by omega, rfl⟩⟩, ⟨g1, a0, a1, a3, a4, a5, a6, a7⟩, ?_, ⟨g2, g3, g4, g5⟩, fun v hv => ?_⟩
      · rw [a2, ← hr]
        by_cases e : kd = 1
        · rw [if_pos e, if_pos e]; rfl
        · rw [if_neg e, if_neg e]
          show _ = (((if u = n then znx H + 1 else A u) : Nat) : Int)
          rw [if_neg (by omega)]
      · rw [kc _ _ (by omega), a8, (sn1 v hv).1]
        exact ⟨rfl, fun b hb => absurd hb (by omega)⟩
  refine ⟨kst, ?_, ?_, fun a h1 h2 k => ?_, A', B', K, ow', iv⟩
  · show znx H1 ≤ _
    omega
  · show zus H1 ≤ _
    omega
  · rw [kp_c, if_neg (by omega), if_neg (by omega)]
    exact old _ _ (by omega)
end NEWSCORE2
