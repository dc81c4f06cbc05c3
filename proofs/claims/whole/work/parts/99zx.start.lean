/-! THE LAW from its start to its end -/
section WHOLE
variable {X a0 N : Nat} {h : zHp} {E : Nat → Nat}
theorem st_LI (hX : znx h + 1 = X) (h0 : ztg h 0 = 0) (ek : EK X h E) (bk : BK X h E) (ew : EW X h E) (sc : a0 < X ∧ ztg h a0 = 40 ∧ zln h a0 = N) (z : ∀ k, k < N → zR32 (zct h a0 k)) : LI X (zopsR X h oL) E a0 N := by
  have I := st_IV hX h0
  obtain ⟨⟨n1, n2⟩, n3, n4⟩ := zopsR_ok hX oL
  rw [oL_n] at n1 n4
  generalize zopsR X h oL = F at *
  have low : ∀ a, a < X → ztg F a = ztg h a ∧ zln F a = zln h a ∧ ∀ k, zct F a k = zct h a k := fun a ha => n3 a (by omega)
  obtain ⟨s1, s2, s3⟩ := sc
  refine ⟨⟨_, _, _, _, I⟩, ⟨by omega, (n4 37 (by omega)).1.trans oL_R, fun k hk => ?_⟩, ?_, ?_, fun i hi => ?_, ⟨s1, (low a0 s1).1.trans s2, (low a0 s1).2.1.trans s3⟩, fun k hk => by rw [(low a0 s1).2.2]; exact z k hk⟩
  · have k82 : k < 82 := by
      by_cases g : k < 82
      · exact g
      · rw [zrk_out (by omega)] at hk
        exact absurd hk (by decide)
    obtain ⟨a, b, c⟩ := oL_rg ⟨k, k82⟩ hk
    dsimp only at a b c
    have r62 : zrk k ≤ 62 := by
      by_cases hz : zrk k = 0
      · omega
      · exact (zrn_k ⟨k, k82⟩ hz).2
    unfold zra
    rw [(n4 37 (by omega)).2.2, a, Nat.add_assoc]
    refine ⟨?_, (n4 _ (by omega)).1.trans b, (n4 _ (by omega)).2.1.trans c⟩
    show ((X + (((37 + zrk k : Nat) : Int)).toNat : Nat) : Int) = _
    rw [Int.toNat_natCast]
  · obtain ⟨⟨a, b⟩, c⟩ := ek
    obtain ⟨l1, l2, l3⟩ := low (E 13) a
    unfold EK
    rw [l1, l2]
    simp only [l3]
    exact ⟨⟨a, by omega⟩, c⟩
  · obtain ⟨⟨a, b⟩, c⟩ := bk
    obtain ⟨l1, l2, l3⟩ := low (E 14) a
    unfold BK
    rw [l1, l2]
    simp only [l3]
    exact ⟨⟨a, by omega⟩, c⟩
  · obtain ⟨a, b, c⟩ := ew i hi
    obtain ⟨l1, l2, l3⟩ := low (E i) b
    rw [l3]
    exact ⟨a.same fun q hq => low q (by omega), b, c⟩
theorem oL_us : usR oL ≤ 400000 := by decide +kernel
/-- the whole law: it answers 1, and what it takes of the room -/
theorem st_law (hX : znx h + 1 = X) (h0 : ztg h 0 = 0) (ek : EK X h E) (bk : BK X h E) (ew : EW X h E) (sc : a0 < X ∧ ztg h a0 = 40 ∧ zln h a0 = N) (z : ∀ k, k < N → zR32 (zct h a0 k)) (hN : N ≤ 4096) : ∃ Hf, fW_law E a0 h = some (1, Hf) ∧ znx h ≤ znx Hf ∧ znx Hf ≤ znx h + 200000 ∧ zus Hf ≤ zus h + 3000000 := by
  obtain ⟨⟨n1, n2⟩, -⟩ := zopsR_ok hX oL
  rw [oL_n] at n1
  have us := oL_us
  obtain ⟨Hf, k1, k2, k3, k4⟩ := law_loop (X := X) (a0 := a0) (E := E) hN 512 0 zFU (zopsR X h oL) (by omega) (by omega) (by rw [zFU_e]; omega) (st_LI hX h0 ek bk ew sc z)
  refine ⟨Hf, ?_, by omega, by omega, by omega⟩
  unfold fW_law
  refine (z_nw (r := []) (o := 0) hX rfl).trans ?_
  refine (z_n0 (o := 0) hX).trans ?_
  refine (z_bd (st_H hX)).trans ?_
  refine (z_nw (r := oLH) (o := 37) hX (by decide +kernel)).trans ?_
  refine (z_n0 (o := 37) hX).trans ?_
  refine (z_bd (st_M hX)).trans ?_
  exact k1
end WHOLE
