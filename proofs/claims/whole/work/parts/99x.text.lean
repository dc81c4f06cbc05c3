section TEXT6
variable {H : zHp} {C n p : Nat} {f : Nat → Int} {E : Nat → Nat}
/-- a faulty reading goes no further -/
theorem e_num1 (h0 : CT H C n f E) (s : PS H C p 1) : ∃ v H', fContract_readNumber E C H = some (v, H') ∧ CP C H H' ∧ PS H' C p 1 := by
  obtain ⟨H1, r1, r2, r3⟩ := e_pick1 h0 s (a := E 4)
  have ct := h0.cw r2
  refine ⟨-1, H1, ?_, r2, r3⟩
  unfold fContract_readNumber
  simp only [yck, h0.1.1, zA1, if_true, r1, ybd_s]
  rw [show zFU = 999999 + 1 from rfl, fContract_readNumber_l1]
  simp only [show (1 : Int) < 3 by decide, if_true, ygi, ct.1.1, zA1, r3.2]
  rw [if_neg (by decide)]
theorem e_single1 (h0 : CT H C n f E) (s : PS H C p 1) {F : Nat → Int → zHp → Option (Int × zHp)} {dep : Int} : ∃ r H', fContract_single_b E F C dep H = some (r, H') ∧ CP C H H' ∧ PS H' C p 1 ∧ (r = 0 ∨ r = 1) := by
  obtain ⟨H1, r1, r2, r3⟩ := e_pick1 h0 s (a := E 9)
  have c1 := h0.cw r2
  obtain ⟨H2, s1, s2, s3⟩ := e_pick1 c1 r3 (a := E 11)
  have c2 := c1.cw s2
  obtain ⟨v, H3, t1, t2, t3⟩ := e_num1 c2 s3
  have c3 := c2.cw t2
  have m1 : ¬ (-1 : Int) = 0 := by decide
  have m2 : ¬ (2 : Int) < -1 := by decide
  have m3 : ¬ (-1 : Int) = 1 := by decide
  have fin : ∀ (K : Option (Int × zHp)), K = (if v < zct H3 C 10 then some (1, H3) else some (0, H3)) → ∃ r H', K = some (r, H') ∧ CP C H H' ∧ PS H' C p 1 ∧ (r = 0 ∨ r = 1) := fun K e => by
    by_cases c : v < zct H3 C 10
    · exact ⟨1, H3, by rw [e, if_pos c], (r2.tr s2).tr t2, t3, Or.inr rfl⟩
    · exact ⟨0, H3, by rw [e, if_neg c], (r2.tr s2).tr t2, t3, Or.inl rfl⟩
  have fin2 : ∀ (K : Option (Int × zHp)), K = (if zct H3 C 10 < v then some (1, H3) else some (0, H3)) → ∃ r H', K = some (r, H') ∧ CP C H H' ∧ PS H' C p 1 ∧ (r = 0 ∨ r = 1) := fun K e => by
    by_cases c : zct H3 C 10 < v
    · exact ⟨1, H3, by rw [e, if_pos c], (r2.tr s2).tr t2, t3, Or.inr rfl⟩
    · exact ⟨0, H3, by rw [e, if_neg c], (r2.tr s2).tr t2, t3, Or.inl rfl⟩
  by_cases g : dep < 5
  · first
    | refine fin _ ?_
      unfold fContract_single_b
      simp only [yjn, g, if_true, yck, h0.1.1, zA1, r1, ybd_s, m1, if_false, m2, c1.1.1, s1, c2.1.1, t1, m3, ygi, c3.1.1]
      done
    | refine fin2 _ ?_
      unfold fContract_single_b
      simp only [yjn, g, if_true, yck, h0.1.1, zA1, r1, ybd_s, m1, if_false, m2, c1.1.1, s1, c2.1.1, t1, m3, ygi, c3.1.1]
      done
  · first
    | refine fin _ ?_
      unfold fContract_single_b
      simp only [yjn, g, if_true, yck, h0.1.1, zA1, e_sees1 h0 s, r1, ybd_s, m1, if_false, m2, c1.1.1, s1, c2.1.1, t1, m3, ygi, c3.1.1]
      done
    | refine fin2 _ ?_
      unfold fContract_single_b
      simp only [yjn, g, if_true, yck, h0.1.1, zA1, e_sees1 h0 s, r1, ybd_s, m1, if_false, m2, c1.1.1, s1, c2.1.1, t1, m3, ygi, c3.1.1]
      done
end TEXT6
