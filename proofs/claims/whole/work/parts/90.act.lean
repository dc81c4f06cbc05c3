section ACT2
variable {X : Nat} {H0 : zHp} {s0 : zSg} {E : Nat → Nat} {t a : Nat} {k : Int}
/-- a body of the class and a method of the reference do the same -/
def Sim (E : Nat → Nat) (X a : Nat) (H0 : zHp) (s0 : zSg) (w k : Int) (ref : Int → zSg → Option (Int × zSg)) (fu cn : Nat) : Prop := ∀ (f : Nat) (x d : Int) (H : zHp) (s : zSg) (c : Nat), fu ≤ f → 0 ≤ d → d + fu ≤ 30 → LR X H0 H s0 s c → c + cn ≤ 100 → ∃ v H' s' c', fH_runBody E f X a w k x d H = some (v, H') ∧ ref x s = some (v, s') ∧ LR X H0 H' s0 s' c' ∧ c' ≤ c + cn
theorem LR.tg {X : Nat} {H0 H : zHp} {s0 s : zSg} {c : Nat} (Fx : IFx X H0) (L : LR X H0 H s0 s c) : ztg H X = 11 := by
  rw [(L.1.2.2 _ (by have := Fx.2.1.1; omega)).1]; exact ft0 Fx
theorem LR.ob {X : Nat} {H0 H : zHp} {s0 s : zSg} {c : Nat} (hX : X + 99 < a) (ha : a ≤ znx H0) (g : zisA 20 (ztg H0 a) = true) (L : LR X H0 H s0 s c) : zisA 20 (ztg H a) = true ∧ zct H a 0 = zct H0 a 0 ∧ zct H a 1 = zct H0 a 1 := by
  rw [(L.1.2.2 _ ha).1, L.2.2.2.1 _ _ (by omega) (by omega), L.2.2.2.1 _ _ (by omega) (by omega)]
  exact ⟨g, rfl, rfl⟩
section SIM
theorem LR.k3 {H : zHp} {s : zSg} {c : Nat} (h3 : s0 3 t = k) (L : LR X H0 H s0 s c) : s 3 t = k := by rw [L.2.2.2.2.1 3 t (by omega) (by omega)]; exact h3
theorem sim_plainHolds (Fx : IFx X H0) (ek : EK X H0 E) (bk : BK X H0 E) (hX : X + 99 < a) (ha : a ≤ znx H0) (g : zisA 20 (ztg H0 a) = true) (h1 : zct H0 a 1 = (t : Int)) {k' : Int} (hk' : 0 ≤ k' ∧ k' ≤ 7) (hz : zbO 0 k' = 10) : Sim E X a H0 s0 0 k' (gM_plainHolds (t : Int)) 1 1 := by
  intro f x d H s c hf hd hd2 L hc
  obtain ⟨f, rfl⟩ : ∃ f', f = f' + 1 := ⟨f - 1, by omega⟩
  obtain ⟨H1, s1, r1, r2, r3⟩ := e_run Fx ek bk L (by omega) (w := 0) (k := k') (by omega) hk'
  obtain ⟨o1, o2, o3⟩ := r3.ob hX ha g
  rw [hz] at r1 r2
  refine ⟨zadd x (t : Int), H1, s1, c + 1, ?_, ?_, r3, by omega⟩
  · rw [r1 f a x d hd (by omega)]
    unfold fH_answerOf
    simp only [ygi, o1, o3, h1, if_true, ybd_s]
  · unfold gM_plainHolds
    rw [r2, ybd_s]
theorem sim_scoreHolds (Fx : IFx X H0) (ek : EK X H0 E) (bk : BK X H0 E) (hX : X + 99 < a) (ha : a ≤ znx H0) (g : zisA 20 (ztg H0 a) = true) (h1 : zct H0 a 1 = (t : Int)) {k' : Int} (hk' : 0 ≤ k' ∧ k' ≤ 7) (hz : zbO 0 k' = 20) (hz2 : zaO 0 k' = 0) : Sim E X a H0 s0 0 k' (gM_scoreHolds (t : Int)) 2 2 := by
  intro f x d H s c hf hd hd2 L hc
  obtain ⟨f, rfl⟩ : ∃ f', f = f' + 1 := ⟨f - 1, by omega⟩
  obtain ⟨H1, s1, r1, r2, r3⟩ := e_run Fx ek bk L (by omega) (w := 0) (k := k') (by omega) hk'
  rw [hz] at r1 r2
  rw [hz2] at r1
  obtain ⟨v, H2, s2, c2, q1, q2, q3, q4⟩ := sim_plainHolds Fx ek bk hX ha g h1 (k' := 0) (by omega) rfl f x (d + 1) H1 s1 (c + 1) (by omega) (by omega) (by omega) r3 (by omega)
  refine ⟨zmul v 2, H2, s2, c2, ?_, ?_, q3, by omega⟩
  · rw [r1 f a x d hd (by omega)]
    unfold fH_answerOf
    simp only [yck, r3.tg Fx, zA10, if_true, q1, ybd_s, Int.reduceEq, if_false]
  · unfold gM_scoreHolds
    simp only [r2, ybd_s, q2]
theorem sim_holds (Fx : IFx X H0) (ek : EK X H0 E) (bk : BK X H0 E) (hX : X + 99 < a) (ha : a ≤ znx H0) (g : zisA 20 (ztg H0 a) = true) (h1 : zct H0 a 1 = (t : Int)) (ht : t < 60) (h3 : s0 3 t = k) (hk : 1 ≤ k ∧ k ≤ 7) : Sim E X a H0 s0 0 k (gM_holds (t : Int)) 3 3 := by
  intro f x d H s c hf hd hd2 L hc
  have k3 := L.k3 h3
  by_cases k4 : k = 4
  · obtain ⟨f, rfl⟩ : ∃ f', f = f' + 1 := ⟨f - 1, by omega⟩
    obtain ⟨H1, s1, r1, r2, r3⟩ := e_run Fx ek bk L (by omega) (w := 0) (k := k) (by omega) (by omega)
    rw [k4, show zbO 0 4 = 50 from rfl] at r1 r2
    rw [show zaO 0 4 = 0 from rfl] at r1
    obtain ⟨v, H2, s2, c2, q1, q2, q3, q4⟩ := sim_plainHolds Fx ek bk hX ha g h1 (k' := 0) (by omega) rfl f (zadd x 4) (d + 1) H1 s1 (c + 1) (by omega) (by omega) (by omega) r3 (by omega)
    refine ⟨v, H2, s2, c2, ?_, ?_, q3, by omega⟩
    · rw [k4, r1 f a x d hd (by omega)]
      unfold fH_answerOf
      simp only [yck, r3.tg Fx, zA10, if_true, q1, ybd_s, Int.reduceEq, if_false]
    · unfold gM_holds
      simp only [yrd_n ht, k3, k4, if_true, r2, ybd_s, q2]
  · by_cases k5 : k = 5
    · obtain ⟨f, rfl⟩ : ∃ f', f = f' + 1 := ⟨f - 1, by omega⟩
      obtain ⟨H1, s1, r1, r2, r3⟩ := e_run Fx ek bk L (by omega) (w := 0) (k := k) (by omega) (by omega)
      rw [k5, show zbO 0 5 = 61 from rfl] at r1 r2
      rw [show zaO 0 5 = 2 from rfl] at r1
      obtain ⟨v, H2, s2, c2, q1, q2, q3, q4⟩ := sim_scoreHolds Fx ek bk hX ha g h1 (k' := 2) (by omega) rfl rfl f x (d + 1) H1 s1 (c + 1) (by omega) (by omega) (by omega) r3 (by omega)
      refine ⟨zadd v 1, H2, s2, c2, ?_, ?_, q3, by omega⟩
      · rw [k5, r1 f a x d hd (by omega)]
        unfold fH_answerOf
        simp only [yck, r3.tg Fx, zA10, if_true, q1, ybd_s, Int.reduceEq, if_false]
      · unfold gM_holds
        simp only [yrd_n ht, k3, k5, Int.reduceEq, if_false, if_true, r2, ybd_s, q2]
    · have un : gM_holds (t : Int) x s = (if k = 1 ∨ k = 2 ∨ k = 6 then gM_scoreHolds (t : Int) x s else gM_plainHolds (t : Int) x s) := by
        unfold gM_holds
        simp only [yrd_n ht, k3, k4, k5, if_false, m_isUnder, ybd_s, i01, Int.reduceEq, false_or, false_and, or_false, true_and]
        by_cases g : k = 1 ∨ k = 2 ∨ k = 6
        · rw [if_neg (by omega), if_pos g]
          cases gM_scoreHolds (t : Int) x s with
          | none => rfl
          | some q => rfl
        · rw [if_pos (by omega), if_neg g]
          cases gM_plainHolds (t : Int) x s with
          | none => rfl
          | some q => rfl
      rw [un]
      by_cases g' : k = 1 ∨ k = 2 ∨ k = 6
      · rw [if_pos g']
        have := sim_scoreHolds Fx ek bk hX ha g h1 (s0 := s0) (k' := k) (by omega) (by rcases g' with w | w | w <;> rw [w] <;> rfl) (by rcases g' with w | w | w <;> rw [w] <;> rfl) f x d H s c (by omega) hd (by omega) L (by omega)
        obtain ⟨v, H2, s2, c2, q1, q2, q3, q4⟩ := this
        exact ⟨v, H2, s2, c2, q1, q2, q3, by omega⟩
      · rw [if_neg g']
        have := sim_plainHolds Fx ek bk hX ha g h1 (s0 := s0) (k' := k) (by omega) (by rcases (show k = 3 ∨ k = 7 by omega) with w | w <;> rw [w] <;> rfl) f x d H s c (by omega) hd (by omega) L (by omega)
        obtain ⟨v, H2, s2, c2, q1, q2, q3, q4⟩ := this
        exact ⟨v, H2, s2, c2, q1, q2, q3, by omega⟩
theorem sim_plainTurns (Fx : IFx X H0) (ek : EK X H0 E) (bk : BK X H0 E) (hX : X + 99 < a) (ha : a ≤ znx H0) (g : zisA 20 (ztg H0 a) = true) (h0 : zct H0 a 0 = k) (h1 : zct H0 a 1 = (t : Int)) (ht : t < 60) (h3 : s0 3 t = k) (hk : 1 ≤ k ∧ k ≤ 7) {k' : Int} (hk' : 0 ≤ k' ∧ k' ≤ 7) (hz : zbO 1 k' = 11) : Sim E X a H0 s0 1 k' (gM_plainTurns (t : Int)) 4 4 := by
  intro f x d H s c hf hd hd2 L hc
  obtain ⟨f, rfl⟩ : ∃ f', f = f' + 1 := ⟨f - 1, by omega⟩
  obtain ⟨H1, s1, r1, r2, r3⟩ := e_run Fx ek bk L (by omega) (w := 1) (k := k') (by omega) hk'
  obtain ⟨o1, o2, o3⟩ := r3.ob hX ha g
  rw [hz] at r1 r2
  obtain ⟨v, H2, s2, c2, q1, q2, q3, q4⟩ := sim_holds Fx ek bk hX ha g h1 ht h3 hk f x (d + 1) H1 s1 (c + 1) (by omega) (by omega) (by omega) r3 (by omega)
  refine ⟨zxor v 3, H2, s2, c2, ?_, ?_, q3, by omega⟩
  · rw [r1 f a x d hd (by omega)]
    unfold fH_answerOf
    simp only [ygi, yck, o1, o2, h0, r3.tg Fx, zA10, if_true, q1, ybd_s, Int.reduceEq, if_false]
  · unfold gM_plainTurns
    simp only [r2, ybd_s, q2]
theorem sim_partTurns (Fx : IFx X H0) (ek : EK X H0 E) (bk : BK X H0 E) (hX : X + 99 < a) (ha : a ≤ znx H0) (g : zisA 20 (ztg H0 a) = true) (h0 : zct H0 a 0 = k) (h1 : zct H0 a 1 = (t : Int)) (ht : t < 60) (h3 : s0 3 t = k) (hk : 1 ≤ k ∧ k ≤ 7) {k' : Int} (hk' : 0 ≤ k' ∧ k' ≤ 7) (hz : zbO 1 k' = 30) (hz2 : zaO 1 k' = 1) : Sim E X a H0 s0 1 k' (gM_partTurns (t : Int)) 5 8 := by
  intro f x d H s c hf hd hd2 L hc
  obtain ⟨f, rfl⟩ : ∃ f', f = f' + 1 := ⟨f - 1, by omega⟩
  obtain ⟨H1, s1, r1, r2, r3⟩ := e_run Fx ek bk L (by omega) (w := 1) (k := k') (by omega) hk'
  rw [hz] at r1 r2
  rw [hz2] at r1
  obtain ⟨v, H2, s2, c2, q1, q2, q3, q4⟩ := sim_plainTurns Fx ek bk hX ha g h0 h1 ht h3 hk (k' := 1) (by omega) rfl f x (d + 1) H1 s1 (c + 1) (by omega) (by omega) (by omega) r3 (by omega)
  obtain ⟨v', H3, s3, c3, j1, j2, j3, j4⟩ := sim_holds Fx ek bk hX ha g h1 ht h3 hk f 1 (d + 1) H2 s2 c2 (by omega) (by omega) (by omega) q3 (by omega)
  obtain ⟨o1, o2, o3⟩ := q3.ob hX ha g
  refine ⟨zadd v v', H3, s3, c3, ?_, ?_, j3, by omega⟩
  · rw [r1 f a x d hd (by omega)]
    unfold fH_answerOf
    simp only [ygi, yck, o1, o2, h0, r3.tg Fx, q3.tg Fx, zA10, if_true, q1, j1, ybd_s, Int.reduceEq, if_false]
  · unfold gM_partTurns
    simp only [r2, ybd_s, q2, j2]
theorem sim_turns (Fx : IFx X H0) (ek : EK X H0 E) (bk : BK X H0 E) (hX : X + 99 < a) (ha : a ≤ znx H0) (g : zisA 20 (ztg H0 a) = true) (h0 : zct H0 a 0 = k) (h1 : zct H0 a 1 = (t : Int)) (ht : t < 60) (h3 : s0 3 t = k) (hk : 1 ≤ k ∧ k ≤ 7) : Sim E X a H0 s0 1 k (gM_turns (t : Int)) 6 9 := by
  intro f x d H s c hf hd hd2 L hc
  have k3 := L.k3 h3
  by_cases k5 : k = 5
  · obtain ⟨f, rfl⟩ : ∃ f', f = f' + 1 := ⟨f - 1, by omega⟩
    obtain ⟨H1, s1, r1, r2, r3⟩ := e_run Fx ek bk L (by omega) (w := 1) (k := k) (by omega) (by omega)
    rw [k5, show zbO 1 5 = 60 from rfl] at r1 r2
    rw [show zaO 1 5 = 2 from rfl] at r1
    obtain ⟨v, H2, s2, c2, q1, q2, q3, q4⟩ := sim_partTurns Fx ek bk hX ha g h0 h1 ht h3 hk (k' := 2) (by omega) rfl rfl f x (d + 1) H1 s1 (c + 1) (by omega) (by omega) (by omega) r3 (by omega)
    refine ⟨zneg v, H2, s2, c2, ?_, ?_, q3, by omega⟩
    · rw [k5, r1 f a x d hd (by omega)]
      unfold fH_answerOf
      simp only [yck, r3.tg Fx, zA10, if_true, q1, ybd_s, Int.reduceEq, if_false]
    · unfold gM_turns
      simp only [yrd_n ht, k3, k5, if_true, r2, ybd_s, q2]
  · by_cases k2 : k = 2
    · obtain ⟨v, H2, s2, c2, q1, q2, q3, q4⟩ := sim_partTurns Fx ek bk hX ha g h0 h1 ht h3 hk (k' := k) (by omega) (by rw [k2]; rfl) (by rw [k2]; rfl) f x d H s c (by omega) hd (by omega) L (by omega)
      refine ⟨v, H2, s2, c2, q1, ?_, q3, by omega⟩
      unfold gM_turns
      simp only [yrd_n ht, k3, k2, Int.reduceEq, if_false, if_true, ybd_s, q2]
    · by_cases k7 : k = 7
      · obtain ⟨f, rfl⟩ : ∃ f', f = f' + 1 := ⟨f - 1, by omega⟩
        obtain ⟨H1, s1, r1, r2, r3⟩ := e_run Fx ek bk L (by omega) (w := 1) (k := k) (by omega) (by omega)
        obtain ⟨o1, o2, o3⟩ := r3.ob hX ha g
        rw [k7, show zbO 1 7 = 80 from rfl] at r1 r2
        rw [show zaO 1 7 = 0 from rfl] at r1
        obtain ⟨v, H2, s2, c2, q1, q2, q3, q4⟩ := sim_holds Fx ek bk hX ha g h1 ht h3 hk f x (d + 1) H1 s1 (c + 1) (by omega) (by omega) (by omega) r3 (by omega)
        obtain ⟨v', H3, s3, c3, j1, j2, j3, j4⟩ := sim_plainTurns Fx ek bk hX ha g h0 h1 ht h3 hk (k' := 0) (by omega) rfl f x (d + 1) H2 s2 c2 (by omega) (by omega) (by omega) q3 (by omega)
        rw [k7] at q1
        refine ⟨zsub v v', H3, s3, c3, ?_, ?_, j3, by omega⟩
        · rw [k7, r1 f a x d hd (by omega)]
          unfold fH_answerOf
          simp only [ygi, yck, o1, o2, h0, k7, r3.tg Fx, q3.tg Fx, zA10, if_true, q1, j1, ybd_s, Int.reduceEq, if_false]
        · unfold gM_turns
          simp only [yrd_n ht, k3, k7, Int.reduceEq, if_false, if_true, r2, ybd_s, q2, j2]
      · obtain ⟨v, H2, s2, c2, q1, q2, q3, q4⟩ := sim_plainTurns Fx ek bk hX ha g h0 h1 ht h3 hk (k' := k) (by omega) (by rcases (show k = 1 ∨ k = 3 ∨ k = 4 ∨ k = 6 by omega) with w | w | w | w <;> rw [w] <;> rfl) f x d H s c (by omega) hd (by omega) L (by omega)
        refine ⟨v, H2, s2, c2, q1, ?_, q3, by omega⟩
        unfold gM_turns
        simp only [yrd_n ht, k3, k5, k2, k7, if_false, ybd_s, q2]
theorem sim_plainEarns (Fx : IFx X H0) (ek : EK X H0 E) (bk : BK X H0 E) (hX : X + 99 < a) (ha : a ≤ znx H0) (g : zisA 20 (ztg H0 a) = true) (h0 : zct H0 a 0 = k) (h1 : zct H0 a 1 = (t : Int)) (ht : t < 60) (h3 : s0 3 t = k) (hk : 1 ≤ k ∧ k ≤ 7) {k' : Int} (hk' : 0 ≤ k' ∧ k' ≤ 7) (hz : zbO 2 k' = 12) : Sim E X a H0 s0 2 k' (gM_plainEarns (t : Int)) 7 10 := by
  intro f x d H s c hf hd hd2 L hc
  obtain ⟨f, rfl⟩ : ∃ f', f = f' + 1 := ⟨f - 1, by omega⟩
  obtain ⟨H1, s1, r1, r2, r3⟩ := e_run Fx ek bk L (by omega) (w := 2) (k := k') (by omega) hk'
  obtain ⟨o1, o2, o3⟩ := r3.ob hX ha g
  rw [hz] at r1 r2
  obtain ⟨v, H2, s2, c2, q1, q2, q3, q4⟩ := sim_turns Fx ek bk hX ha g h0 h1 ht h3 hk f x (d + 1) H1 s1 (c + 1) (by omega) (by omega) (by omega) r3 (by omega)
  refine ⟨zsub v x, H2, s2, c2, ?_, ?_, q3, by omega⟩
  · rw [r1 f a x d hd (by omega)]
    unfold fH_answerOf
    simp only [ygi, yck, o1, o2, h0, r3.tg Fx, zA10, if_true, q1, ybd_s, Int.reduceEq, if_false]
  · unfold gM_plainEarns
    simp only [r2, ybd_s, q2]
theorem sim_earns (Fx : IFx X H0) (ek : EK X H0 E) (bk : BK X H0 E) (hX : X + 99 < a) (ha : a ≤ znx H0) (g : zisA 20 (ztg H0 a) = true) (h0 : zct H0 a 0 = k) (h1 : zct H0 a 1 = (t : Int)) (ht : t < 60) (h3 : s0 3 t = k) (hk : 1 ≤ k ∧ k ≤ 7) : Sim E X a H0 s0 2 k (gM_earns (t : Int)) 8 14 := by
  intro f x d H s c hf hd hd2 L hc
  have k3 := L.k3 h3
  by_cases k3' : k = 3
  · obtain ⟨f, rfl⟩ : ∃ f', f = f' + 1 := ⟨f - 1, by omega⟩
    obtain ⟨H1, s1, r1, r2, r3⟩ := e_run Fx ek bk L (by omega) (w := 2) (k := k) (by omega) (by omega)
    rw [k3', show zbO 2 3 = 40 from rfl] at r1 r2
    rw [show zaO 2 3 = 0 from rfl] at r1
    obtain ⟨v, H2, s2, c2, q1, q2, q3, q4⟩ := sim_plainEarns Fx ek bk hX ha g h0 h1 ht h3 hk (k' := 0) (by omega) rfl f x (d + 1) H1 s1 (c + 1) (by omega) (by omega) (by omega) r3 (by omega)
    refine ⟨zadd v 7, H2, s2, c2, ?_, ?_, q3, by omega⟩
    · rw [k3', r1 f a x d hd (by omega)]
      unfold fH_answerOf
      simp only [yck, r3.tg Fx, zA10, if_true, q1, ybd_s, Int.reduceEq, if_false]
    · unfold gM_earns
      simp only [yrd_n ht, k3, k3', if_true, r2, ybd_s, q2]
  · by_cases k6 : k = 6
    · obtain ⟨f, rfl⟩ : ∃ f', f = f' + 1 := ⟨f - 1, by omega⟩
      obtain ⟨H1, s1, r1, r2, r3⟩ := e_run Fx ek bk L (by omega) (w := 2) (k := k) (by omega) (by omega)
      rw [k6, show zbO 2 6 = 70 from rfl] at r1 r2
      rw [show zaO 2 6 = 1 from rfl] at r1
      obtain ⟨v, H2, s2, c2, q1, q2, q3, q4⟩ := sim_plainEarns Fx ek bk hX ha g h0 h1 ht h3 hk (k' := 1) (by omega) rfl f x (d + 1) H1 s1 (c + 1) (by omega) (by omega) (by omega) r3 (by omega)
      obtain ⟨v', H3, s3, c3, j1, j2, j3, j4⟩ := sim_holds Fx ek bk hX ha g h1 ht h3 hk f x (d + 1) H2 s2 c2 (by omega) (by omega) (by omega) q3 (by omega)
      obtain ⟨o1, o2, o3⟩ := q3.ob hX ha g
      rw [k6] at j1
      refine ⟨zxor v v', H3, s3, c3, ?_, ?_, j3, by omega⟩
      · rw [k6, r1 f a x d hd (by omega)]
        unfold fH_answerOf
        simp only [ygi, yck, o1, o2, h0, k6, r3.tg Fx, q3.tg Fx, zA10, if_true, q1, j1, ybd_s, Int.reduceEq, if_false]
      · unfold gM_earns
        simp only [yrd_n ht, k3, k6, Int.reduceEq, if_false, if_true, r2, ybd_s, q2, j2]
    · obtain ⟨v, H2, s2, c2, q1, q2, q3, q4⟩ := sim_plainEarns Fx ek bk hX ha g h0 h1 ht h3 hk (k' := k) (by omega) (by rcases (show k = 1 ∨ k = 2 ∨ k = 4 ∨ k = 5 ∨ k = 7 by omega) with w | w | w | w | w <;> rw [w] <;> rfl) f x d H s c (by omega) hd (by omega) L (by omega)
      refine ⟨v, H2, s2, c2, q1, ?_, q3, by omega⟩
      unfold gM_earns
      simp only [yrd_n ht, k3, k3', k6, if_false, ybd_s, q2]
end SIM
end ACT2
