section READ2
variable {X : Nat} {H : zHp} {s : zSg} {A : Nat → Nat} {B : Nat → Nat → Nat} {K : Nat → Nat} {ow : Nat → Nat × Nat} {t : Nat}
theorem zup_r {s : zSg} {k j : Nat} {v : Int} : zup s k j v k = fun i => if i = j then v else s k i := funext fun i => by simp [zup]
theorem zup_o {s : zSg} {k j k' : Nat} {v : Int} (h : k' ≠ k) : zup s k j v k' = s k' := funext fun i => by simp [zup, h]
set_option maxRecDepth 100000 in
theorem e_read_l {a b c q N : Nat} {me : Int} (h1 : ztg H b = 1) (h2 : zct H b 0 = ((b + 1 : Nat) : Int)) (h3 : ztg H (b + 1) = 30) (h4 : zln H (b + 1) = 8) (a1 : ztg H a = 6) (a2 : (zct H a 6).toNat = b) (a3 : zct H a 4 = s 6 t) (c1 : ztg H c = 1) (c2 : zct H c 0 = ((c + 1 : Nat) : Int)) (c3 : ztg H (c + 1) = 30) (c4 : zln H (c + 1) = 8)
    (nb : 0 < b ∧ b + 1 ≤ znx H) (na : a ≤ znx H) (nc : c + 1 ≤ znx H) (d1 : a ≠ b ∧ a ≠ b + 1) (d2 : c ≠ b ∧ c ≠ b + 1) (d3 : c + 1 ≠ b ∧ c + 1 ≠ b + 1) (hbi : BI s q me) (hme : me ≤ 12) (hN : s 13 q = (N : Int)) (hv : BarV H c (s 13 q) (sh (s 10) (8 * q)) (sh (s 11) (8 * q)) (sh (s 12) (8 * q))) (hq : q < 4800) (ht : t < 60) (h6 : -12 ≤ s 6 t ∧ s 6 t ≤ 12) :
    ∀ (n f1 f2 k m : Nat) (H1 : zHp) (s1 : zSg), N - k = n → n < f1 → n < f2 → k ≤ N → m ≤ k → zbx b H H1 → zrs s s1 → RB H1 b s1 m → zsum (s1 18) m = zsum (sh (s 11) (8 * q)) k →
    ∃ H2 s2 m2, (∀ Q, fPart_barAsRead_l2 f1 a c (k : Int) H1 Q = Q a H2) ∧ gM_readBar_l1 f2 (t : Int) (q : Int) (k : Int) s1 = some ((), s2) ∧ m2 ≤ N ∧ zbx b H H2 ∧ zrs s s2 ∧ RB H2 b s2 m2 ∧ zsum (s2 18) m2 = zsum (sh (s 11) (8 * q)) N := by
  have hN8 := hbi.1
  have eN : (s 13 q).toNat = N := by omega
  have hsum := hbi.2.2.1
  rw [eN] at hsum
  have hlen := hbi.len
  intro n
  induction n with
  | zero =>
    intro f1 f2 k m H1 s1 e1 e2 e3 e4 hm z1 z2 z3 z4
    obtain ⟨f1, rfl⟩ : ∃ f', f1 = f' + 1 := ⟨f1 - 1, by omega⟩
    obtain ⟨f2, rfl⟩ : ∃ f', f2 = f' + 1 := ⟨f2 - 1, by omega⟩
    have ek : k = N := by omega
    refine ⟨H1, s1, m, fun Q => ?_, ?_, by omega, z1, z2, z3, by rw [z4, ek]⟩
    · rw [fPart_barAsRead_l2]
      have t1 : ztg H1 c = 1 := by rw [(z1.1.2.2 c (by omega)).1]; exact c1
      have t2 : zct H1 c 1 = (N : Int) := by rw [z1.2.2.2.2 c 1 d2.1 d2.2, hv.1, hN]
      simp only [ygi, t1, zA0, if_true, t2]
      rw [if_neg (by omega)]
    · rw [gM_readBar_l1]
      have r1 : s1 13 q = (N : Int) := by rw [z2 13 q (by omega) (by omega) (by omega) (by omega), hN]
      simp only [yjn, yrd_n hq, r1]
      rw [if_neg (by omega)]
  | succ n ih =>
    intro f1 f2 k m H1 s1 e1 e2 e3 e4 hm z1 z2 z3 z4
    obtain ⟨f1, rfl⟩ : ∃ f', f1 = f' + 1 := ⟨f1 - 1, by omega⟩
    obtain ⟨f2, rfl⟩ : ∃ f', f2 = f' + 1 := ⟨f2 - 1, by omega⟩
    have t1 : ztg H1 c = 1 := by rw [(z1.1.2.2 c (by omega)).1]; exact c1
    have t2 : zct H1 c 1 = (N : Int) := by rw [z1.2.2.2.2 c 1 d2.1 d2.2, hv.1, hN]
    have t3 : (zct H1 c 0).toNat = c + 1 := by rw [z1.2.2.2.2 c 0 d2.1 d2.2, c2]; exact Int.toNat_natCast _
    have t4 : ztg H1 (c + 1) = 30 := by rw [(z1.1.2.2 (c + 1) (by omega)).1]; exact c3
    have t5 : zln H1 (c + 1) = 8 := by rw [(z1.1.2.2 (c + 1) (by omega)).2]; exact c4
    have t6 : ztg H1 a = 6 := by rw [(z1.1.2.2 a (by omega)).1]; exact a1
    have t7 : (zct H1 a 6).toNat = b := by rw [z1.2.2.2.2 a 6 d1.1 d1.2]; exact a2
    have t8 : zct H1 a 4 = s 6 t := by rw [z1.2.2.2.2 a 4 d1.1 d1.2]; exact a3
    have t9 : zct H1 (c + 1) k = ncode (s 10 (8 * q + k)) (s 11 (8 * q + k)) (s 12 (8 * q + k)) := by rw [z1.2.2.2.2 (c + 1) k d3.1 d3.2]; exact hv.2.2.2 k (by omega)
    have u1 : ztg H1 b = 1 := by rw [(z1.1.2.2 b (by omega)).1]; exact h1
    have u2 : zct H1 b 0 = ((b + 1 : Nat) : Int) := by rw [z1.2.2.2.1]; exact h2
    have u3 : ztg H1 (b + 1) = 30 := by rw [(z1.1.2.2 (b + 1) (by omega)).1]; exact h3
    have u4 : zln H1 (b + 1) = 8 := by rw [(z1.1.2.2 (b + 1) (by omega)).2]; exact h4
    have nk := hbi.2.1 k (by omega)
    have r10 : s1 10 = s 10 := funext fun j => z2 10 j (by omega) (by omega) (by omega) (by omega)
    have r11 : s1 11 = s 11 := funext fun j => z2 11 j (by omega) (by omega) (by omega) (by omega)
    have r12 : s1 12 = s 12 := funext fun j => z2 12 j (by omega) (by omega) (by omega) (by omega)
    have r6 : s1 6 = s 6 := funext fun j => z2 6 j (by omega) (by omega) (by omega) (by omega)
    have r13 : s1 13 = s 13 := funext fun j => z2 13 j (by omega) (by omega) (by omega) (by omega)
    have zk : zsum (sh (s 11) (8 * q)) (k + 1) = zsum (sh (s 11) (8 * q)) k + s 11 (8 * q + k) := rfl
    have zle : zsum (sh (s 11) (8 * q)) (k + 1) ≤ zsum (sh (s 11) (8 * q)) N := zsum_mono (by omega) fun i hi => (hlen i (by omega)).1
    obtain ⟨sh1, sh2⟩ := e_shifted nk h6 (H := H1)
    obtain ⟨H2, m2, P2, L2, T2, j1, j2, j3, j4, j5, j6, j7⟩ := e_join u1 u2 u3 u4 z3.1 (by omega) z3.2.2 sh2 (by rw [z4]; omega)
    have mr := m_read1 (q := q) (k := k) (tn := t) (s1 := s1) (f := f2) z3.2.1 (by omega) hq (by omega) ht (by rw [r13]; omega) (by rw [r6]; exact h6) (by rw [r10, r11, r12]; exact nk) (fun i hi => by have := (z3.2.2 i hi).2; omega)
    rw [r10, r11, r12, r6] at mr
    have ek : zadd (k : Int) 1 = ((k + 1 : Nat) : Int) := by rw [zadd_e (by omega) (by omega)]; omega
    have hk8 : 0 ≤ (k : Int) ∧ (k : Int) < ((8 : Nat) : Int) := by omega
    have cl : ∀ Q, fPart_barAsRead_l2 (f1 + 1) a c (k : Int) H1 Q = fPart_barAsRead_l2 f1 a c ((k + 1 : Nat) : Int) H2 Q := fun Q => by
      rw [fPart_barAsRead_l2]
      simp only [ygi, t1, zA0, if_true, t2, show (k : Int) < (N : Int) by omega, ygr, t6, zA5, t7, t3, yai, t4, t5, true_or, hk8, and_self, Int.toNat_natCast, t9, t8, sh1, ybd_s, yck, u1, j1, yvl, ek]
    -- the state after the step
    have st : ∃ s2, gM_readBar_l1 (f2 + 1) (t : Int) (q : Int) (k : Int) s1 = gM_readBar_l1 f2 (t : Int) (q : Int) ((k + 1 : Nat) : Int) s2 ∧ zrs s s2 ∧ RB H2 b s2 m2 ∧ s2 18 = L2 := by
      refine ⟨_, mr, ?_⟩
      rcases j7 with ⟨g0, g1, g2, g3, g4, g5, g6⟩ | ⟨g0, g3, g4, g5, g6⟩
      · rw [if_pos ⟨g0, g1, g2⟩]
        subst g3
        have w17 : zup (zup s1 18 (m2 - 1) (s1 18 (m2 - 1) + s 11 (8 * q + k))) 19 (m2 - 1) (s 12 (8 * q + k)) 17 = P2 := by rw [zup_o (by omega), zup_o (by omega), g4]
        have w18 : zup (zup s1 18 (m2 - 1) (s1 18 (m2 - 1) + s 11 (8 * q + k))) 19 (m2 - 1) (s 12 (8 * q + k)) 18 = L2 := by rw [zup_o (by omega), zup_r, g5]
        have w19 : zup (zup s1 18 (m2 - 1) (s1 18 (m2 - 1) + s 11 (8 * q + k))) 19 (m2 - 1) (s 12 (8 * q + k)) 19 = T2 := by rw [zup_r, zup_o (by omega), g6]
        refine ⟨fun i j k1 k2 k3 k4 => ?_, ?_, w18⟩
        · rw [zup_o k3, zup_o k2]
          exact z2 i j k1 k2 k3 k4
        · unfold RB
          rw [w17, w18, w19, zup_o (by omega), zup_o (by omega)]
          exact ⟨j2, z3.2.1, j5⟩
      · rw [if_neg g0]
        subst g3
        generalize hS : zup (zup (zup (zup s1 17 m (rpit (s 10 (8 * q + k)) (s 6 t))) 18 m (s 11 (8 * q + k))) 19 m (s 12 (8 * q + k))) 0 16 ((m : Int) + 1) = S
        have w17 : S 17 = P2 := by rw [← hS, zup_o (by omega), zup_o (by omega), zup_o (by omega), zup_r, g4]
        have w18 : S 18 = L2 := by rw [← hS, zup_o (by omega), zup_o (by omega), zup_r, zup_o (by omega), g5]
        have w19 : S 19 = T2 := by rw [← hS, zup_o (by omega), zup_r, zup_o (by omega), zup_o (by omega), g6]
        have w0 : S 0 16 = ((m + 1 : Nat) : Int) := by rw [← hS, zup_r]; dsimp only; rw [if_pos rfl]; omega
        refine ⟨fun i j k1 k2 k3 k4 => ?_, ?_, w18⟩
        · rw [← z2 i j k1 k2 k3 k4, ← hS]
          simp [zup, k1, k2, k3, k4]
        · unfold RB
          rw [w17, w18, w19, w0]
          exact ⟨j2, rfl, j5⟩
    obtain ⟨s2, st1, st2, st3, st4⟩ := st
    obtain ⟨H3, s3, m3, q1, q2, q3, q4, q5, q6, q7⟩ := ih f1 f2 (k + 1) m2 H2 s2 (by omega) (by omega) (by omega) (by omega) (by omega) (z1.tr j3) st2 st3 (by rw [st4, j6, z4, zk])
    exact ⟨H3, s3, m3, fun Q => (cl Q).trans (q1 Q), st1.trans q2, q3, q4, q5, q6, q7⟩
theorem IV.read (I : IV X H s A B K ow) (ht : (t : Int) < s 0 2) (hk : s 3 t = 2 ∨ s 3 t = 5) {H' : zHp} {s' : zSg} (hb : zbx (B t 0) H H') (hs : zrs s s') : IV X H' s' A B K ow := by
  have hn := I.n
  have eo : ∀ k, k ≠ 0 → k ≠ 17 → k ≠ 18 → k ≠ 19 → s' k = s k := fun k h0 h1 h2 h3 => funext fun j => hs k j h1 h2 h3 (fun w => h0 w.1)
  have h1 := hb.1
  have hx := hb.2.2.2.2
  have e2 : s' 0 2 = s 0 2 := hs 0 2 (by omega) (by omega) (by omega) (by omega)
  obtain ⟨m0, ⟨a0, a1, a2, a3, a4, a5, a6, a7⟩, bo⟩ := (I.to ht).2.1 hk
  obtain ⟨b0, b1, -⟩ := id bo
  have zf : zfs [11] s s' := fun k j hkj => by
    have : k ≠ 17 ∧ k ≠ 18 ∧ k ≠ 19 ∧ ¬ (k = 0 ∧ j = 16) := by
      refine ⟨?_, ?_, ?_, ?_⟩
      · rintro rfl; cases (show true = false from hkj)
      · rintro rfl; cases (show true = false from hkj)
      · rintro rfl; cases (show true = false from hkj)
      · rintro ⟨rfl, rfl⟩; cases (show true = false from hkj)
    exact hs k j this.1 this.2.1 this.2.2.1 this.2.2.2
  refine I.ch (gs := [11]) (t := t) h1 ?_ ?_ ?_ (fun u hu _ => ?_) e2 (eo 3 (by omega) (by omega) (by omega) (by omega)) (eo 4 (by omega) (by omega) (by omega) (by omega)) (eo 26 (by omega) (by omega) (by omega) (by omega)) (eo 27 (by omega) (by omega) (by omega) (by omega)) (eo 28 (by omega) (by omega) (by omega) (by omega)) (eo 29 (by omega) (by omega) (by omega) (by omega)) (fun _ _ _ => rfl) (fun _ _ => rfl) ?_ ?_ (I.2.2.2.2.1.fr zf rfl rfl (by rw [hs 0 8 (by omega) (by omega) (by omega) (by omega)]; exact Int.le_refl _)) rfl rfl rfl rfl rfl rfl rfl rfl rfl rfl (Or.inl rfl) (by omega)
  · intro o k ho _
    have := b0.1
    exact hx _ _ (by omega) (by omega)
  · refine zfd.of fun a k ha hp => hx a k (fun e => hp ?_) (fun e => hp ?_)
    · rw [e]; exact ⟨b0.1, by rw [b0.2.2]⟩
    · rw [e]; exact ⟨b1.1, by rw [b1.2.2]⟩
  · intro k j hkj
    have : [11].contains (rg k j) = false := by
      rw [List.contains_cons, Bool.or_eq_false_iff] at hkj
      exact hkj.2
    exact zf k j this
  · exact zts.of zf rfl
  · have k3 : s' 3 t = s 3 t := by rw [eo 3 (by omega) (by omega) (by omega) (by omega)]
    refine ⟨fun w => ?_, fun w => ?_, fun w => ?_, fun w => ?_, fun w => ?_⟩
    · rw [k3] at w; omega
    · unfold TOp
      rw [eo 3 (by omega) (by omega) (by omega) (by omega), eo 4 (by omega) (by omega) (by omega) (by omega), eo 5 (by omega) (by omega) (by omega) (by omega), eo 6 (by omega) (by omega) (by omega) (by omega), eo 64 (by omega) (by omega) (by omega) (by omega)]
      have hA : ∀ k, zct H' (A t) k = zct H (A t) k := fun k => hx _ _ (m0.ne b0 (Or.inl (by omega))) (m0.ne b1 (Or.inl (by omega)))
      simp only [hA, (h1.2.2 _ m0.2.1).1]
      exact ⟨m0.fr h1 (fun _ _ => rfl), ⟨a0, a1, a2, a3, a4, a5, a6, a7⟩, bo.fc h1 hb.2.2.2.1 (fun _ _ => rfl)⟩
    · rw [k3] at w; omega
    · rw [k3] at w; omega
    · rw [k3] at w; omega
  · intro w
    rw [eo 3 (by omega) (by omega) (by omega) (by omega)] at w
    omega
theorem KD.rd (I : IV X H s A B K ow) (ht : (t : Int) < s 0 2) (hk : s 3 t = 2 ∨ s 3 t = 5) {H' : zHp} {s' : zSg} (hb : zbx (B t 0) H H') (hs : zrs s s') : KD X H H' s' := by
  have b0 := ((I.to ht).2.1 hk).2.2.1
  have b1 := ((I.to ht).2.1 hk).2.2.2.1
  have := b0.1
  exact ⟨hb.1, by rw [hb.2.1]; omega, by rw [hb.2.2.1]; omega, fun a _ ha k => hb.2.2.2.2 a k (by omega) (by omega), _, _, _, _, I.read ht hk hb hs⟩
end READ2
