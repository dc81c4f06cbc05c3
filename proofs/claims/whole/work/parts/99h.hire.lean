theorem sumP_le {f : Nat → Nat} {c : Nat} {T : Nat → Bool} : ∀ n, (∀ j, j < n → f j ≤ c) → sumP f T n ≤ c * n
  | 0, _ => Nat.le_refl _
  | n + 1, h => by
    have a := sumP_le n (T := T) (fun j hj => h j (by omega))
    have b := h n (by omega)
    show sumP f T n + (if T n = true then f n else 0) ≤ c * (n + 1)
    rw [Nat.mul_succ]
    split <;> omega
theorem bk_or {T : Nat → Bool} {n b : Nat} (hb : b < n) : 2 ^ b ||| bk n T = bk n (Tp T b) := Nat.eq_of_testBit_eq fun i => by
  unfold bk
  rw [Nat.testBit_or, Nat.testBit_two_pow, sumP_bit, sumP_bit]
  show _ = if i < n then (if i = b then true else T i) else false
  by_cases c : i = b
  · subst c
    rw [if_pos hb, if_pos hb, if_pos rfl, decide_eq_true rfl, Bool.true_or]
  · rw [decide_eq_false (fun e => c e.symm), Bool.false_or, if_neg c]
section HIRE3
variable {X : Nat} {s : zSg} {n : Nat} {o : Nat → Nat}
theorem wk_le (hy : HY s n o) (T : Nat → Bool) : wk s n T ≤ 999 * n := sumP_le n fun j hj => by
  have := (hy.2.2.1 j hj).2.2.2
  show (s 69 j).toNat ≤ 999
  omega
theorem bk_lt (hy : HY s n o) (T : Nat → Bool) : bk n T < 512 := by
  have a := sumP_lt (T := T) n
  have b := Nat.pow_le_pow_right (n := 2) (by omega) hy.2.1
  have c : (2 : Nat) ^ 9 = 512 := rfl
  unfold bk
  omega
theorem zk_le (hy : HY s n o) (T : Nat → Bool) : zk n T ≤ 9 := by
  have := sumP_le (f := fun _ => 1) (c := 1) (T := T) n (fun _ _ => Nat.le_refl _)
  have := hy.2.1
  unfold zk
  omega
theorem e_bf_l (hy : HY s n o) {t d : Int} : ∀ (k f : Nat) (H : zHp), k ≤ n → k < f → HC X H s n o → Dn X H s n o k →
    ∃ H', (∀ Q, fTour_bestFirst_l1 f (X + 12) t d ((k : Int) - 1) H Q = Q (X + 12) t d H') ∧ HC X H' s n o ∧ Dn X H' s n o 0 ∧ KE X [12] H H' s s := by
  obtain ⟨y1, y2, y3, y4, y5, y6⟩ := id hy
  intro k
  induction k with
  | zero =>
    intro f H h1 h2 hc dn
    obtain ⟨f, rfl⟩ : ∃ f', f = f' + 1 := ⟨f - 1, by omega⟩
    refine ⟨H, fun Q => ?_, hc, dn, zst.rf, rfl, rfl, zfx.rf, zfd.rf, zfs.rf⟩
    rw [fTour_bestFirst_l1]
    simp only [yjn]
    rw [if_pos (by omega)]
  | succ k ih =>
    intro f H h1 h2 hc dn
    obtain ⟨f, rfl⟩ : ∃ f', f = f' + 1 := ⟨f - 1, by omega⟩
    obtain ⟨F, c1, c2, c3, c4⟩ := id hc
    have hk : k < n := by omega
    have kk : k ≤ n := by omega
    have kf : k < f := by omega
    have kn : ¬ (k : Int) < 0 := by omega
    have ok := y5 k hk
    obtain ⟨a1, a2, a3, a4⟩ := y3 (o k) ok
    obtain ⟨d1, d2, d3, d4⟩ := c3 (o k) ok
    have e0 : ((k + 1 : Nat) : Int) - 1 = (k : Int) := by omega
    have bj : 0 ≤ ((o k : Nat) : Int) ∧ ((o k : Nat) : Int) < ((9 : Nat) : Int) := by omega
    have b0 : 0 ≤ (k : Int) ∧ (k : Int) < ((9 : Nat) : Int) := by omega
    have em : zadd (k : Int) (-1) = (k : Int) - 1 := by rw [zadd_e (by omega) (by omega)]; omega
    have ed : zadd (s 68 (o k)) 1 = s 68 (o k) + 1 := zadd_e (by omega) (by omega)
    obtain ⟨r, L, r1, r2, r3⟩ := e_bb hc hy (t := s 66 (o k)) (d := s 68 (o k) + 1) a1 (by omega) h1 dn (a := (k : Int)) (by omega)
    have hd : ∀ p L', L = p :: L' → p ≠ k := fun p L' e => by
      have q := r3.1
      rw [e] at q
      exact Nat.ne_of_gt q.1.1
    have sr : srt n k (k :: L) := ⟨⟨Nat.le_refl _, hk⟩, okL.srt L r3.1⟩
    obtain ⟨k1, k2, k3⟩ := TL.cons hy sr
    have w1 := wk_le hy (TL o L)
    have w2 := bk_lt hy (TL o L)
    have w3 := zk_le hy (TL o L)
    have ew : zadd (s 69 (o k)) ((wk s n (TL o L) : Nat) : Int) = ((wk s n (TL o (k :: L)) : Nat) : Int) := by rw [zadd_e (by omega) (by omega), k1]; omega
    have ez : zadd 1 ((zk n (TL o L) : Nat) : Int) = ((zk n (TL o (k :: L)) : Nat) : Int) := by rw [zadd_e (by omega) (by omega), k2]; omega
    have p512 : 2 ^ (o k) < 2 ^ 9 := Nat.pow_lt_pow_right (by omega) (by omega)
    have eb : zor (zshl 1 ((o k : Nat) : Int)) ((bk n (TL o L) : Nat) : Int) = ((bk n (TL o (k :: L)) : Nat) : Int) := by
      have e8 := zshl_8 ⟨o k, by omega⟩
      dsimp only at e8
      rw [e8, zor_n (k := 9) (by omega) p512 w2, bk_or ok]
      rfl
    obtain ⟨H1, e1⟩ : ∃ H1, H1 = zwr H (X + 19) (o k) ((wk s n (TL o (k :: L)) : Nat) : Int) := ⟨_, rfl⟩
    obtain ⟨H2, e2⟩ : ∃ H2, H2 = zwr H1 (X + 20) (o k) ((zk n (TL o (k :: L)) : Nat) : Int) := ⟨_, rfl⟩
    obtain ⟨H3, e3⟩ : ∃ H3, H3 = zwr H2 (X + 21) (o k) ((bk n (TL o (k :: L)) : Nat) : Int) := ⟨_, rfl⟩
    have hc1 : HC X H1 s n o := by rw [e1]; exact hc.w (Or.inl rfl)
    have hc2 : HC X H2 s n o := by rw [e2]; exact hc1.w (Or.inr (Or.inl rfl))
    have hc3 : HC X H3 s n o := by rw [e3]; exact hc2.w (Or.inr (Or.inr rfl))
    have F1 := hc1.1
    have F2 := hc2.1
    have kr1 : Kr X H1 s n o r L := by rw [e1]; exact r2.w hy hk hd
    have kr2 : Kr X H2 s n o r L := by rw [e2]; exact kr1.w hy hk hd
    have dn3 : Dn X H3 s n o k := fun p p1 p2 => by
      by_cases c : p = k
      · subst c
        refine ⟨L, r3, Or.inr ⟨p, L, rfl, p2, rfl, ?_, ?_, ?_⟩⟩
        · rw [e3, zct_wr, if_neg (by omega), e2, zct_wr, if_neg (by omega), e1, zct_wr, if_pos ⟨rfl, rfl⟩]
        · rw [e3, zct_wr, if_neg (by omega), e2, zct_wr, if_pos ⟨rfl, rfl⟩]
        · rw [e3, zct_wr, if_pos ⟨rfl, rfl⟩]
      · obtain ⟨L2, l1, l2⟩ := dn p (Nat.lt_of_le_of_ne p1 (fun e => c e.symm)) p2
        have hd2 : ∀ q L', p :: L2 = q :: L' → q ≠ k := fun q L' e => by
          injection e with e _
          rw [← e]
          exact c
        refine ⟨L2, l1, ?_⟩
        rw [e3, e2, e1]
        exact ((l2.w hy hk hd2).w hy hk hd2).w hy hk hd2
    obtain ⟨H', i1, i2, i3, i4⟩ := ih f H3 kk kf hc3 dn3
    have ke : KE X [12] H H3 s s := ⟨by rw [e3, e2, e1]; exact (by repeat first | exact zst.rf | apply zst.wr), by rw [e3, e2, e1]; rfl, by rw [e3, e2, e1]; rfl, by rw [e3, e2, e1]; exact (by repeat first | exact zfx.rf | refine zfx.wr0 ?_ rfl | refine zfx.wr ?_ rfl), by rw [e3, e2, e1]; exact (by repeat first | exact zfd.rf | refine zfd.wr0 ?_ | refine zfd.wr ?_ (by omega)), zfs.rf⟩
    refine ⟨H', fun Q => ?_, i2, i3, ke.tr i4⟩
    rw [← i1 Q, fTour_bestFirst_l1, e0]
    simp only [yjn, ygi, ygr, yai, ysi, yvl, yck, ft12 F, ft12 F1, ft12 F2, zA9, if_true, kn, if_false, fp12_6 F, ft18 F, fl18 F, b0, true_or, and_self, Int.toNat_natCast, c4 k hk, fp12_2 F, ft14 F, fl14 F, bj, d1, d3, d4, fp12_4 F, ft16 F, fl16 F, ed, r1, ybd_s, fp12_5 F, ft17 F, fl17 F, fp12_7 F, ft19 F, fl19 F, e_worthFrom F hy r2, ew, ← e1, fp12_8 F1]
    rcases kr1 with ⟨g1, g2⟩ | ⟨p, L', g1, g2, g3, g4, g5, g6⟩
    · have z0 : ((zk n (TL o L) : Nat) : Int) = 0 := by rw [g2, (nil_keys (s := s)).2.1]; rfl
      rw [z0] at ez
      rw [if_pos g1]
      simp only [ft20 F1, fl20 F1, bj, and_self, true_and, if_true, ez, ← e2, ft12 F2, zA9, e_bitsFrom F2 hy kr2, ybd_s, fp12_9 F2, ft21 F2, fl21 F2, eb, ← e3, em]
    · have op := y5 p g2
      have bp : 0 ≤ ((o p : Nat) : Int) ∧ ((o p : Nat) : Int) < ((9 : Nat) : Int) := ⟨Int.natCast_nonneg _, by clear k1 k2 k3 w1 w2 w3 ew ez eb; omega⟩
      have rn : ¬ r = -1 := by rw [g3]; exact fun w => by clear k1 k2 k3 w1 w2 w3 ew ez eb; omega
      rw [if_neg rn]
      have eb' := e_bitsFrom F2 hy kr2
      rw [g3] at eb' ⊢
      simp only [ft20 F1, fl20 F1, bj, bp, and_self, true_and, true_or, if_true, Int.toNat_natCast, g5, ez, ← e2, ft12 F2, zA9, eb', ybd_s, fp12_9 F2, ft21 F2, fl21 F2, eb, ← e3, em]
theorem e_bestFirst (hy : HY s n o) {H : zHp} (hc : HC X H s n o) {t d : Int} (ht : 0 ≤ t ∧ t ≤ 5) (hd : 0 ≤ d ∧ d ≤ 10000) : ∃ H' r L, fTour_bestFirst (X + 12) t d H = some (r, H') ∧ HC X H' s n o ∧ KE X [12] H H' s s ∧ Kr X H' s n o r L ∧ OpL s n o 0 t d L := by
  have n9 := hy.2.1
  obtain ⟨H', i1, i2, i3, i4⟩ := e_bf_l (t := t) (d := d) hy n zFU H (Nat.le_refl _) (by rw [zFU_e]; omega) hc (fun p h1 h2 => absurd h1 (by omega))
  obtain ⟨r, L, r1, r2, r3⟩ := e_bb i2 hy ht hd (k0 := 0) (Nat.zero_le _) i3 (a := -1) (by omega)
  refine ⟨H', r, L, ?_, i2, i4, r2, r3⟩
  have es : zsub (n : Int) 1 = (n : Int) - 1 := zsub_e (by omega) (by omega)
  unfold fTour_bestFirst
  simp only [ygi, ft12 hc.1, zA9, if_true, hc.2.1, es, yvl]
  rw [i1]
  simp only [yck, ft12 i2.1, zA9, if_true, r1, ybd_s]
end HIRE3
