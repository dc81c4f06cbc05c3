section PRINTS2
variable {X : Nat} {s : zSg} {m : Nat}
def HPC (X : Nat) (H : zHp) (s : zSg) (m : Nat) : Prop := IFx X H ∧ (zct H (X + 22) 0 = s 0 72 ∧ zct H (X + 22) 1 = s 0 73 ∧ zct H (X + 22) 2 = s 0 74 ∧ zct H (X + 22) 3 = (m : Int)) ∧ ∀ j, j < m → zct H (X + 23) j = s 71 j
theorem HPC.w {H : zHp} (h : HPC X H s m) {r k : Nat} {v : Int} (hr : r = 24 ∨ r = 25 ∨ r = 26) : HPC X (zwr H (X + r) k v) s m := by
  obtain ⟨F, ⟨a, b, c, d⟩, e⟩ := h
  refine ⟨?_, ?_, fun j hj => by rw [zct_wr, if_neg (by omega)]; exact e j hj⟩
  · rcases hr with e | e | e <;> subst e <;> exact F.fr (gs := [13]) (by repeat first | exact zst.rf | apply zst.wr) (by repeat first | exact zfx.rf | refine zfx.wr0 ?_ rfl | refine zfx.wr ?_ rfl) rfl
  · rw [zct_wr, if_neg (by omega), zct_wr, if_neg (by omega), zct_wr, if_neg (by omega), zct_wr, if_neg (by omega)]
    exact ⟨a, b, c, d⟩
/-- row k keeps the best plan of some -/
def Rw (X : Nat) (H : zHp) (s : zSg) (m k : Nat) (P : List Nat → Prop) : Prop := (zct H (X + 24) k = -1 ∧ ∀ L, ¬ P L) ∨ ∃ L, P L ∧ (zct H (X + 24) k = ((ck s m L : Nat) : Int) ∧ zct H (X + 25) k = ((zk m (TL id L) : Nat) : Int) ∧ zct H (X + 26) k = ((bk m (TL id L) : Nat) : Int)) ∧ ∀ L', P L' → ¬ CtL s m L' L
theorem Rw.im {H H' : zHp} {k : Nat} {P P' : List Nat → Prop} (h : Rw X H s m k P) (hp : ∀ L, P L ↔ P' L) (e4 : zct H' (X + 24) k = zct H (X + 24) k) (e5 : zct H' (X + 25) k = zct H (X + 25) k) (e6 : zct H' (X + 26) k = zct H (X + 26) k) : Rw X H' s m k P' := by
  unfold Rw
  rw [e4, e5, e6]
  rcases h with ⟨a, b⟩ | ⟨L, a, b, c⟩
  · exact Or.inl ⟨a, fun L hL => b L ((hp L).mpr hL)⟩
  · exact Or.inr ⟨L, (hp L).mp a, b, fun L' hL => c L' ((hp L').mpr hL)⟩
def Pf (s : zSg) (m k : Nat) (L : List Nat) : Prop := okQ s m L ∧ hdm m L = k
def Pb (s : zSg) (m k b : Nat) (L : List Nat) : Prop := okQ s m L ∧ ∃ L1, L = k :: L1 ∧ hdm m L1 < b
theorem e_betP {H : zHp} (F : IFx X H) {k : Nat} (hk : k < 11) {c z b c' z' b' : Nat} (e4 : zct H (X + 24) k = (c' : Int)) (e5 : zct H (X + 25) k = (z' : Int)) (e6 : zct H (X + 26) k = (b' : Int)) : ∃ v, fPrintPlan_isBetter (X + 22) (c : Int) (z : Int) (b : Int) (k : Int) H = some (v, H) ∧ (v = 0 ↔ ¬ Ct c z b c' z' b') := by
  have b11 : 0 ≤ (k : Int) ∧ (k : Int) < ((11 : Nat) : Int) := by omega
  unfold fPrintPlan_isBetter
  simp only [ygr, yai, ft22 F, zA7, if_true, fp22_5 F, fp22_6 F, fp22_7 F, ft24 F, fl24 F, ft25 F, fl25 F, ft26 F, fl26 F, b11, true_or, and_self, Int.toNat_natCast, e4, e5, e6]
  unfold Ct
  by_cases c1 : (c : Int) = (c' : Int)
  · rw [if_pos c1]
    by_cases c2 : (z : Int) = (z' : Int)
    · rw [if_pos c2]
      by_cases c3 : (b : Int) < (b' : Int)
      · rw [if_pos c3]; exact ⟨1, rfl, by omega⟩
      · rw [if_neg c3]; exact ⟨0, rfl, by omega⟩
    · rw [if_neg c2]
      by_cases c3 : (z : Int) < (z' : Int)
      · rw [if_pos c3]; exact ⟨1, rfl, by omega⟩
      · rw [if_neg c3]; exact ⟨0, rfl, by omega⟩
  · rw [if_neg c1]
    by_cases c3 : (c : Int) < (c' : Int)
    · rw [if_pos c3]; exact ⟨1, rfl, by omega⟩
    · rw [if_neg c3]; exact ⟨0, rfl, by omega⟩
theorem zshl_11 : ∀ k : Fin 11, zshl 1 ((k.val : Nat) : Int) = ((2 ^ k.val : Nat) : Int) := by decide +kernel
theorem bk_1024 (hm : m ≤ 10) (T : Nat → Bool) : bk m T < 2 ^ 10 := Nat.lt_of_lt_of_le (sumP_lt m) (Nat.pow_le_pow_right (by omega) hm)
/-- the parts that are not changed -/
def oth (X k : Nat) (H H' : zHp) : Prop := ∀ r j, (r = 24 ∨ r = 25 ∨ r = 26) → j ≠ k → zct H' (X + r) j = zct H (X + r) j
set_option maxRecDepth 100000 in
theorem e_pa_l (hp : HP s m) {k : Nat} (hk : k < m) : ∀ (d f b : Nat) (H : zHp), m - (k + b) = d → d < f → k + b ≤ m → HPC X H s m → (∀ e, k < e → e ≤ m → Rw X H s m e (Pf s m e)) → Rw X H s m k (Pb s m k (k + 1 + b)) →
    ∃ H', fPrintPlan_printAt_l1 f (X + 22) (k : Int) ((sgN s k b : Nat) : Int) ((hdN s k b : Nat) : Int) ((k + 1 + b : Nat) : Int) H = some ((), H') ∧ HPC X H' s m ∧ KE X [13] H H' s s ∧ oth X k H H' ∧ Rw X H' s m k (Pb s m k (m + 1)) := by
  obtain ⟨y1, y2, y3, y4, y5, y6⟩ := id hp
  intro d
  induction d with
  | zero =>
    intro f b H h1 h2 h3 hc rows row
    obtain ⟨f, rfl⟩ : ∃ f', f = f' + 1 := ⟨f - 1, by omega⟩
    obtain ⟨F, ⟨c1, c2, c3, c4⟩, c5⟩ := id hc
    have e1 : k + 1 + b = m + 1 := by omega
    rw [e1] at row ⊢
    refine ⟨H, ?_, hc, ⟨zst.rf, rfl, rfl, zfx.rf, zfd.rf, zfs.rf⟩, fun _ _ _ _ => rfl, row⟩
    rw [fPrintPlan_printAt_l1]
    simp only [yjn, ygi, ft22 F, zA7, if_true, c4]
    rw [if_pos (by omega)]
  | succ d ih =>
    intro f b H h1 h2 h3 hc rows row
    obtain ⟨f, rfl⟩ : ∃ f', f = f' + 1 := ⟨f - 1, by omega⟩
    obtain ⟨F, ⟨c1, c2, c3, c4⟩, c5⟩ := id hc
    have hkb : k + b < m := by omega
    have q := y3 (k + b) hkb
    have s1 := sgN_le hp (a := k) (b + 1) (by omega)
    have s0 := sgN_le hp (a := k) b (by omega)
    have h0 := hdN_le hp (a := k) b (by omega)
    have h10 := hdN_le hp (a := k) (b + 1) (by omega)
    have es : sgN s k (b + 1) = sgN s k b + (s 71 (k + b)).toNat := rfl
    have eh : hdN s k (b + 1) = hdN s k b + (s 71 (k + b)).toNat * b * (s 0 73).toNat := rfl
    have lim : ¬ (m : Int) < ((k + 1 + b : Nat) : Int) := by omega
    have em : zsub ((k + 1 + b : Nat) : Int) 1 = ((k + b : Nat) : Int) := by rw [zsub_e (by omega) (by omega)]; omega
    have em2 : zsub ((k + b : Nat) : Int) (k : Int) = (b : Int) := by rw [zsub_e (by omega) (by omega)]; omega
    have bq : 0 ≤ ((k + b : Nat) : Int) ∧ ((k + b : Nat) : Int) < ((10 : Nat) : Int) := by omega
    have be : 0 ≤ ((k + 1 + b : Nat) : Int) ∧ ((k + 1 + b : Nat) : Int) < ((11 : Nat) : Int) := by omega
    have b11 : 0 ≤ (k : Int) ∧ (k : Int) < ((11 : Nat) : Int) := by omega
    have ea : zadd ((sgN s k b : Nat) : Int) (s 71 (k + b)) = ((sgN s k (b + 1) : Nat) : Int) := by rw [es, zadd_e (by omega) (by omega)]; omega
    have m1 : (s 71 (k + b)).toNat * b ≤ 999 * 10 := Nat.mul_le_mul (by omega) (by omega)
    have m2 : (s 71 (k + b)).toNat * b * (s 0 73).toNat ≤ 999 * 10 * 99 := Nat.mul_le_mul m1 (by omega)
    have n1 : s 71 (k + b) * (b : Int) = (((s 71 (k + b)).toNat * b : Nat) : Int) := by rw [Int.natCast_mul, Int.toNat_of_nonneg q.1]
    have n2 : (((s 71 (k + b)).toNat * b : Nat) : Int) * s 0 73 = (((s 71 (k + b)).toNat * b * (s 0 73).toNat : Nat) : Int) := by rw [Int.natCast_mul ((s 71 (k + b)).toNat * b), Int.toNat_of_nonneg y5.1]
    have eg : zadd ((hdN s k b : Nat) : Int) (zmul (zmul (s 71 (k + b)) (b : Int)) (s 0 73)) = ((hdN s k (b + 1) : Nat) : Int) := by
      rw [eh]
      generalize (s 71 (k + b)).toNat * b * (s 0 73).toNat = w at m2 n2 ⊢
      generalize (s 71 (k + b)).toNat * b = w1 at m1 n1 n2 ⊢
      have z1 : zmul (s 71 (k + b)) (b : Int) = s 71 (k + b) * (b : Int) := zmul_e (by rw [n1]; omega) (by rw [n1]; omega)
      rw [z1, n1]
      have z2 : zmul (w1 : Int) (s 0 73) = (w1 : Int) * s 0 73 := zmul_e (by rw [n2]; omega) (by rw [n2]; omega)
      rw [z2, n2, zadd_e (by omega) (by omega)]
      omega
    clear m1 m2 n1 n2 es eh
    have ek : zadd ((k + 1 + b : Nat) : Int) 1 = ((k + 1 + (b + 1) : Nat) : Int) := by rw [zadd_e (by omega) (by omega)]; omega
    have x1 : m - (k + (b + 1)) = d := by omega
    have x2 : d < f := by omega
    have x3 : k + (b + 1) ≤ m := by omega
    obtain ⟨e, ee⟩ : ∃ e, e = k + 1 + b := ⟨_, rfl⟩
    have ke : k < e := by omega
    have em' : e ≤ m := by omega
    have eek : e - k = b + 1 := by omega
    have e11 : e < 11 := by omega
    have e2 : k + 1 + (b + 1) = e + 1 := by omega
    rw [← ee] at row lim em be ek ⊢
    rw [e2] at ek
    have r1 : run1 s k e ↔ 0 < sgN s k (b + 1) ∧ ((sgN s k (b + 1) : Nat) : Int) ≤ s 0 74 := by unfold run1; rw [eek]
    have pb : ∀ L, Pb s m k (e + 1) L ↔ Pb s m k e L ∨ (okQ s m L ∧ ∃ L1, L = k :: L1 ∧ hdm m L1 = e) := fun L => by
      constructor
      · rintro ⟨a, L1, a1, a2⟩
        by_cases c : hdm m L1 = e
        · exact Or.inr ⟨a, L1, a1, c⟩
        · exact Or.inl ⟨a, L1, a1, by omega⟩
      · rintro (⟨a, L1, a1, a2⟩ | ⟨a, L1, a1, a2⟩)
        · exact ⟨a, L1, a1, by omega⟩
        · exact ⟨a, L1, a1, by omega⟩
    have fin : ∀ Hn, HPC X Hn s m → KE X [13] H Hn s s → oth X k H Hn → Rw X Hn s m k (Pb s m k (e + 1)) → fPrintPlan_printAt_l1 (f + 1) (X + 22) (k : Int) ((sgN s k b : Nat) : Int) ((hdN s k b : Nat) : Int) (e : Int) H = fPrintPlan_printAt_l1 f (X + 22) (k : Int) ((sgN s k (b + 1) : Nat) : Int) ((hdN s k (b + 1) : Nat) : Int) ((e + 1 : Nat) : Int) Hn →
        ∃ H', fPrintPlan_printAt_l1 (f + 1) (X + 22) (k : Int) ((sgN s k b : Nat) : Int) ((hdN s k b : Nat) : Int) (e : Int) H = some ((), H') ∧ HPC X H' s m ∧ KE X [13] H H' s s ∧ oth X k H H' ∧ Rw X H' s m k (Pb s m k (m + 1)) := fun Hn g1 g2 g3 g4 g5 => by
      obtain ⟨H', i1, i2, i3, i4, i5⟩ := ih f (b + 1) Hn x1 x2 x3 g1 (fun q hq hq2 => (rows q hq hq2).im (fun _ => Iff.rfl) (g3 24 q (Or.inl rfl) (by omega)) (g3 25 q (Or.inr (Or.inl rfl)) (by omega)) (g3 26 q (Or.inr (Or.inr rfl)) (by omega))) (by rw [e2]; exact g4)
      rw [e2] at i1
      exact ⟨H', g5.trans i1, i2, g2.tr i3, fun r j hr hj => (i4 r j hr hj).trans (g3 r j hr hj), i5⟩
    have none : (∀ L1, okQ s m (k :: L1) → hdm m L1 = e → False) → fPrintPlan_printAt_l1 (f + 1) (X + 22) (k : Int) ((sgN s k b : Nat) : Int) ((hdN s k b : Nat) : Int) (e : Int) H = fPrintPlan_printAt_l1 f (X + 22) (k : Int) ((sgN s k (b + 1) : Nat) : Int) ((hdN s k (b + 1) : Nat) : Int) ((e + 1 : Nat) : Int) H →
        ∃ H', fPrintPlan_printAt_l1 (f + 1) (X + 22) (k : Int) ((sgN s k b : Nat) : Int) ((hdN s k b : Nat) : Int) (e : Int) H = some ((), H') ∧ HPC X H' s m ∧ KE X [13] H H' s s ∧ oth X k H H' ∧ Rw X H' s m k (Pb s m k (m + 1)) := fun w g5 =>
      fin H hc ⟨zst.rf, rfl, rfl, zfx.rf, zfd.rf, zfs.rf⟩ (fun _ _ _ _ => rfl) (row.im (fun L => by
        rw [pb]
        exact ⟨Or.inl, fun h => h.elim id fun ⟨a, L1, a1, a2⟩ => absurd a2 (fun a2 => w L1 (by rw [← a1]; exact a) a2)⟩) rfl rfl rfl) g5
    by_cases g1 : 0 < sgN s k (b + 1)
    · have g1' : (0 : Int) < ((sgN s k (b + 1) : Nat) : Int) := by omega
      by_cases g2 : s 0 74 < ((sgN s k (b + 1) : Nat) : Int)
      · refine none (fun L1 h5 h6 => ?_) ?_
        · have := h5.2.1
          rw [h6, r1] at this
          omega
        · rw [fPrintPlan_printAt_l1]
          simp only [yjn, ygi, ygr, yai, yvl, ft22 F, zA7, if_true, c1, c2, c3, c4, lim, if_false, fp22_4 F, ft23 F, fl23 F, em, bq, true_or, and_self, Int.toNat_natCast, c5 _ hkb, ea, em2, eg, g1', g2, ek]
      · have rn : run1 s k e := r1.mpr ⟨g1, by omega⟩
        rcases rows e ke em' with ⟨u1, u2⟩ | ⟨Le, ⟨u0, u1⟩, ⟨u2, u3, u4⟩, u5⟩
        · refine none (fun L1 h5 h6 => u2 L1 ⟨h5.2.2, h6⟩) ?_
          rw [fPrintPlan_printAt_l1]
          simp only [yjn, ygi, ygr, yai, yvl, ft22 F, zA7, if_true, c1, c2, c3, c4, lim, if_false, fp22_4 F, ft23 F, fl23 F, em, bq, true_or, and_self, Int.toNat_natCast, c5 _ hkb, ea, em2, eg, g1', g2, fp22_5 F, ft24 F, fl24 F, be, u1, ek]
        · have ok : okQ s m (k :: Le) := ⟨⟨by rw [u1]; exact ke, by rw [u1]; exact em'⟩, by rw [u1]; exact rn, u0⟩
          have sr : srt m k (k :: Le) := okQ.srt _ ok (Nat.le_refl _)
          obtain ⟨k1, k2⟩ := TLid_cons s sr
          have k3 : ck s m (k :: Le) = (s 0 72).toNat + hdN s k (b + 1) + ck s m Le := by
            show (s 0 72).toNat + hdN s k (hdm m Le - k) + ck s m Le = _
            rw [u1, eek]
          have cl := ck_le hp Le u0
          have zl : zk m (TL id Le) ≤ 10 := by
            have := sumP_le (f := fun _ => 1) (c := 1) (T := TL id Le) m (fun _ _ => Nat.le_refl _)
            unfold zk
            omega
          have eall : zadd (zadd (s 0 72) ((hdN s k (b + 1) : Nat) : Int)) ((ck s m Le : Nat) : Int) = ((ck s m (k :: Le) : Nat) : Int) := by
            rw [k3, zadd_e (x := s 0 72) (by omega) (by omega), zadd_e (by omega) (by omega)]
            omega
          have ez : zadd ((zk m (TL id Le) : Nat) : Int) 1 = ((zk m (TL id (k :: Le)) : Nat) : Int) := by rw [k1, zadd_e (by omega) (by omega)]; omega
          have eb : zor (zshl 1 (k : Int)) ((bk m (TL id Le) : Nat) : Int) = ((bk m (TL id (k :: Le)) : Nat) : Int) := by
            have e8 := zshl_11 ⟨k, by omega⟩
            dsimp only at e8
            rw [e8, zor_n (k := 10) (by omega) (Nat.pow_lt_pow_right (by omega) (by omega)) (bk_1024 y2 _), bk_or hk]
            rfl
          have same : ∀ L1, okQ s m (k :: L1) → hdm m L1 = e → ¬ CtL s m (k :: L1) (k :: Le) := fun L1 h5 h6 => CtL.cons (okQ.srt (k := k) _ h5 (Nat.le_refl _)) sr (h6.trans u1.symm) (u5 L1 ⟨h5.2.2, h6⟩)
          have dn : ¬ ((ck s m Le : Nat) : Int) = -1 := by omega
          obtain ⟨H1, e1⟩ : ∃ H1, H1 = zwr H (X + 24) k ((ck s m (k :: Le) : Nat) : Int) := ⟨_, rfl⟩
          obtain ⟨H2, e2'⟩ : ∃ H2, H2 = zwr H1 (X + 25) k ((zk m (TL id (k :: Le)) : Nat) : Int) := ⟨_, rfl⟩
          obtain ⟨H3, e3⟩ : ∃ H3, H3 = zwr H2 (X + 26) k ((bk m (TL id (k :: Le)) : Nat) : Int) := ⟨_, rfl⟩
          have hc1 : HPC X H1 s m := by rw [e1]; exact hc.w (Or.inl rfl)
          have hc2 : HPC X H2 s m := by rw [e2']; exact hc1.w (Or.inr (Or.inl rfl))
          have hc3 : HPC X H3 s m := by rw [e3]; exact hc2.w (Or.inr (Or.inr rfl))
          have F1 := hc1.1
          have F2 := hc2.1
          have v25 : zct H1 (X + 25) e = ((zk m (TL id Le) : Nat) : Int) := by rw [e1, zct_wr, if_neg (by clear k1 k2 k3 cl zl eall ez eb; omega)]; exact u3
          have ke3 : KE X [13] H H3 s s := ⟨by rw [e3, e2', e1]; exact (by repeat first | exact zst.rf | apply zst.wr), by rw [e3, e2', e1]; rfl, by rw [e3, e2', e1]; rfl, by rw [e3, e2', e1]; exact (by repeat first | exact zfx.rf | refine zfx.wr0 ?_ rfl | refine zfx.wr ?_ rfl), by rw [e3, e2', e1]; exact (by repeat first | exact zfd.rf | refine zfd.wr0 ?_ | refine zfd.wr ?_ (by omega)), zfs.rf⟩
          have ot3 : oth X k H H3 := fun r j hr hj => by
            rw [e3, e2', e1, zct_wr, if_neg (fun w => hj w.2), zct_wr, if_neg (fun w => hj w.2), zct_wr, if_neg (fun w => hj w.2)]
          have write : (∀ L', Pb s m k e L' → ¬ CtL s m L' (k :: Le)) → Rw X H3 s m k (Pb s m k (e + 1)) := fun w => by
            refine Or.inr ⟨k :: Le, (pb _).mpr (Or.inr ⟨ok, Le, rfl, u1⟩), ⟨?_, ?_, ?_⟩, fun L' hL' => ?_⟩
            · rw [e3, zct_wr, if_neg (by clear k1 k2 k3 cl zl eall ez eb; omega), e2', zct_wr, if_neg (by clear k1 k2 k3 cl zl eall ez eb; omega), e1, zct_wr, if_pos ⟨rfl, rfl⟩]
            · rw [e3, zct_wr, if_neg (by clear k1 k2 k3 cl zl eall ez eb; omega), e2', zct_wr, if_pos ⟨rfl, rfl⟩]
            · rw [e3, zct_wr, if_pos ⟨rfl, rfl⟩]
            · rcases (pb _).mp hL' with h | ⟨h, L1, h5, h6⟩
              · exact w L' h
              · rw [h5] at h ⊢; exact same L1 h h6
          rcases row with ⟨w1, w2⟩ | ⟨Lk, w1, ⟨w2, w3, w4⟩, w5⟩
          · refine fin H3 hc3 ke3 ot3 (write fun L' hL' => absurd hL' (w2 L')) ?_
            rw [fPrintPlan_printAt_l1]
            simp only [yjn, ygi, ygr, yai, ysi, yvl, ft22 F, ft22 F1, ft22 F2, zA7, if_true, c1, c2, c3, c4, lim, if_false, fp22_4 F, ft23 F, fl23 F, em, bq, true_or, and_self, true_and, Int.toNat_natCast, c5 _ hkb, ea, em2, eg, g1', g2, fp22_5 F, fp22_6 F1, fp22_7 F2, ft24 F, fl24 F, ft25 F1, fl25 F1, ft26 F, fl26 F, ft26 F2, fl26 F2, fp22_7 F, be, b11, u2, dn, eall, u4, eb, w1, ← e1, v25, ez, ← e2', ← e3, ek]
          · obtain ⟨v, v1, v2⟩ := e_betP F (k := k) (c := ck s m (k :: Le)) (z := zk m (TL id (k :: Le))) (b := bk m (TL id (k :: Le))) (by clear k1 k2 k3 cl zl eall ez eb; omega) w2 w3 w4
            have dk : ¬ ((ck s m Lk : Nat) : Int) = -1 := by clear k1 k2 k3 cl zl eall ez eb; omega
            by_cases cv : v = 0
            · refine fin H hc ⟨zst.rf, rfl, rfl, zfx.rf, zfd.rf, zfs.rf⟩ (fun _ _ _ _ => rfl) (Or.inr ⟨Lk, (pb _).mpr (Or.inl w1), ⟨w2, w3, w4⟩, fun L' hL' => ?_⟩) ?_
              · rcases (pb _).mp hL' with h | ⟨h, L1, h5, h6⟩
                · exact w5 L' h
                · rw [h5] at h ⊢; exact CtL.ntr (same L1 h h6) (v2.mp cv)
              · rw [fPrintPlan_printAt_l1]
                simp only [yjn, ygi, ygr, yai, yck, yvl, ybd_s, ft22 F, zA7, if_true, c1, c2, c3, c4, lim, if_false, fp22_4 F, ft23 F, fl23 F, em, bq, true_or, and_self, true_and, Int.toNat_natCast, c5 _ hkb, ea, em2, eg, g1', g2, fp22_5 F, fp22_6 F, ft24 F, fl24 F, ft25 F, fl25 F, ft26 F, fl26 F, fp22_7 F, be, b11, u2, u3, dn, eall, u4, eb, w2, dk, ez, v1, cv, ek]
            · have bt : CtL s m (k :: Le) Lk := Classical.not_not.mp fun w => cv (v2.mpr w)
              refine fin H3 hc3 ke3 ot3 (write fun L' hL' => CtL.le (w5 L' hL') bt) ?_
              rw [fPrintPlan_printAt_l1]
              simp only [yjn, ygi, ygr, yai, ysi, yck, yvl, ybd_s, ft22 F, ft22 F1, ft22 F2, zA7, if_true, c1, c2, c3, c4, lim, if_false, fp22_4 F, ft23 F, fl23 F, em, bq, true_or, and_self, true_and, Int.toNat_natCast, c5 _ hkb, ea, em2, eg, g1', g2, fp22_5 F, fp22_6 F, fp22_6 F1, fp22_7 F2, ft24 F, fl24 F, ft25 F, fl25 F, ft25 F1, fl25 F1, ft26 F, fl26 F, ft26 F2, fl26 F2, fp22_7 F, be, b11, u2, u3, dn, eall, u4, eb, w2, dk, ez, v1, cv, ← e1, v25, ← e2', ← e3, ek]
    · have g1' : ¬ (0 : Int) < ((sgN s k (b + 1) : Nat) : Int) := by omega
      refine none (fun L1 h5 h6 => ?_) ?_
      · have := h5.2.1
        rw [h6, r1] at this
        omega
      · rw [fPrintPlan_printAt_l1]
        simp only [yjn, ygi, ygr, yai, yvl, ft22 F, zA7, if_true, c1, c2, c3, c4, lim, if_false, fp22_4 F, ft23 F, fl23 F, em, bq, true_or, and_self, Int.toNat_natCast, c5 _ hkb, ea, em2, eg, g1', ek]
end PRINTS2
