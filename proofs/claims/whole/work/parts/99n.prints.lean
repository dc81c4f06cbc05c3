section PRINTS3
variable {X : Nat} {s : zSg} {m : Nat}
theorem Pb_Pf {k : Nat} (hk : k < m) (L : List Nat) : Pb s m k (m + 1) L ↔ Pf s m k L := by
  constructor
  · rintro ⟨a, L1, a1, a2⟩
    exact ⟨a, by rw [a1]; rfl⟩
  · rintro ⟨a, a1⟩
    cases L with
    | nil => exact absurd a1 (Nat.ne_of_gt hk)
    | cons p L1 =>
      have e : p = k := a1
      have := a.1.2
      exact ⟨a, L1, by rw [e], by omega⟩
theorem e_pa (hp : HP s m) {k : Nat} (hk : k < m) {H : zHp} (hc : HPC X H s m) (rows : ∀ e, k < e → e ≤ m → Rw X H s m e (Pf s m e)) : ∃ H', fPrintPlan_printAt (X + 22) (k : Int) H = some ((), H') ∧ HPC X H' s m ∧ KE X [13] H H' s s ∧ oth X k H H' ∧ Rw X H' s m k (Pf s m k) := by
  have m10 := hp.2.1
  have F := hc.1
  obtain ⟨H1, e1⟩ : ∃ H1, H1 = zwr H (X + 24) k (-1) := ⟨_, rfl⟩
  have hc1 : HPC X H1 s m := by rw [e1]; exact hc.w (Or.inl rfl)
  have ot1 : oth X k H H1 := fun r j hr hj => by rw [e1, zct_wr, if_neg (fun w => hj w.2)]
  have ke1 : KE X [13] H H1 s s := ⟨by rw [e1]; exact (by repeat first | exact zst.rf | apply zst.wr), by rw [e1]; rfl, by rw [e1]; rfl, by rw [e1]; exact (by repeat first | exact zfx.rf | refine zfx.wr0 ?_ rfl | refine zfx.wr ?_ rfl), by rw [e1]; exact (by repeat first | exact zfd.rf | refine zfd.wr0 ?_ | refine zfd.wr ?_ (by omega)), zfs.rf⟩
  obtain ⟨H', i1, i2, i3, i4, i5⟩ := e_pa_l hp hk (m - k) zFU 0 H1 rfl (by rw [zFU_e]; omega) (by omega) hc1 (fun e h1 h2 => (rows e h1 h2).im (fun _ => Iff.rfl) (ot1 24 e (Or.inl rfl) (by omega)) (ot1 25 e (Or.inr (Or.inl rfl)) (by omega)) (ot1 26 e (Or.inr (Or.inr rfl)) (by omega))) (Or.inl ⟨by rw [e1, zct_wr, if_pos ⟨rfl, rfl⟩], fun L h => by
    obtain ⟨a, L1, a1, a2⟩ := h
    rw [a1] at a
    have := a.1.1
    omega⟩)
  have i1' : fPrintPlan_printAt_l1 zFU (X + 22) (k : Int) 0 0 ((k + 1 : Nat) : Int) H1 = some ((), H') := i1
  have b11 : 0 ≤ (k : Int) ∧ (k : Int) < ((11 : Nat) : Int) := by omega
  have ek : zadd (k : Int) 1 = ((k + 1 : Nat) : Int) := by rw [zadd_e (by omega) (by omega)]; omega
  refine ⟨H', ?_, i2, ke1.tr i3, fun r j hr hj => (i4 r j hr hj).trans (ot1 r j hr hj), i5.im (Pb_Pf hk) rfl rfl rfl⟩
  unfold fPrintPlan_printAt
  simp only [ygr, ysi, yvl, ft22 F, zA7, if_true, fp22_5 F, ft24 F, fl24 F, b11, true_and, and_self, true_or, Int.toNat_natCast, ← e1, ek]
  exact i1'
theorem e_pf_l (hp : HP s m) : ∀ (k f : Nat) (H : zHp), k ≤ m → k < f → HPC X H s m → (∀ e, k ≤ e → e ≤ m → Rw X H s m e (Pf s m e)) → ∃ H', (∀ Q, fPrintPlan_bestFirst_l1 f (X + 22) ((k : Int) - 1) H Q = Q (X + 22) H') ∧ HPC X H' s m ∧ KE X [13] H H' s s ∧ ∀ e, e ≤ m → Rw X H' s m e (Pf s m e) := by
  have m10 := hp.2.1
  intro k
  induction k with
  | zero =>
    intro f H h1 h2 hc rows
    obtain ⟨f, rfl⟩ : ∃ f', f = f' + 1 := ⟨f - 1, by omega⟩
    refine ⟨H, fun Q => ?_, hc, ⟨zst.rf, rfl, rfl, zfx.rf, zfd.rf, zfs.rf⟩, fun e he => rows e (Nat.zero_le _) he⟩
    rw [fPrintPlan_bestFirst_l1, if_pos (by omega)]
  | succ k ih =>
    intro f H h1 h2 hc rows
    obtain ⟨f, rfl⟩ : ∃ f', f = f' + 1 := ⟨f - 1, by omega⟩
    obtain ⟨H1, i1, i2, i3, i4, i5⟩ := e_pa hp (k := k) (by omega) hc (fun e h3 h4 => rows e (by omega) h4)
    obtain ⟨H', j1, j2, j3, j4⟩ := ih f H1 (by omega) (by omega) i2 (fun e h3 h4 => by
      by_cases c : e = k
      · rw [c]; exact i5
      · exact (rows e (by omega) h4).im (fun _ => Iff.rfl) (i4 24 e (Or.inl rfl) c) (i4 25 e (Or.inr (Or.inl rfl)) c) (i4 26 e (Or.inr (Or.inr rfl)) c))
    refine ⟨H', fun Q => ?_, j2, i3.tr j3, j4⟩
    have e0 : ((k + 1 : Nat) : Int) - 1 = (k : Int) := by omega
    have em : zadd (k : Int) (-1) = (k : Int) - 1 := by rw [zadd_e (by omega) (by omega)]; omega
    rw [← j1 Q, fPrintPlan_bestFirst_l1, e0, if_neg (by omega)]
    simp only [yck, ft22 hc.1, zA7, if_true, i1, ybd_s, yvl, em]
/-- the plans that may begin at once -/
def PF (s : zSg) (m : Nat) (L : List Nat) : Prop := okQ s m L ∧ ∀ i, i < hdm m L → s 71 i = 0
theorem e_pb_l (hp : HP s m) {H : zHp} (hc : HPC X H s m) (rows : ∀ e, e ≤ m → Rw X H s m e (Pf s m e)) : ∀ (d f k b : Nat), m + 1 - k = d → d < f → 1 ≤ k → k ≤ m + 1 → b < k → (∀ i, i < k - 1 → s 71 i = 0) → Rw X H s m b (fun L => okQ s m L ∧ hdm m L < k) →
    ∃ b' : Nat, fPrintPlan_bestFirst_l3 f (X + 22) (b : Int) (k : Int) H = some ((b' : Int), H) ∧ b' ≤ m ∧ Rw X H s m b' (PF s m) := by
  obtain ⟨y1, y2, y3, y4, y5, y6⟩ := id hp
  obtain ⟨F, ⟨c1, c2, c3, c4⟩, c5⟩ := id hc
  have hm : ∀ L, okQ s m L → hdm m L ≤ m := fun L h => by
    cases L with
    | nil => exact Nat.le_refl _
    | cons p L =>
      have a := h.1.1
      have b := h.1.2
      show p ≤ m
      omega
  intro d
  induction d with
  | zero =>
    intro f k b h1 h2 h3 h4 h5 h6 row
    obtain ⟨f, rfl⟩ : ∃ f', f = f' + 1 := ⟨f - 1, by omega⟩
    obtain rfl : k = m + 1 := by omega
    refine ⟨b, ?_, by omega, row.im (fun L => ?_) rfl rfl rfl⟩
    · rw [fPrintPlan_bestFirst_l3]
      simp only [yjn, ygi, ft22 F, zA7, if_true, c4]
      rw [if_pos (by omega)]
    · exact ⟨fun w => ⟨w.1, fun i hi => h6 i (by have := w.2; omega)⟩, fun w => ⟨w.1, by have := hm L w.1; omega⟩⟩
  | succ d ih =>
    intro f k b h1 h2 h3 h4 h5 h6 row
    obtain ⟨f, rfl⟩ : ∃ f', f = f' + 1 := ⟨f - 1, by omega⟩
    have lim : ¬ (m : Int) < (k : Int) := by omega
    have em : zsub (k : Int) 1 = ((k - 1 : Nat) : Int) := by rw [zsub_e (by omega) (by omega)]; omega
    have bq : 0 ≤ ((k - 1 : Nat) : Int) ∧ ((k - 1 : Nat) : Int) < ((10 : Nat) : Int) := by omega
    have be : 0 ≤ (k : Int) ∧ (k : Int) < ((11 : Nat) : Int) := by omega
    have bb : 0 ≤ (b : Int) ∧ (b : Int) < ((11 : Nat) : Int) := by omega
    have ek : zadd (k : Int) 1 = ((k + 1 : Nat) : Int) := by rw [zadd_e (by omega) (by omega)]; omega
    have x1 : m + 1 - (k + 1) = d := by omega
    have x2 : d < f := by omega
    have x4 : k + 1 ≤ m + 1 := by omega
    have q1 := c5 (k - 1) (by omega)
    by_cases g : s 71 (k - 1) = 0
    · have z6 : ∀ i, i < k + 1 - 1 → s 71 i = 0 := fun i hi => by
        by_cases c : i = k - 1
        · rw [c]; exact g
        · exact h6 i (by omega)
      have sp : ∀ L, (okQ s m L ∧ hdm m L < k + 1) ↔ (okQ s m L ∧ hdm m L < k) ∨ Pf s m k L := fun L => by
        unfold Pf
        constructor
        · rintro ⟨a, a1⟩
          by_cases c : hdm m L = k
          · exact Or.inr ⟨a, c⟩
          · exact Or.inl ⟨a, by omega⟩
        · rintro (⟨a, a1⟩ | ⟨a, a1⟩)
          · exact ⟨a, by omega⟩
          · exact ⟨a, by omega⟩
      rcases row with ⟨w1, w2⟩ | ⟨Lb, w1, ⟨w2, w3, w4⟩, w5⟩
      · obtain ⟨b', i1, i2⟩ := ih f (k + 1) k x1 x2 (by omega) x4 (by omega) z6 ((rows k (by omega)).im (fun L => by
          rw [sp]
          exact ⟨Or.inr, fun h => h.elim (fun h => absurd h (w2 L)) id⟩) rfl rfl rfl)
        refine ⟨b', ?_, i2⟩
        rw [fPrintPlan_bestFirst_l3]
        simp only [yjn, ygi, ygr, yai, yvl, ft22 F, zA7, if_true, c4, lim, if_false, fp22_4 F, ft23 F, fl23 F, em, bq, true_or, and_self, true_and, Int.toNat_natCast, q1, g, fp22_5 F, ft24 F, fl24 F, bb, w1, ek]
        exact i1
      · have nb : ¬ ((ck s m Lb : Nat) : Int) = -1 := by omega
        rcases rows k (by omega) with ⟨u1, u2⟩ | ⟨Lk, u1, ⟨u2, u3, u4⟩, u5⟩
        · obtain ⟨b', i1, i2⟩ := ih f (k + 1) b x1 x2 (by omega) x4 (by omega) z6 (Or.inr ⟨Lb, (sp _).mpr (Or.inl w1), ⟨w2, w3, w4⟩, fun L' hL' => ((sp _).mp hL').elim (w5 L') fun h => absurd h (u2 L')⟩)
          refine ⟨b', ?_, i2⟩
          rw [fPrintPlan_bestFirst_l3]
          simp only [yjn, ygi, ygr, yai, yvl, ft22 F, zA7, if_true, c4, lim, if_false, fp22_4 F, ft23 F, fl23 F, em, bq, true_or, and_self, true_and, Int.toNat_natCast, q1, g, fp22_5 F, ft24 F, fl24 F, bb, be, w2, nb, u1, ek]
          exact i1
        · have nk : ¬ ((ck s m Lk : Nat) : Int) = -1 := by omega
          obtain ⟨v, v1, v2⟩ := e_betP F (k := b) (c := ck s m Lk) (z := zk m (TL id Lk)) (b := bk m (TL id Lk)) (by omega) w2 w3 w4
          by_cases cv : v = 0
          · obtain ⟨b', i1, i2⟩ := ih f (k + 1) b x1 x2 (by omega) x4 (by omega) z6 (Or.inr ⟨Lb, (sp _).mpr (Or.inl w1), ⟨w2, w3, w4⟩, fun L' hL' => ((sp _).mp hL').elim (w5 L') fun h => CtL.ntr (u5 L' h) (v2.mp cv)⟩)
            refine ⟨b', ?_, i2⟩
            rw [fPrintPlan_bestFirst_l3]
            simp only [yjn, ygi, ygr, yai, yck, yvl, ybd_s, ft22 F, zA7, if_true, c4, lim, if_false, fp22_4 F, ft23 F, fl23 F, em, bq, true_or, and_self, true_and, Int.toNat_natCast, q1, g, fp22_5 F, fp22_6 F, fp22_7 F, ft24 F, fl24 F, ft25 F, fl25 F, ft26 F, fl26 F, bb, be, w2, nb, u2, u3, u4, nk, v1, cv, ek]
            exact i1
          · have bt : CtL s m Lk Lb := Classical.not_not.mp fun w => cv (v2.mpr w)
            obtain ⟨b', i1, i2⟩ := ih f (k + 1) k x1 x2 (by omega) x4 (by omega) z6 (Or.inr ⟨Lk, (sp _).mpr (Or.inr u1), ⟨u2, u3, u4⟩, fun L' hL' => ((sp _).mp hL').elim (fun h => CtL.le (w5 L' h) bt) (u5 L')⟩)
            refine ⟨b', ?_, i2⟩
            rw [fPrintPlan_bestFirst_l3]
            simp only [yjn, ygi, ygr, yai, yck, yvl, ybd_s, ft22 F, zA7, if_true, c4, lim, if_false, fp22_4 F, ft23 F, fl23 F, em, bq, true_or, and_self, true_and, Int.toNat_natCast, q1, g, fp22_5 F, fp22_6 F, fp22_7 F, ft24 F, fl24 F, ft25 F, fl25 F, ft26 F, fl26 F, bb, be, w2, nb, u2, u3, u4, nk, v1, cv, ek]
            exact i1
    · refine ⟨b, ?_, by omega, row.im (fun L => ?_) rfl rfl rfl⟩
      · rw [fPrintPlan_bestFirst_l3]
        simp only [yjn, ygi, ygr, yai, ft22 F, zA7, if_true, c4, lim, if_false, fp22_4 F, ft23 F, fl23 F, em, bq, true_or, and_self, Int.toNat_natCast, q1, g]
      · refine ⟨fun w => ⟨w.1, fun i hi => h6 i (by have := w.2; omega)⟩, fun w => ⟨w.1, ?_⟩⟩
        by_cases c : hdm m L < k
        · exact c
        · exact absurd (w.2 (k - 1) (by omega)) g
theorem e_bestP (hp : HP s m) {H : zHp} (hc : HPC X H s m) : ∃ (H' : zHp) (b : Nat), fPrintPlan_bestFirst (X + 22) H = some ((b : Int), H') ∧ HPC X H' s m ∧ KE X [13] H H' s s ∧ b ≤ m ∧ Rw X H' s m b (PF s m) := by
  have m10 := hp.2.1
  obtain ⟨F, ⟨c1, c2, c3, c4⟩, c5⟩ := id hc
  obtain ⟨H1, e1⟩ : ∃ H1, H1 = zwr H (X + 24) m 0 := ⟨_, rfl⟩
  obtain ⟨H2, e2⟩ : ∃ H2, H2 = zwr H1 (X + 25) m 0 := ⟨_, rfl⟩
  obtain ⟨H3, e3⟩ : ∃ H3, H3 = zwr H2 (X + 26) m 0 := ⟨_, rfl⟩
  have hc1 : HPC X H1 s m := by rw [e1]; exact hc.w (Or.inl rfl)
  have hc2 : HPC X H2 s m := by rw [e2]; exact hc1.w (Or.inr (Or.inl rfl))
  have hc3 : HPC X H3 s m := by rw [e3]; exact hc2.w (Or.inr (Or.inr rfl))
  have ke3 : KE X [13] H H3 s s := ⟨by rw [e3, e2, e1]; exact (by repeat first | exact zst.rf | apply zst.wr), by rw [e3, e2, e1]; rfl, by rw [e3, e2, e1]; rfl, by rw [e3, e2, e1]; exact (by repeat first | exact zfx.rf | refine zfx.wr0 ?_ rfl | refine zfx.wr ?_ rfl), by rw [e3, e2, e1]; exact (by repeat first | exact zfd.rf | refine zfd.wr0 ?_ | refine zfd.wr ?_ (by omega)), zfs.rf⟩
  have nk := nil_keys (s := s) (n := m) (o := id)
  have rm : Rw X H3 s m m (Pf s m m) := by
    refine Or.inr ⟨[], ⟨trivial, rfl⟩, ⟨?_, ?_, ?_⟩, fun L' hL' => ?_⟩
    · rw [e3, zct_wr, if_neg (by omega), e2, zct_wr, if_neg (by omega), e1, zct_wr, if_pos ⟨rfl, rfl⟩]; rfl
    · rw [e3, zct_wr, if_neg (by omega), e2, zct_wr, if_pos ⟨rfl, rfl⟩, nk.2.1]; rfl
    · rw [e3, zct_wr, if_pos ⟨rfl, rfl⟩, nk.2.2]; rfl
    · obtain ⟨a, b⟩ := hL'
      cases L' with
      | nil => exact CtL.irr
      | cons p L1 =>
        have b : p = m := b
        have := a.1
        omega
  obtain ⟨H', i1, i2, i3, i4⟩ := e_pf_l hp m zFU H3 (Nat.le_refl _) (by rw [zFU_e]; omega) hc3 (fun e h1 h2 => by rw [show e = m by omega]; exact rm)
  obtain ⟨b, j1, j2, j3⟩ := e_pb_l hp i2 i4 m zFU 1 0 (by omega) (by rw [zFU_e]; omega) (Nat.le_refl _) (by omega) (by omega) (fun i hi => absurd hi (by omega)) ((i4 0 (Nat.zero_le _)).im (fun L => ⟨fun w => ⟨w.1, by have := w.2; omega⟩, fun w => ⟨w.1, by have := w.2; omega⟩⟩) rfl rfl rfl)
  have j1' : fPrintPlan_bestFirst_l3 zFU (X + 22) 0 1 H' = some ((b : Int), H') := j1
  refine ⟨H', b, ?_, i2, ke3.tr i3, j2, j3⟩
  have bm : 0 ≤ (m : Int) ∧ (m : Int) < ((11 : Nat) : Int) := by omega
  have es : zsub (m : Int) 1 = (m : Int) - 1 := zsub_e (by omega) (by omega)
  have F1 := hc1.1
  have F2 := hc2.1
  have F3 := hc3.1
  unfold fPrintPlan_bestFirst
  simp only [ygi, ygr, ysi, yvl, ft22 F, ft22 F1, ft22 F2, ft22 F3, zA7, if_true, c4, hc1.2.1.2.2.2, hc2.2.1.2.2.2, hc3.2.1.2.2.2, fp22_5 F, fp22_6 F1, fp22_7 F2, ft24 F, fl24 F, ft25 F1, fl25 F1, ft26 F2, fl26 F2, bm, true_and, and_self, true_or, Int.toNat_natCast, ← e1, ← e2, ← e3, es]
  rw [i1]
  exact j1'
end PRINTS3
