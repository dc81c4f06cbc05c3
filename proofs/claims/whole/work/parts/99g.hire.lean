section HIRE2
variable {X : Nat} {s : zSg} {n : Nat} {o : Nat → Nat}
/-- what the class keeps of the asks -/
def HC (X : Nat) (H : zHp) (s : zSg) (n : Nat) (o : Nat → Nat) : Prop := IFx X H ∧ zct H (X + 12) 1 = (n : Int) ∧ (∀ i, i < 36 → zct H (X + 13) i = s 63 i) ∧ (∀ k, k < n → zct H (X + 14) k = s 66 k ∧ zct H (X + 15) k = s 67 k ∧ zct H (X + 16) k = s 68 k ∧ zct H (X + 17) k = s 69 k) ∧ ∀ p, p < n → zct H (X + 18) p = ((o p : Nat) : Int)
theorem HC.w {H : zHp} (h : HC X H s n o) {r k : Nat} {v : Int} (hr : r = 19 ∨ r = 20 ∨ r = 21) : HC X (zwr H (X + r) k v) s n o := by
  obtain ⟨F, a, b, c, d⟩ := h
  refine ⟨?_, by rw [zct_wr, if_neg (by omega)]; exact a, fun i hi => by rw [zct_wr, if_neg (by omega)]; exact b i hi, fun k hk => ?_, fun p hp => by rw [zct_wr, if_neg (by omega)]; exact d p hp⟩
  · rcases hr with e | e | e <;> subst e <;> exact F.fr (gs := [12]) (by repeat first | exact zst.rf | apply zst.wr) (by repeat first | exact zfx.rf | refine zfx.wr0 ?_ rfl | refine zfx.wr ?_ rfl) rfl
  · rw [zct_wr, if_neg (by omega), zct_wr, if_neg (by omega), zct_wr, if_neg (by omega), zct_wr, if_neg (by omega)]
    exact c k hk
theorem e_wayB {H : zHp} (h : HC X H s n o) {a b : Int} (ha : 0 ≤ a ∧ a ≤ 5) (hb : 0 ≤ b ∧ b ≤ 5) : fTour_wayBetween (X + 12) a b H = some (wyb s a b, H) := by
  obtain ⟨F, -, w, -⟩ := h
  have e : zadd (zmul a 6) b = 6 * a + b := by rw [zmul_e (by omega) (by omega), zadd_e (by omega) (by omega)]; omega
  have b36 : 0 ≤ 6 * a + b ∧ 6 * a + b < ((36 : Nat) : Int) := by omega
  have q := w (6 * a + b).toNat (by omega)
  unfold fTour_wayBetween
  simp only [e_isTown, ybd_s, ha, hb, and_self, if_true, i01, not_true, if_false, ygr, yai, ft12 F, zA9, fp12_0 F, ft13 F, fl13 F, e, b36, true_or, q]
  rfl
/-- the best so far and its list -/
def Kr (X : Nat) (H : zHp) (s : zSg) (n : Nat) (o : Nat → Nat) (r : Int) (L : List Nat) : Prop := (r = -1 ∧ L = []) ∨ ∃ p L', L = p :: L' ∧ p < n ∧ r = ((o p : Nat) : Int) ∧ zct H (X + 19) (o p) = ((wk s n (TL o L) : Nat) : Int) ∧ zct H (X + 20) (o p) = ((zk n (TL o L) : Nat) : Int) ∧ zct H (X + 21) (o p) = ((bk n (TL o L) : Nat) : Int)
theorem Kr.w {H : zHp} {r : Int} {L : List Nat} (hy : HY s n o) (h : Kr X H s n o r L) {q k : Nat} {v : Int} (hq : q < n) (hd : ∀ p L', L = p :: L' → p ≠ q) : Kr X (zwr H (X + k) (o q) v) s n o r L := by
  rcases h with h | ⟨p, L', h1, h2, h3, h4⟩
  · exact Or.inl h
  · refine Or.inr ⟨p, L', h1, h2, h3, ?_⟩
    have ne : o p ≠ o q := fun e => hd p L' h1 (hy.inj h2 hq e)
    rw [zct_wr, if_neg (by omega), zct_wr, if_neg (by omega), zct_wr, if_neg (by omega)]
    exact h4
theorem e_worthFrom {H : zHp} (F : IFx X H) (hy : HY s n o) {r : Int} {L : List Nat} (h : Kr X H s n o r L) : fTour_worthFrom (X + 12) r H = some (((wk s n (TL o L) : Nat) : Int), H) := by
  unfold fTour_worthFrom
  simp only [e_within, ybd_s, i01]
  rcases h with ⟨h1, h2⟩ | ⟨p, L', h1, h2, h3, h4, h5, h6⟩
  · rw [h1, h2, nil_keys.1, if_pos (by decide)]; rfl
  · have := hy.2.2.2.2.1 p h2
    have := hy.2.1
    have b9 : 0 ≤ ((o p : Nat) : Int) ∧ ((o p : Nat) : Int) < ((9 : Nat) : Int) := by omega
    rw [h3, if_neg (by omega)]
    simp only [ygr, yai, ft12 F, zA9, if_true, fp12_7 F, ft19 F, fl19 F, b9, true_or, and_self, Int.toNat_natCast, h4]
theorem e_bitsFrom {H : zHp} (F : IFx X H) (hy : HY s n o) {r : Int} {L : List Nat} (h : Kr X H s n o r L) : fTour_bitsFrom (X + 12) r H = some (((bk n (TL o L) : Nat) : Int), H) := by
  unfold fTour_bitsFrom
  simp only [e_within, ybd_s, i01]
  rcases h with ⟨h1, h2⟩ | ⟨p, L', h1, h2, h3, h4, h5, h6⟩
  · rw [h1, h2, (nil_keys (s := s)).2.2, if_pos (by decide)]; rfl
  · have := hy.2.2.2.2.1 p h2
    have := hy.2.1
    have b9 : 0 ≤ ((o p : Nat) : Int) ∧ ((o p : Nat) : Int) < ((9 : Nat) : Int) := by omega
    rw [h3, if_neg (by omega)]
    simp only [ygr, yai, ft12 F, zA9, if_true, fp12_9 F, ft21 F, fl21 F, b9, true_or, and_self, Int.toNat_natCast, h6]
theorem e_isBetter {H : zHp} (F : IFx X H) (hy : HY s n o) {p : Nat} {L L2 : List Nat} {k : Nat} (hs : srt n k (p :: L)) (h : Kr X H s n o ((o p : Nat) : Int) (p :: L)) {r : Int} (h' : Kr X H s n o r L2) : ∃ v, fTour_isBetter (X + 12) ((o p : Nat) : Int) r H = some (v, H) ∧ (v = 0 ↔ ¬ BtT s n (TL o (p :: L)) (TL o L2)) := by
  have kc := TL.cons hy hs
  rcases h with ⟨h1, h2⟩ | ⟨p1, L', h1, h2, h3, h4, h5, h6⟩
  · cases h2
  obtain ⟨rfl, rfl⟩ : p = p1 ∧ L = L' := by injection h1 with a b; exact ⟨a, b⟩
  have op := hy.2.2.2.2.1 p h2
  have n9 := hy.2.1
  have b9 : 0 ≤ ((o p : Nat) : Int) ∧ ((o p : Nat) : Int) < ((9 : Nat) : Int) := by omega
  have ew := e_worthFrom F hy h'
  unfold fTour_isBetter
  simp only [yjn, ygr, yai, yck, ft12 F, zA9, if_true, fp12_7 F, fp12_8 F, fp12_9 F, ft19 F, fl19 F, ft20 F, fl20 F, ft21 F, fl21 F, b9, true_or, and_self, Int.toNat_natCast, h4, h5, h6, ew, ybd_s]
  unfold BtT Bt
  rcases h' with ⟨g1, g2⟩ | ⟨q, L3, g1, g2, g3, g4, g5, g6⟩
  · have nk := nil_keys (s := s) (n := n) (o := o)
    rw [← g2] at nk
    rw [if_pos g1]
    by_cases c : ((wk s n (TL o L2) : Nat) : Int) < ((wk s n (TL o (p :: L)) : Nat) : Int)
    · rw [if_pos c]; exact ⟨1, rfl, by omega⟩
    · rw [if_neg c]; exact ⟨0, rfl, by omega⟩
  · have oq := hy.2.2.2.2.1 q g2
    have b9' : 0 ≤ ((o q : Nat) : Int) ∧ ((o q : Nat) : Int) < ((9 : Nat) : Int) := by omega
    rw [g3, if_neg (by omega)]
    simp only [b9', and_self, if_true, Int.toNat_natCast, g4, g5, g6]
    by_cases c1 : ((wk s n (TL o (p :: L)) : Nat) : Int) = ((wk s n (TL o L2) : Nat) : Int)
    · rw [if_pos c1]
      by_cases c2 : ((zk n (TL o (p :: L)) : Nat) : Int) = ((zk n (TL o L2) : Nat) : Int)
      · rw [if_pos c2]
        by_cases c3 : ((bk n (TL o (p :: L)) : Nat) : Int) < ((bk n (TL o L2) : Nat) : Int)
        · rw [if_pos c3]; exact ⟨1, rfl, by omega⟩
        · rw [if_neg c3]; exact ⟨0, rfl, by omega⟩
      · rw [if_neg c2]
        by_cases c3 : ((zk n (TL o (p :: L)) : Nat) : Int) < ((zk n (TL o L2) : Nat) : Int)
        · rw [if_pos c3]; exact ⟨1, rfl, by omega⟩
        · rw [if_neg c3]; exact ⟨0, rfl, by omega⟩
    · rw [if_neg c1]
      by_cases c3 : ((wk s n (TL o L2) : Nat) : Int) < ((wk s n (TL o (p :: L)) : Nat) : Int)
      · rw [if_pos c3]; exact ⟨1, rfl, by omega⟩
      · rw [if_neg c3]; exact ⟨0, rfl, by omega⟩
/-- from place k on every ask's best list is known -/
def Dn (X : Nat) (H : zHp) (s : zSg) (n : Nat) (o : Nat → Nat) (k : Nat) : Prop := ∀ p, k ≤ p → p < n → ∃ L, OpL s n o (p + 1) (s 66 (o p)) (s 68 (o p) + 1) L ∧ Kr X H s n o ((o p : Nat) : Int) (p :: L)
theorem e_bb_l {H : zHp} (hc : HC X H s n o) (hy : HY s n o) {t d : Int} (ht : 0 ≤ t ∧ t ≤ 5) (hd : 0 ≤ d ∧ d ≤ 10000) {k0 : Nat} (dn : Dn X H s n o k0) : ∀ (m f j : Nat) (r : Int) (Lb : List Nat), n - j = m → m < f → k0 ≤ j → j ≤ n → Kr X H s n o r Lb → okL s n o k0 t d Lb → (∀ L', okL s n o k0 t d L' → (L' = [] ∨ ∃ p L2, L' = p :: L2 ∧ p < j) → ¬ BtT s n (TL o L') (TL o Lb)) →
    ∃ r' L', fTour_bestBehind_l1 f (X + 12) t d r (j : Int) H = some (r', H) ∧ Kr X H s n o r' L' ∧ OpL s n o k0 t d L' := by
  obtain ⟨F, c1, c2, c3, c4⟩ := id hc
  obtain ⟨y1, y2, y3, y4, y5, y6⟩ := id hy
  intro m
  induction m with
  | zero =>
    intro f j r Lb h1 h2 h3 h4 kr ok best
    obtain ⟨f, rfl⟩ : ∃ f', f = f' + 1 := ⟨f - 1, by omega⟩
    obtain rfl : j = n := by omega
    refine ⟨r, Lb, ?_, kr, ok, fun L' hL => best L' hL ?_⟩
    · rw [fTour_bestBehind_l1]
      simp only [yjn, ygi, ft12 F, zA9, if_true, c1]
      rw [if_neg (by omega)]
    · cases L' with
      | nil => exact Or.inl rfl
      | cons p L2 => exact Or.inr ⟨p, L2, rfl, hL.1.2⟩
  | succ m ih =>
    intro f j r Lb h1 h2 h3 h4 kr ok best
    obtain ⟨f, rfl⟩ : ∃ f', f = f' + 1 := ⟨f - 1, by omega⟩
    have hj : j < n := by omega
    have oj := y5 j hj
    obtain ⟨a1, a2, a3, a4⟩ := y3 (o j) oj
    obtain ⟨d1, d2, d3, d4⟩ := c3 (o j) oj
    have bj : 0 ≤ ((o j : Nat) : Int) ∧ ((o j : Nat) : Int) < ((9 : Nat) : Int) := by omega
    have b0 : 0 ≤ (j : Int) ∧ (j : Int) < ((9 : Nat) : Int) := by omega
    have ej : zadd (j : Int) 1 = ((j + 1 : Nat) : Int) := by rw [zadd_e (by omega) (by omega)]; omega
    have jn : (j : Int) < (n : Int) := by omega
    have wr : 0 ≤ wyb s t (s 66 (o j)) ∧ wyb s t (s 66 (o j)) ≤ 99 := y4 _ (by omega)
    have ed : zadd d (wyb s t (s 66 (o j))) = d + wyb s t (s 66 (o j)) := zadd_e (by omega) (by omega)
    have run : ∀ v, fTour_bestBehind_l1 (f + 1) (X + 12) t d r (j : Int) H = some v ↔ (if s 67 (o j) < d + wyb s t (s 66 (o j)) then fTour_bestBehind_l1 f (X + 12) t d r ((j + 1 : Nat) : Int) H else ybd (fTour_isBetter (X + 12) ((o j : Nat) : Int) r H) fun v25 s26 => if v25 = 0 then fTour_bestBehind_l1 f (X + 12) t d r ((j + 1 : Nat) : Int) s26 else fTour_bestBehind_l1 f (X + 12) t d ((o j : Nat) : Int) ((j + 1 : Nat) : Int) s26) = some v := fun v => by
      rw [fTour_bestBehind_l1]
      simp only [yjn, ygi, ygr, yai, yvl, yck, ft12 F, zA9, if_true, c1, jn, fp12_6 F, ft18 F, fl18 F, b0, true_or, and_self, Int.toNat_natCast, c4 j hj, fp12_2 F, ft14 F, fl14 F, bj, d1, e_wayB hc ht a1, ybd_s, fp12_3 F, ft15 F, fl15 F, d2, ed, ej]
    by_cases g : s 67 (o j) < d + wyb s t (s 66 (o j))
    · obtain ⟨r', L', i1, i2⟩ := ih f (j + 1) r Lb (by omega) (by omega) (by omega) (by omega) kr ok (fun L' hL hh => by
        refine best L' hL ?_
        rcases hh with e | ⟨p, L2, e, hp⟩
        · exact Or.inl e
        · refine Or.inr ⟨p, L2, e, ?_⟩
          have : p ≠ j := fun e2 => by
            rw [e, e2] at hL
            have := hL.2.1
            omega
          omega)
      exact ⟨r', L', (run _).mpr (by rw [if_pos g]; exact i1), i2⟩
    · obtain ⟨L, l1, l2⟩ := dn j h3 hj
      have sr : srt n j (j :: L) := ⟨⟨Nat.le_refl _, hj⟩, okL.srt L l1.1⟩
      obtain ⟨v, v1, v2⟩ := e_isBetter F hy sr l2 kr
      by_cases c : v = 0
      · obtain ⟨r', L', i1, i2⟩ := ih f (j + 1) r Lb (by omega) (by omega) (by omega) (by omega) kr ok (fun L' hL hh => by
          rcases hh with e | ⟨p, L2, e, hp⟩
          · exact best L' hL (Or.inl e)
          · by_cases e2 : p = j
            · rw [e, e2] at hL ⊢
              exact BtT.ntr (TL.btc hy (k := j) ⟨⟨Nat.le_refl _, hj⟩, okL.srt L2 hL.2.2⟩ sr (l1.2 L2 hL.2.2)) (v2.mp c)
            · exact best L' hL (Or.inr ⟨p, L2, e, by omega⟩))
        exact ⟨r', L', (run _).mpr (by rw [if_neg g, v1, ybd_s, if_pos c]; exact i1), i2⟩
      · have bt : BtT s n (TL o (j :: L)) (TL o Lb) := Classical.not_not.mp fun w => c (v2.mpr w)
        obtain ⟨r', L', i1, i2⟩ := ih f (j + 1) ((o j : Nat) : Int) (j :: L) (by omega) (by omega) (by omega) (by omega) l2 ⟨⟨h3, hj⟩, by omega, l1.1⟩ (fun L' hL hh => by
          rcases hh with e | ⟨p, L2, e, hp⟩
          · exact BtT.le (best L' hL (Or.inl e)) bt
          · by_cases e2 : p = j
            · rw [e, e2] at hL ⊢
              exact TL.btc hy (k := j) ⟨⟨Nat.le_refl _, hj⟩, okL.srt L2 hL.2.2⟩ sr (l1.2 L2 hL.2.2)
            · exact BtT.le (best L' hL (Or.inr ⟨p, L2, e, by omega⟩)) bt)
        exact ⟨r', L', (run _).mpr (by rw [if_neg g, v1, ybd_s, if_neg c]; exact i1), i2⟩
theorem e_bb {H : zHp} (hc : HC X H s n o) (hy : HY s n o) {t d : Int} (ht : 0 ≤ t ∧ t ≤ 5) (hd : 0 ≤ d ∧ d ≤ 10000) {k0 : Nat} (h0 : k0 ≤ n) (dn : Dn X H s n o k0) {a : Int} (ha : a = (k0 : Int) - 1) : ∃ r' L', fTour_bestBehind (X + 12) a t d H = some (r', H) ∧ Kr X H s n o r' L' ∧ OpL s n o k0 t d L' := by
  have n9 := hy.2.1
  have e : zadd a 1 = (k0 : Int) := by rw [zadd_e (by omega) (by omega)]; omega
  unfold fTour_bestBehind
  rw [yvl, e]
  refine e_bb_l hc hy ht hd dn (n - k0) zFU k0 (-1) [] rfl (by rw [zFU_e]; omega) (Nat.le_refl _) h0 (Or.inl ⟨rfl, rfl⟩) trivial fun L' hL hh => ?_
  rcases hh with e | ⟨p, L2, e, hp⟩
  · rw [e]; exact BtT.irr
  · rw [e] at hL; have := hL.1.1; omega
end HIRE2
