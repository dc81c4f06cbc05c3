/-! ASKS in their order -/
/-- row r from p to a goes one place on -/
def zsf (h : zHp) (r p a : Nat) : zHp := (h.1, h.2.1, fun b k => if b = r ∧ p < k ∧ k ≤ a then h.2.2.1 r (k - 1) else h.2.2.1 b k, h.2.2.2)
theorem zct_sf {h : zHp} {r p a b k : Nat} : zct (zsf h r p a) b k = if b = r ∧ p < k ∧ k ≤ a then zct h r (k - 1) else zct h b k := rfl
theorem zsf_0 {h : zHp} {r p a : Nat} (hp : a ≤ p) : zsf h r p a = h := by
  obtain ⟨t, l, c, x⟩ := h
  unfold zsf
  refine congrArg (fun f => (t, l, f, x)) (funext fun b => funext fun k => ?_)
  show (if b = r ∧ p < k ∧ k ≤ a then c r (k - 1) else c b k) = c b k
  rw [if_neg (by omega)]
theorem zsf_s {h : zHp} {r p a : Nat} (hp : p ≤ a) : zsf (zwr h r (a + 1) (zct h r a)) r p a = zsf h r p (a + 1) := by
  unfold zsf zwr
  refine congrArg (fun f => (h.1, h.2.1, f, h.2.2.2)) (funext fun b => funext fun k => ?_)
  show (if b = r ∧ p < k ∧ k ≤ a then (if r = r ∧ k - 1 = a + 1 then zct h r a else h.2.2.1 r (k - 1)) else if b = r ∧ k = a + 1 then zct h r a else h.2.2.1 b k) = if b = r ∧ p < k ∧ k ≤ a + 1 then h.2.2.1 r (k - 1) else h.2.2.1 b k
  by_cases hb : b = r
  · by_cases h1 : p < k ∧ k ≤ a
    · rw [if_pos ⟨hb, h1⟩, if_neg (by omega), if_pos ⟨hb, by omega, by omega⟩]
    · rw [if_neg (fun q => h1 q.2)]
      by_cases h2 : k = a + 1
      · rw [if_pos ⟨hb, h2⟩, if_pos ⟨hb, by omega, by omega⟩, h2]
        rfl
      · rw [if_neg (fun q => h2 q.2), if_neg (by omega)]
  · rw [if_neg (fun q => hb q.1), if_neg (fun q => hb q.1), if_neg (fun q => hb q.1)]
theorem e_ask_l {X : Nat} {fr : Int} : ∀ (a f : Nat) (H : zHp), IFx X H → a ≤ 8 → a < f → (∀ q, q < a → 0 ≤ zct H (X + 18) q ∧ zct H (X + 18) q < 9) →
    ∃ p, p ≤ a ∧ (∀ KF : Nat → Int → zHp → Option (Int × zHp), fTour_addAsk_l2 f (X + 12) fr (a : Int) H KF = KF (X + 12) (p : Int) (zsf H (X + 18) p a)) ∧ (0 < p → zct H (X + 15) (zct H (X + 18) (p - 1)).toNat ≤ fr) ∧ ∀ q, p ≤ q → q < a → fr < zct H (X + 15) (zct H (X + 18) q).toNat := by
  intro a
  induction a with
  | zero =>
    intro f H F h1 h2 h3
    obtain ⟨f, rfl⟩ : ∃ f', f = f' + 1 := ⟨f - 1, by omega⟩
    refine ⟨0, by omega, fun KF => ?_, fun w => absurd w (by omega), fun q _ w => absurd w (by omega)⟩
    unfold fTour_addAsk_l2
    rw [if_neg (by omega), zsf_0 (by omega)]
  | succ a ih =>
    intro f H F h1 h2 h3
    obtain ⟨f, rfl⟩ : ∃ f', f = f' + 1 := ⟨f - 1, by omega⟩
    have ha := h3 a (by omega)
    have es : zsub ((a + 1 : Nat) : Int) 1 = (a : Int) := by rw [zsub_e (by omega) (by omega)]; omega
    have em : zadd ((a + 1 : Nat) : Int) (-1) = (a : Int) := by rw [zadd_e (by omega) (by omega)]; omega
    by_cases h4 : fr < zct H (X + 15) (zct H (X + 18) a).toNat
    · have F1 : IFx X (zwr H (X + 18) (a + 1) (zct H (X + 18) a)) := F.fr (gs := [5]) (by repeat first | exact zst.rf | apply zst.wr) (by repeat first | exact zfx.rf | refine zfx.wr0 ?_ rfl | refine zfx.wr ?_ rfl) rfl
      have hr : ∀ q, q < a → zct (zwr H (X + 18) (a + 1) (zct H (X + 18) a)) (X + 18) q = zct H (X + 18) q := fun q hq => by rw [zct_wr, if_neg (by omega)]
      have hq15 : ∀ q, zct (zwr H (X + 18) (a + 1) (zct H (X + 18) a)) (X + 15) q = zct H (X + 15) q := fun q => by rw [zct_wr, if_neg (by omega)]
      obtain ⟨p, p1, p2, p3, p4⟩ := ih f _ F1 (by omega) (by omega) (fun q hq => by rw [hr q hq]; exact h3 q (by omega))
      refine ⟨p, by omega, fun KF => ?_, fun w => ?_, fun q w1 w2 => ?_⟩
      · unfold fTour_addAsk_l2
        rw [if_pos (by omega)]
        simp only [ygr, yai, ysi, yvl, ft12 F, zA9, if_true, fp12_3 F, fp12_6 F, ft15 F, ft18 F, fl15 F, fl18 F, es, em, Int.toNat_natCast]
        rw [if_pos (by simp; omega), if_pos (by simp; omega), if_pos h4, if_pos (by simp; omega), if_pos (by simp; omega), p2, zsf_s p1]
      · have := p3 w
        rw [hr _ (by omega), hq15] at this
        exact this
      · by_cases e : q = a
        · subst e; exact h4
        · have := p4 q w1 (by omega)
          rw [hr _ (by omega), hq15] at this
          exact this
    · refine ⟨a + 1, by omega, fun KF => ?_, fun _ => by rw [Nat.add_sub_cancel]; omega, fun q w1 w2 => absurd w2 (by omega)⟩
      unfold fTour_addAsk_l2
      rw [if_pos (by omega)]
      simp only [ygr, yai, ysi, yvl, ft12 F, zA9, if_true, fp12_3 F, fp12_6 F, ft15 F, ft18 F, fl15 F, fl18 F, es, em, Int.toNat_natCast]
      rw [if_pos (by simp; omega), if_pos (by simp; omega), if_neg h4, zsf_0 (by omega)]
theorem G5.add {c c' : Nat → Nat → Int} {s : zSg} (g : G5 c s) {a1 a2 a3 a4 : Int} {p : Nat} (h1 : 0 ≤ a1 ∧ a1 ≤ 5) (h2 : 0 ≤ a2 ∧ a2 ≤ 9999) (h3 : a2 ≤ a3 ∧ a3 ≤ 9999) (h4 : 0 ≤ a4 ∧ a4 ≤ 999) (hn : s 0 65 < 9) (hp : (p : Int) ≤ s 0 65) (hlo : 0 < p → s 67 (c 18 (p - 1)).toNat ≤ a2) (hhi : ∀ q : Nat, p ≤ q → (q : Int) < s 0 65 → a2 < s 67 (c 18 q).toNat)
    (e13 : ∀ k, c' 13 k = c 13 k) (e12 : c' 12 1 = s 0 65 + 1) (e14 : ∀ k, c' 14 k = if k = (s 0 65).toNat then a1 else c 14 k) (e15 : ∀ k, c' 15 k = if k = (s 0 65).toNat then a2 else c 15 k) (e16 : ∀ k, c' 16 k = if k = (s 0 65).toNat then a3 else c 16 k) (e17 : ∀ k, c' 17 k = if k = (s 0 65).toNat then a4 else c 17 k)
    (e18 : ∀ k, c' 18 k = if k = p then s 0 65 else if p < k ∧ (k : Int) ≤ s 0 65 then c 18 (k - 1) else c 18 k) : G5 c' (zup (zup (zup (zup (zup s 66 (s 0 65).toNat a1) 67 (s 0 65).toNat a2) 68 (s 0 65).toNat a3) 69 (s 0 65).toNat a4) 0 65 (s 0 65 + 1)) := by
  obtain ⟨q1, q2, q3, q4, q5, q6, q7, q8⟩ := g
  have f66 : ∀ k, zup (zup (zup (zup (zup s 66 (s 0 65).toNat a1) 67 (s 0 65).toNat a2) 68 (s 0 65).toNat a3) 69 (s 0 65).toNat a4) 0 65 (s 0 65 + 1) 66 k = if k = (s 0 65).toNat then a1 else s 66 k := fun k => by simp [zup]
  have f67 : ∀ k, zup (zup (zup (zup (zup s 66 (s 0 65).toNat a1) 67 (s 0 65).toNat a2) 68 (s 0 65).toNat a3) 69 (s 0 65).toNat a4) 0 65 (s 0 65 + 1) 67 k = if k = (s 0 65).toNat then a2 else s 67 k := fun k => by simp [zup]
  have f68 : ∀ k, zup (zup (zup (zup (zup s 66 (s 0 65).toNat a1) 67 (s 0 65).toNat a2) 68 (s 0 65).toNat a3) 69 (s 0 65).toNat a4) 0 65 (s 0 65 + 1) 68 k = if k = (s 0 65).toNat then a3 else s 68 k := fun k => by simp [zup]
  have f69 : ∀ k, zup (zup (zup (zup (zup s 66 (s 0 65).toNat a1) 67 (s 0 65).toNat a2) 68 (s 0 65).toNat a3) 69 (s 0 65).toNat a4) 0 65 (s 0 65 + 1) 69 k = if k = (s 0 65).toNat then a4 else s 69 k := fun k => by simp [zup]
  have f63 : ∀ k, zup (zup (zup (zup (zup s 66 (s 0 65).toNat a1) 67 (s 0 65).toNat a2) 68 (s 0 65).toNat a3) 69 (s 0 65).toNat a4) 0 65 (s 0 65 + 1) 63 k = s 63 k := fun k => by simp [zup]
  have f0 : zup (zup (zup (zup (zup s 66 (s 0 65).toNat a1) 67 (s 0 65).toNat a2) 68 (s 0 65).toNat a3) 69 (s 0 65).toNat a4) 0 65 (s 0 65 + 1) 0 65 = s 0 65 + 1 := rfl
  unfold G5
  simp only [f66, f67, f68, f69, f63, f0, e13, e12, e14, e15, e16, e17]
  refine ⟨q1, q2, trivial, by omega, by omega, fun k hk => ?_, fun k hk => ?_, fun i j hij hj => ?_⟩
  · by_cases e : k = (s 0 65).toNat
    · simp only [e, if_true]
      exact ⟨⟨trivial, trivial, trivial, trivial⟩, h1, h2, h3, h4⟩
    · simp only [e, if_false]
      exact q6 k (by omega)
  · rw [e18]
    split
    · omega
    · split
      · have := q7 (k - 1) (by omega)
        omega
      · have := q7 k (by omega)
        omega
  · -- the order
    have old : ∀ k : Nat, (k : Int) < s 0 65 → ¬ (c 18 k).toNat = (s 0 65).toNat := fun k hk => by have := q7 k hk; omega
    have mono : ∀ k : Nat, k < p → s 67 (c 18 k).toNat ≤ a2 := fun k hk => by
      have h9 := hlo (by omega)
      by_cases e : k = p - 1
      · rw [e]; exact h9
      · rcases q8 k (p - 1) (by omega) (by omega) with w | w
        · omega
        · omega
    have vp : c' 18 p = s 0 65 := by rw [e18, if_pos rfl]
    have vl : ∀ k, k < p → c' 18 k = c 18 k := fun k hk => by rw [e18, if_neg (by omega), if_neg (by omega)]
    have vh : ∀ k : Nat, p < k → (k : Int) ≤ s 0 65 → c' 18 k = c 18 (k - 1) := fun k hk h9 => by rw [e18, if_neg (by omega), if_pos ⟨hk, h9⟩]
    have wn : (if (s 0 65).toNat = (s 0 65).toNat then a2 else s 67 (s 0 65).toNat) = a2 := if_pos rfl
    have wo : ∀ k : Nat, (k : Int) < s 0 65 → (if (c 18 k).toNat = (s 0 65).toNat then a2 else s 67 (c 18 k).toNat) = s 67 (c 18 k).toNat := fun k hk => if_neg (old k hk)
    by_cases ei : i = p
    · rw [ei, vp, vh j (by omega) (by omega), wn, wo _ (by omega)]
      exact Or.inl (hhi (j - 1) (by omega) (by omega))
    · by_cases ej : j = p
      · rw [ej, vp, vl i (by omega), wn, wo _ (by omega)]
        have h9 := mono i (by omega)
        have h10 := q7 i (by omega)
        by_cases e : s 67 (c 18 i).toNat = a2
        · exact Or.inr ⟨e, h10.2⟩
        · exact Or.inl (by omega)
      · by_cases ip : p < i
        · rw [vh i ip (by omega), vh j (by omega) (by omega), wo _ (by omega), wo _ (by omega)]
          exact q8 (i - 1) (j - 1) (by omega) (by omega)
        · by_cases jp : p < j
          · rw [vl i (by omega), vh j jp (by omega), wo _ (by omega), wo _ (by omega)]
            exact q8 i (j - 1) (by omega) (by omega)
          · rw [vl i (by omega), vl j (by omega), wo _ (by omega), wo _ (by omega)]
            exact q8 i j hij (by omega)
theorem zst.sf {H H1 : zHp} (h : zst H H1) (r p a : Nat) : zst H (zsf H1 r p a) := h.tr ⟨Nat.le_refl _, Nat.le_refl _, fun _ _ => ⟨rfl, rfl⟩⟩
theorem zfx.sf {X : Nat} {gs : List Nat} {H H1 : zHp} (h : zfx X gs H H1) {o p a : Nat} (ho : ∀ k, gs.contains (xg o k) = true) : zfx X gs H (zsf H1 (X + o) p a) := h.tr fun o' k' h1 h2 => by
  rw [zct_sf, if_neg]
  rintro ⟨e1, e2⟩
  rw [show o' = o by omega, ho] at h2
  cases h2
theorem zfd.sf {X : Nat} {P : Nat → Prop} {H H1 : zHp} (h : zfd X P H H1) {o p a : Nat} (ho : o ≤ 36) : zfd X P H (zsf H1 (X + o) p a) := fun q h1 h2 h3 k' => by
  rw [zct_sf, if_neg (by omega)]
  exact h q h1 h2 h3 k'
section ASK2
variable {X : Nat} {H : zHp} {s : zSg} {A : Nat → Nat} {B : Nat → Nat → Nat} {K : Nat → Nat} {ow : Nat → Nat × Nat}
theorem k_ask (I : IV X H s A B K ow) {a1 a2 a3 a4 : Int} : wX (fH_ask X a1 a2 a3 a4 H) fun v H' => wX (gM_ask a1 a2 a3 a4 s) fun w s' => w = v ∧ KD X H H' s' := by
  have F := I.1
  have g := I.2.1.2.2.2.2.1
  obtain ⟨q1, q2, q3, q4, q5, q6, q7, q8⟩ := id g
  have q3' : zct H (X + 12) 1 = s 0 65 := q3
  unfold fH_ask gM_ask fTour_addAsk
  simp only [wX_s, wX_bd, wX_vl, wX_jn, wX_ite, wX_dv, wX_n0, wX_rb, wX_rc, wX_ry, wX_gi, wX_gr, wX_pi, wX_pz, wX_pr, wX_ai, wX_ab, wX_ar, wX_si, wX_sz, wX_sb, wX_sr, wX_ln, wX_nw, wX_na, wX_nm, wX_io, wX_ck, wX_cp, wX_cl, wX_ca, wX_sv, wX_sc, wX_rd, wX_wi, wX_wz, wX_wb, e_isTown, m_isTown, e_isDay, m_isDay, e_within, e_in, i01, ft0 F, fp0_13 F, ft12 F, zA10, zA9, true_and, q3']
  by_cases h1 : 0 ≤ a1 ∧ a1 ≤ 5
  · simp only [h1, and_self, not_true, if_false]
    by_cases h2 : 0 ≤ a2 ∧ a2 ≤ 9999
    · simp only [h2, and_self, not_true, if_false]
      by_cases h3 : a2 ≤ a3 ∧ a3 ≤ 9999
      · simp only [h3, and_self, not_true, if_false]
        by_cases h4 : 0 ≤ a4 ∧ a4 ≤ 999
        · simp only [h4, and_self, not_true, if_false]
          by_cases h5 : s 0 65 = 9
          · simp only [h5, if_true, show ¬ (9 : Int) < 9 by omega, if_false]
            (first | exact KD.rf I | exact ⟨trivial, KD.rf I⟩ | exact ⟨rfl, KD.rf I⟩)
          · have h6 : s 0 65 < 9 := by omega
            simp only [h5, h6, if_true, if_false]
            have F1 : IFx X (zwr H (X + 14) (s 0 65).toNat a1) := F.fr (gs := [5]) (by repeat first | exact zst.rf | apply zst.wr) (by repeat first | exact zfx.rf | refine zfx.wr0 ?_ rfl | refine zfx.wr ?_ rfl) rfl
            have F2 : IFx X (zwr (zwr H (X + 14) (s 0 65).toNat a1) (X + 15) (s 0 65).toNat a2) := F.fr (gs := [5]) (by repeat first | exact zst.rf | apply zst.wr) (by repeat first | exact zfx.rf | refine zfx.wr0 ?_ rfl | refine zfx.wr ?_ rfl) rfl
            have F3 : IFx X (zwr (zwr (zwr H (X + 14) (s 0 65).toNat a1) (X + 15) (s 0 65).toNat a2) (X + 16) (s 0 65).toNat a3) := F.fr (gs := [5]) (by repeat first | exact zst.rf | apply zst.wr) (by repeat first | exact zfx.rf | refine zfx.wr0 ?_ rfl | refine zfx.wr ?_ rfl) rfl
            have F4 : IFx X (zwr (zwr (zwr (zwr H (X + 14) (s 0 65).toNat a1) (X + 15) (s 0 65).toNat a2) (X + 16) (s 0 65).toNat a3) (X + 17) (s 0 65).toNat a4) := F.fr (gs := [5]) (by repeat first | exact zst.rf | apply zst.wr) (by repeat first | exact zfx.rf | refine zfx.wr0 ?_ rfl | refine zfx.wr ?_ rfl) rfl
            have n1 : zct (zwr H (X + 14) (s 0 65).toNat a1) (X + 12) 1 = s 0 65 := by rw [zct_wr, if_neg (by omega)]; exact q3'
            have n2 : zct (zwr (zwr H (X + 14) (s 0 65).toNat a1) (X + 15) (s 0 65).toNat a2) (X + 12) 1 = s 0 65 := by rw [zct_wr, if_neg (by omega)]; exact n1
            have n3 : zct (zwr (zwr (zwr H (X + 14) (s 0 65).toNat a1) (X + 15) (s 0 65).toNat a2) (X + 16) (s 0 65).toNat a3) (X + 12) 1 = s 0 65 := by rw [zct_wr, if_neg (by omega)]; exact n2
            have n4 : zct (zwr (zwr (zwr (zwr H (X + 14) (s 0 65).toNat a1) (X + 15) (s 0 65).toNat a2) (X + 16) (s 0 65).toNat a3) (X + 17) (s 0 65).toNat a4) (X + 12) 1 = s 0 65 := by rw [zct_wr, if_neg (by omega)]; exact n3
            have o4 : ∀ q, zct (zwr (zwr (zwr (zwr H (X + 14) (s 0 65).toNat a1) (X + 15) (s 0 65).toNat a2) (X + 16) (s 0 65).toNat a3) (X + 17) (s 0 65).toNat a4) (X + 18) q = zcx X H 18 q := fun q => by rw [zct_wr, if_neg (by omega), zct_wr, if_neg (by omega), zct_wr, if_neg (by omega), zct_wr, if_neg (by omega)]; rfl
            have o5 : ∀ q, q ≠ (s 0 65).toNat → zct (zwr (zwr (zwr (zwr H (X + 14) (s 0 65).toNat a1) (X + 15) (s 0 65).toNat a2) (X + 16) (s 0 65).toNat a3) (X + 17) (s 0 65).toNat a4) (X + 15) q = zcx X H 15 q := fun q hq => by rw [zct_wr, if_neg (by omega), zct_wr, if_neg (by omega), zct_wr, if_neg (fun w => hq w.2), zct_wr, if_neg (by omega)]; rfl
            obtain ⟨p, p1, p2, p3, p4⟩ := e_ask_l (fr := a2) (s 0 65).toNat zFU _ F4 (by omega) (by rw [zFU_e]; omega) (fun q hq => by rw [o4]; have := q7 q (by omega); omega)
            rw [show (((s 0 65).toNat : Nat) : Int) = s 0 65 by omega] at p2
            have hlo : 0 < p → s 67 (zcx X H 18 (p - 1)).toNat ≤ a2 := fun w => by
              have h9 := p3 w
              have h10 := q7 (p - 1) (by omega)
              rw [o4, o5 _ (by omega), (q6 _ (by omega)).1.2.1] at h9
              exact h9
            have hhi : ∀ q : Nat, p ≤ q → (q : Int) < s 0 65 → a2 < s 67 (zcx X H 18 q).toNat := fun q w1 w2 => by
              have h9 := p4 q w1 (by omega)
              have h10 := q7 q (by omega)
              rw [o4, o5 _ (by omega), (q6 _ (by omega)).1.2.1] at h9
              exact h9
            have t4 : zst H (zwr (zwr (zwr (zwr H (X + 14) (s 0 65).toNat a1) (X + 15) (s 0 65).toNat a2) (X + 16) (s 0 65).toNat a3) (X + 17) (s 0 65).toNat a4) := (by repeat first | exact zst.rf | apply zst.wr)
            have x4 : zfx X [5] H (zwr (zwr (zwr (zwr H (X + 14) (s 0 65).toNat a1) (X + 15) (s 0 65).toNat a2) (X + 16) (s 0 65).toNat a3) (X + 17) (s 0 65).toNat a4) := (by repeat first | exact zfx.rf | refine zfx.wr0 ?_ rfl | refine zfx.wr ?_ rfl)
            have d4 : zfd X (fun _ => False) H (zwr (zwr (zwr (zwr H (X + 14) (s 0 65).toNat a1) (X + 15) (s 0 65).toNat a2) (X + 16) (s 0 65).toNat a3) (X + 17) (s 0 65).toNat a4) := (by repeat first | exact zfd.rf | refine zfd.wr0 ?_ | refine zfd.wr ?_ (by omega))
            have u4 : znx (zwr (zwr (zwr (zwr H (X + 14) (s 0 65).toNat a1) (X + 15) (s 0 65).toNat a2) (X + 16) (s 0 65).toNat a3) (X + 17) (s 0 65).toNat a4) = znx H ∧ zus (zwr (zwr (zwr (zwr H (X + 14) (s 0 65).toNat a1) (X + 15) (s 0 65).toNat a2) (X + 16) (s 0 65).toNat a3) (X + 17) (s 0 65).toNat a4) = zus H := ⟨rfl, rfl⟩
            have c4 : zcx X (zwr (zwr (zwr (zwr H (X + 14) (s 0 65).toNat a1) (X + 15) (s 0 65).toNat a2) (X + 16) (s 0 65).toNat a3) (X + 17) (s 0 65).toNat a4) = zup (zup (zup (zup (zcx X H) 14 (s 0 65).toNat a1) 15 (s 0 65).toNat a2) 16 (s 0 65).toNat a3) 17 (s 0 65).toNat a4 := by rw [zcx_wr, zcx_wr, zcx_wr, zcx_wr]
            generalize hH4 : (zwr (zwr (zwr (zwr H (X + 14) (s 0 65).toNat a1) (X + 15) (s 0 65).toNat a2) (X + 16) (s 0 65).toNat a3) (X + 17) (s 0 65).toNat a4) = H4 at *
            have F5 : IFx X (zsf H4 (X + 18) p (s 0 65).toNat) := F.fr (gs := [5]) (t4.sf _ _ _) (x4.sf (fun _ => rfl)) rfl
            have n5 : zct (zsf H4 (X + 18) p (s 0 65).toNat) (X + 12) 1 = s 0 65 := by rw [zct_sf, if_neg (by omega)]; exact n4
            have n6 : zct (zwr (zsf H4 (X + 18) p (s 0 65).toNat) (X + 18) p (s 0 65)) (X + 12) 1 = s 0 65 := by rw [zct_wr, if_neg (by omega)]; exact n5
            have n7 : ∀ v, zct (zwr (zwr (zsf H4 (X + 18) p (s 0 65).toNat) (X + 18) p (s 0 65)) (X + 12) 1 v) (X + 12) 1 = v := fun v => by rw [zct_wr, if_pos ⟨rfl, rfl⟩]
            have e66 : ∀ (s : zSg) i v, zup s 66 i v 0 65 = s 0 65 := fun _ _ _ => rfl
            have e67 : ∀ (s : zSg) i v, zup s 67 i v 0 65 = s 0 65 := fun _ _ _ => rfl
            have e68 : ∀ (s : zSg) i v, zup s 68 i v 0 65 = s 0 65 := fun _ _ _ => rfl
            have e69 : ∀ (s : zSg) i v, zup s 69 i v 0 65 = s 0 65 := fun _ _ _ => rfl
            have e65 : ∀ (s : zSg) v, zup s 0 65 v 0 65 = v := fun _ _ => rfl
            have ea : zadd (s 0 65) 1 = s 0 65 + 1 := zadd_e (by omega) (by omega)
            simp only [wX_s, wX_bd, wX_vl, wX_jn, wX_ite, wX_dv, wX_n0, wX_rb, wX_rc, wX_ry, wX_gi, wX_gr, wX_pi, wX_pz, wX_pr, wX_ai, wX_ab, wX_ar, wX_si, wX_sz, wX_sb, wX_sr, wX_ln, wX_nw, wX_na, wX_nm, wX_io, wX_ck, wX_cp, wX_cl, wX_ca, wX_sv, wX_sc, wX_rd, wX_wi, wX_wz, wX_wb, fp12_2 F, fp12_3 F1, fp12_4 F2, fp12_5 F3, n1, n2, n3, n4, ztg_wr, zln_wr, ft12 F, ft14 F, fl14 F, ft15 F, fl15 F, ft16 F, fl16 F, ft17 F, fl17 F, zA9, true_and, hH4, p2, ft12 F4, ft12 F5, fp12_6 F5, ft18 F5, fl18 F5, n5, n6, n7, Int.toNat_natCast, e66, e67, e68, e69, e65, ea]
            have key : KD X H (zwr (zwr (zsf H4 (X + 18) p (s 0 65).toNat) (X + 18) p (s 0 65)) (X + 12) 1 (s 0 65 + 1)) (zup (zup (zup (zup (zup s 66 (s 0 65).toNat a1) 67 (s 0 65).toNat a2) 68 (s 0 65).toNat a3) 69 (s 0 65).toNat a4) 0 65 (s 0 65 + 1)) := by
              refine KD.fx (gs := [5]) I (((t4.sf _ _ _).wr _ _ _).wr _ _ _) u4.1 u4.2 (((x4.sf (fun _ => rfl)).wr rfl).wr rfl) (((d4.sf (by omega)).wr (by omega)).wr (by omega)) (by repeat first | exact zfs.rf | refine zfs.up0 ?_ rfl | refine zfs.up ?_ (by decide) rfl) rfl rfl rfl rfl (Int.le_refl _) (Or.inl rfl) (Or.inl rfl) (Or.inr ?_) (Or.inl rfl) (Or.inl rfl) (Or.inl rfl) (Or.inl rfl)
              have hc : ∀ o k, o ≠ 18 → o ≠ 12 → zcx X (zwr (zwr (zsf H4 (X + 18) p (s 0 65).toNat) (X + 18) p (s 0 65)) (X + 12) 1 (s 0 65 + 1)) o k = zcx X H4 o k := fun o k h9 h10 => by
                show zct _ (X + o) k = zct H4 (X + o) k
                rw [zct_wr, if_neg (by omega), zct_wr, if_neg (by omega), zct_sf, if_neg (by omega)]
              refine g.add h1 h2 h3 h4 h6 (by omega) hlo hhi (fun k => ?_) (n7 _) (fun k => ?_) (fun k => ?_) (fun k => ?_) (fun k => ?_) (fun k => ?_)
              · rw [hc _ _ (by omega) (by omega), c4]; simp [zup]
              · rw [hc _ _ (by omega) (by omega), c4]; simp [zup]
              · rw [hc _ _ (by omega) (by omega), c4]; simp [zup]
              · rw [hc _ _ (by omega) (by omega), c4]; simp [zup]
              · rw [hc _ _ (by omega) (by omega), c4]; simp [zup]
              · show zct _ (X + 18) k = _
                rw [zct_wr, if_neg (by omega), zct_wr]
                by_cases e : k = p
                · rw [if_pos ⟨rfl, e⟩, if_pos e]
                · rw [if_neg (fun w => e w.2), if_neg e, zct_sf]
                  by_cases e2 : p < k ∧ (k : Int) ≤ s 0 65
                  · rw [if_pos ⟨rfl, e2.1, by omega⟩, if_pos e2, o4]
                  · rw [if_neg (by omega), if_neg e2, o4]
            (repeat first | exact (key) | refine ⟨by omega, ?_⟩)
        · simp only [h4, not_false_iff, if_true]
          (first | exact KD.rf I | exact ⟨trivial, KD.rf I⟩ | exact ⟨rfl, KD.rf I⟩)
      · simp only [h3, not_false_iff, if_true]
        (first | exact KD.rf I | exact ⟨trivial, KD.rf I⟩ | exact ⟨rfl, KD.rf I⟩)
    · simp only [h2, not_false_iff, if_true]
      (first | exact KD.rf I | exact ⟨trivial, KD.rf I⟩ | exact ⟨rfl, KD.rf I⟩)
  · simp only [h1, not_false_iff, if_true]
    (first | exact KD.rf I | exact ⟨trivial, KD.rf I⟩ | exact ⟨rfl, KD.rf I⟩)
end ASK2
