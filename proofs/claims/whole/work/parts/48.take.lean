/-! TAKING A NOTE on both sides at once -/
/-- the heap with a new, empty bar behind all others -/
def nb (H : zHp) : zHp := zwr (zwr (zwr (zal (zal H 1 3 fun _ => 0) 30 8 fun _ => 0) (znx H + 1) 0 ((znx H + 1 + 1 : Nat) : Int)) (znx H + 1) 1 0) (znx H + 1) 2 0
theorem nb_nx {H : zHp} : znx (nb H) = znx H + 2 := rfl
theorem nb_us {H : zHp} : zus (nb H) = zus H + 11 := rfl
theorem nb_st {H : zHp} : zst H (nb H) := ((((zst.rf.al _ _ _).al _ _ _).wr _ _ _).wr _ _ _).wr _ _ _
theorem nb_old {H : zHp} {a k : Nat} (h : a ≤ znx H) : zct (nb H) a k = zct H a k := by
  show (if a = znx H + 1 ∧ k = 2 then (0 : Int) else if a = znx H + 1 ∧ k = 1 then 0 else if a = znx H + 1 ∧ k = 0 then ((znx H + 1 + 1 : Nat) : Int) else if a = znx H + 1 + 1 then 0 else if a = znx H + 1 then 0 else zct H a k) = zct H a k
  rw [if_neg (by omega), if_neg (by omega), if_neg (by omega), if_neg (by omega), if_neg (by omega)]
theorem nb_t1 {H : zHp} : ztg (nb H) (znx H + 1) = 1 := by
  show (if znx H + 1 = znx H + 1 + 1 then 30 else if znx H + 1 = znx H + 1 then 1 else ztg H (znx H + 1)) = 1
  rw [if_neg (by omega), if_pos rfl]
theorem nb_t2 {H : zHp} : ztg (nb H) (znx H + 1 + 1) = 30 := by
  show (if znx H + 1 + 1 = znx H + 1 + 1 then 30 else if znx H + 1 + 1 = znx H + 1 then 1 else ztg H (znx H + 1 + 1)) = 30
  rw [if_pos rfl]
theorem nb_l2 {H : zHp} : zln (nb H) (znx H + 1 + 1) = 8 := by
  show (if znx H + 1 + 1 = znx H + 1 + 1 then 8 else if znx H + 1 + 1 = znx H + 1 then 3 else zln H (znx H + 1 + 1)) = 8
  rw [if_pos rfl]
theorem nb_c {H : zHp} : zct (nb H) (znx H + 1) 0 = ((znx H + 1 + 1 : Nat) : Int) ∧ zct (nb H) (znx H + 1) 1 = 0 ∧ zct (nb H) (znx H + 1) 2 = 0 := by
  refine ⟨?_, ?_, ?_⟩
  · show (if znx H + 1 = znx H + 1 ∧ 0 = 2 then (0 : Int) else if znx H + 1 = znx H + 1 ∧ 0 = 1 then 0 else if znx H + 1 = znx H + 1 ∧ 0 = 0 then ((znx H + 1 + 1 : Nat) : Int) else _) = _
    rw [if_neg (by omega), if_neg (by omega), if_pos (by omega)]
  · show (if znx H + 1 = znx H + 1 ∧ 1 = 2 then (0 : Int) else if znx H + 1 = znx H + 1 ∧ 1 = 1 then 0 else _) = _
    rw [if_neg (by omega), if_pos (by omega)]
  · show (if znx H + 1 = znx H + 1 ∧ 2 = 2 then (0 : Int) else _) = _
    rw [if_pos (by omega)]
theorem nb_run {H : zHp} : fBar_init (znx H + 1) (zal H 1 3 fun _ => 0) = some ((), nb H) := by
  have t1 : ztg (zal H 1 3 fun _ => 0) (znx H + 1) = 1 := by rw [ztg_al, if_pos rfl]
  have t2 : ztg (zal (zal H 1 3 fun _ => 0) 30 8 fun _ => 0) (znx H + 1) = 1 := by rw [ztg_al, if_neg (by rw [znx_al]; omega)]; exact t1
  unfold fBar_init
  simp only [yn0, yna, ypr, ypi, show 0 < znx H + 1 by omega, if_true, show (0 : Int) ≤ 8 by omega, show (8 : Int) ≤ 100000 by omega, and_self, t2, zA0, ztg_wr, show (8 : Int).toNat = 8 from rfl]
  rfl
section TAKE2
variable {X : Nat} {H : zHp} {s : zSg} {A : Nat → Nat} {B : Nat → Nat → Nat} {K : Nat → Nat} {ow : Nat → Nat × Nat} {t v : Nat}
/-- all but the notes' rows stand -/
def sOth (s s' : zSg) : Prop := ∀ k, k ≠ 10 → k ≠ 11 → k ≠ 12 → k ≠ 13 → k ≠ 14 → s' k = s k
theorem putN_o {s : zSg} {q m : Nat} {p l tt : Int} : sOth s (putN s q m p l tt) := fun k h1 h2 h3 h4 _ => funext fun j => by simp [putN, zup, h1, h2, h3, h4]
theorem e_take_open (I : IV X H s A B K ow) (ht : (t : Int) < s 0 2) (hk : s 3 t = 1 ∨ s 3 t = 6) (hv : (v : Int) ≤ s 6 t - 1) {p l tt : Int} (hp : 0 ≤ p ∧ p ≤ 60) (hl : 1 ≤ l ∧ l ≤ 12) (htt : tt = 0 ∨ tt = 1) (hpt : ¬ (p = 0 ∧ tt = 1)) (hw : wholeN s t v < s 14 (4 * t + v)) :
    ∃ r H' s' B' ow', fScore_takeNote (A t) (v : Int) (ncode (if p = 0 then -1000 else p) l tt) H = some (r, H') ∧ gM_put (t : Int) (v : Int) p l tt s = some (r, s') ∧ (r = 0 ∨ r = -3 ∨ r = -4) ∧ IV X H' s' A B' K ow' ∧ KP X H H' ∧ sOth s s' := by
  have hn60 := I.n
  obtain ⟨⟨a0, -, -⟩, ⟨h0, -, -, -, h4, -, h6, h7⟩, -, -, -⟩ := (I.to ht).1 hk
  have hs := (I.st ht).2.1 hk
  have hs6 := hs.2.1
  have hv4 : v < 4 := by omega
  have wb := wholeN_b hv4 hs
  obtain ⟨N, hN⟩ : ∃ N : Nat, s 14 (4 * t + v) = (N : Int) + 1 := ⟨(s 14 (4 * t + v) - 1).toNat, by omega⟩
  have hwN : wholeN s t v = (N : Int) := by omega
  obtain ⟨⟨n0, n1, t1, t2, t3, t4⟩, ⟨v1, v2, v3, -⟩, bi⟩ := I.bar (v := v) (b := N) ht hk hv4 (by omega)
  obtain ⟨m, hm⟩ : ∃ m : Nat, s 13 (80 * t + 20 * v + N) = (m : Int) := ⟨(s 13 (80 * t + 20 * v + N)).toNat, by have := bi.1.1; omega⟩
  have hz := zsum_b (f := sh (s 11) (8 * (80 * t + 20 * v + N))) m (fun i hi => by have := bi.len i (by omega); exact this)
  have hopen : zsum (sh (s 11) (8 * (80 * t + 20 * v + N))) m < s 5 t := by
    have h9 := (not_congr (whole_iff (b := N) hv4 hs)).mp (by omega)
    have h10 := bi.2.2.1
    rw [hm, Int.toNat_natCast] at h9 h10
    by_cases e : zsum (sh (s 11) (8 * (80 * t + 20 * v + N))) m = s 5 t
    · exact absurd ⟨by omega, e⟩ h9
    · omega
  have hm7 : m ≤ 7 := by
    have := bi.2.2.2
    rw [hm, Int.toNat_natCast] at this
    have := this hopen
    omega
  have mp := m_put_open (p := p) (l := l) (tt := tt) (by omega) hv4 hs hN hwN hm hm7 hl
  have eo := e_openBar I ht hk hv
  rw [if_pos hw, show (s 14 (4 * t + v) - 1).toNat = N by omega] at eo
  rw [hm, Int.toNat_natCast] at v2
  have hnr : NR 1 60 (if p = 0 then -1000 else p) l tt := by
    refine ⟨?_, hl.1, hl.2, htt⟩
    split <;> omega
  have elen : ∀ H, fH_lengthOf (ncode (if p = 0 then -1000 else p) l tt) H = some (l, H) := fun H => e_lengthOf hl htt (by split <;> omega)
  have hne : ¬ B t (20 * v + N) = 0 := by have := n0.1; omega
  have e6 : zsub (s 5 t) (zsum (sh (s 11) (8 * (80 * t + 20 * v + N))) m) = s 5 t - zsum (sh (s 11) (8 * (80 * t + 20 * v + N))) m := by have := hs.1; exact zsub_e (by omega) (by omega)
  have hx : 0 ≤ (v : Int) := by omega
  have rf : KP X H H ∧ sOth s s := ⟨⟨zst.rf, by omega, by omega, fun _ _ _ => rfl⟩, fun _ _ _ _ _ _ => rfl⟩
  have no : fScore_takeNote (A t) (v : Int) (ncode (if p = 0 then -1000 else p) l tt) H = some (-3, H) → gM_put (t : Int) (v : Int) p l tt s = some (-3, s) → ∃ r H' s' B' ow', fScore_takeNote (A t) (v : Int) (ncode (if p = 0 then -1000 else p) l tt) H = some (r, H') ∧ gM_put (t : Int) (v : Int) p l tt s = some (r, s') ∧ (r = 0 ∨ r = -3 ∨ r = -4) ∧ IV X H' s' A B' K ow' ∧ KP X H H' ∧ sOth s s' := fun h1 h2 => ⟨-3, H, s, B, ow, h1, h2, by omega, I, rf.1, rf.2⟩
  generalize hzz : zsum (sh (s 11) (8 * (80 * t + 20 * v + N))) m = z at *
  have tk : fScore_takeNote (A t) (v : Int) (ncode (if p = 0 then -1000 else p) l tt) H = if s 5 t - z < l then some (-3, H) else if ¬ (m : Int) < 7 ∧ l < s 5 t - z then some (-3, H) else ybd (fBar_addNote (B t (20 * v + N)) (ncode (if p = 0 then -1000 else p) l tt) H) fun _ h => some (0, h) := by
    unfold fScore_takeNote
    simp only [yjn, yck, ygi, h0, zA8, if_true, e_hasVoice I ht hk, ybd_s, hx, hv, and_self, show ¬ (1 : Int) = 0 by omega, if_false, eo, hne, h4, t1, zA0, v2, e6, elen, v1, hm]
    by_cases h1 : s 5 t - z < l
    · rw [if_pos h1, if_pos h1]
    · rw [if_neg h1, if_neg h1]
      by_cases h2 : (m : Int) < 7
      · rw [if_pos h2, if_neg (show ¬ (¬ (m : Int) < 7 ∧ l < s 5 t - z) from fun w => w.1 h2)]
      · rw [if_neg h2]
        by_cases h3 : l < s 5 t - z
        · rw [if_pos h3, if_pos ⟨h2, h3⟩]
        · rw [if_neg h3, if_neg (show ¬ (¬ (m : Int) < 7 ∧ l < s 5 t - z) from fun w => h3 w.2)]
  by_cases h1 : s 5 t - z < l
  · exact no (by rw [tk, if_pos h1]) (by rw [mp, if_pos h1])
  · by_cases h2 : m = 7 ∧ l < s 5 t - z
    · exact no (by rw [tk, if_neg h1, if_pos ⟨by omega, h2.2⟩]) (by rw [mp, if_neg h1, if_pos h2])
    · obtain ⟨H', r1, r2, r3, r4, r5, r6⟩ := I.add1 (N := N) (m := m) ht hk hv hN hm hm7 hnr (by rw [hzz]; omega) (fun w => by rw [hzz] at w; omega)
      refine ⟨0, H', _, B, ow, ?_, by rw [mp, if_neg h1, if_neg h2]; rfl, by omega, r2, ⟨r3, by omega, by omega, r6⟩, putN_o⟩
      rw [tk, if_neg h1, if_neg (show ¬ (¬ (m : Int) < 7 ∧ l < s 5 t - z) from fun w => h2 ⟨by omega, w.2⟩), r1]
      rfl
theorem e_take_new (I : IV X H s A B K ow) (ht : (t : Int) < s 0 2) (hk : s 3 t = 1 ∨ s 3 t = 6) (hv : (v : Int) ≤ s 6 t - 1) {p l tt : Int} (hp : 0 ≤ p ∧ p ≤ 60) (hl : 1 ≤ l ∧ l ≤ 12) (htt : tt = 0 ∨ tt = 1) (hpt : ¬ (p = 0 ∧ tt = 1)) (hw : wholeN s t v = s 14 (4 * t + v)) :
    ∃ r H' s' B' ow', fScore_takeNote (A t) (v : Int) (ncode (if p = 0 then -1000 else p) l tt) H = some (r, H') ∧ gM_put (t : Int) (v : Int) p l tt s = some (r, s') ∧ (r = 0 ∨ r = -3 ∨ r = -4) ∧ IV X H' s' A B' K ow' ∧ KP X H H' ∧ sOth s s' := by
  have hn60 := I.n
  obtain ⟨⟨a0, a1, a2⟩, ⟨h0, -, -, -, h4, -, h6, h7⟩, -, ⟨w1, w2, w3, w4⟩, bb⟩ := (I.to ht).1 hk
  have hs := (I.st ht).2.1 hk
  have hs6 := hs.2.1
  have hv4 : v < 4 := by omega
  have wb := wholeN_b hv4 hs
  obtain ⟨N, hN⟩ : ∃ N : Nat, s 14 (4 * t + v) = (N : Int) := ⟨(s 14 (4 * t + v)).toNat, by omega⟩
  have hwN : wholeN s t v = (N : Int) := by omega
  have mp := m_put_new (p := p) (l := l) (tt := tt) (by omega) hv4 hs hN hwN hl
  have eo := e_openBar I ht hk hv
  rw [if_neg (by omega)] at eo
  have c1 := (bb v hv4).1
  have hnr : NR 1 60 (if p = 0 then -1000 else p) l tt := by
    refine ⟨?_, hl.1, hl.2, htt⟩
    split <;> omega
  have elen : ∀ H, fH_lengthOf (ncode (if p = 0 then -1000 else p) l tt) H = some (l, H) := fun H => e_lengthOf hl htt (by split <;> omega)
  have hx : 0 ≤ (v : Int) := by omega
  have hx2 : (v : Int) < ((4 : Nat) : Int) := by omega
  have no : ∀ r : Int, r = -3 ∨ r = -4 → fScore_takeNote (A t) (v : Int) (ncode (if p = 0 then -1000 else p) l tt) H = some (r, H) → gM_put (t : Int) (v : Int) p l tt s = some (r, s) → ∃ r H' s' B' ow', fScore_takeNote (A t) (v : Int) (ncode (if p = 0 then -1000 else p) l tt) H = some (r, H') ∧ gM_put (t : Int) (v : Int) p l tt s = some (r, s') ∧ (r = 0 ∨ r = -3 ∨ r = -4) ∧ IV X H' s' A B' K ow' ∧ KP X H H' ∧ sOth s s' := fun r hr h1 h2 => ⟨r, H, s, B, ow, h1, h2, by omega, I, ⟨zst.rf, by omega, by omega, fun _ _ _ => rfl⟩, fun _ _ _ _ _ _ => rfl⟩
  by_cases h1 : s 5 t < l
  · refine no (-3) (Or.inl rfl) ?_ (by rw [mp, if_pos h1])
    unfold fScore_takeNote
    simp only [yjn, yck, ygi, h0, zA8, if_true, e_hasVoice I ht hk, ybd_s, hx, hv, and_self, show ¬ (1 : Int) = 0 by omega, if_false, eo, h4, elen, h1]
  · by_cases h2 : N = 20
    · refine no (-4) (Or.inr rfl) ?_ (by rw [mp, if_neg h1, if_pos h2])
      unfold fScore_takeNote
      simp only [yjn, yck, ygi, ygr, yai, h0, zA8, if_true, e_hasVoice I ht hk, ybd_s, hx, hx2, hv, and_self, show ¬ (1 : Int) = 0 by omega, if_false, eo, h4, elen, h1, h7, Int.toNat_natCast, w3, w4, c1, hN, true_or, h2, show ¬ (((20 : Nat) : Int)) < 20 by omega]
    · have hz := a0.2.1
      have hA1 := a1.2.1
      have hA2 := a2.2.1
      have hXp := a0.1
      generalize hz0 : znx H + 1 = z at *
      have hN' : (s 14 (4 * t + v)).toNat = N := by omega
      have o1 : ∀ a k, a ≤ znx H → zct (nb H) a k = zct H a k := fun a k ha => nb_old ha
      have hst : zst H (zwr (zwr (nb H) (A t + 1) (20 * v + N) (z : Int)) (A t + 2) v ((N : Int) + 1)) := (nb_st.wr _ _ _).wr _ _ _
      obtain ⟨B1, ow1, I1⟩ := I.newbar (z := z) (H' := zwr (zwr (nb H) (A t + 1) (20 * v + N) (z : Int)) (A t + 2) v ((N : Int) + 1)) ht hk hv (by omega) (by omega) hst
        (fun a k g1 g2 g3 => by rw [zct_wr, if_neg (by omega), zct_wr, if_neg (by omega), o1 _ _ g1])
        (fun k => by
          rw [hN', zct_wr, if_neg (by omega), zct_wr]
          by_cases e : k = 20 * v + N
          · rw [if_pos ⟨rfl, e⟩, if_pos e]
          · rw [if_neg (fun w => e w.2), if_neg e, o1 _ _ hA1])
        (fun k => by
          rw [zct_wr]
          by_cases e : k = v
          · rw [if_pos ⟨rfl, e⟩, if_pos e, hN]
          · rw [if_neg (fun w => e w.2), if_neg e, zct_wr, if_neg (by omega), o1 _ _ hA2])
        (by omega) (by show z + 1 ≤ znx (nb H); rw [nb_nx]; omega) (by rw [← hz0]; exact nb_t1) (by rw [zct_wr, if_neg (by omega), zct_wr, if_neg (by omega), ← hz0]; exact nb_c.1) (by rw [← hz0]; exact nb_t2) (by rw [← hz0]; exact nb_l2) (by rw [zct_wr, if_neg (by omega), zct_wr, if_neg (by omega), ← hz0]; exact nb_c.2.1) (by rw [zct_wr, if_neg (by omega), zct_wr, if_neg (by omega), ← hz0]; exact nb_c.2.2)
      rw [hN', hN] at I1
      have s3 : zup (zup s 14 (4 * t + v) ((N : Int) + 1)) 13 (80 * t + 20 * v + N) 0 3 t = s 3 t := by simp [zup]
      have s6 : zup (zup s 14 (4 * t + v) ((N : Int) + 1)) 13 (80 * t + 20 * v + N) 0 6 t = s 6 t := by simp [zup]
      have s5 : zup (zup s 14 (4 * t + v) ((N : Int) + 1)) 13 (80 * t + 20 * v + N) 0 5 t = s 5 t := by simp [zup]
      have s2 : zup (zup s 14 (4 * t + v) ((N : Int) + 1)) 13 (80 * t + 20 * v + N) 0 0 2 = s 0 2 := by simp [zup]
      have s14 : zup (zup s 14 (4 * t + v) ((N : Int) + 1)) 13 (80 * t + 20 * v + N) 0 14 (4 * t + v) = (N : Int) + 1 := by simp [zup]
      have s13 : zup (zup s 14 (4 * t + v) ((N : Int) + 1)) 13 (80 * t + 20 * v + N) 0 13 (80 * t + 20 * v + N) = ((0 : Nat) : Int) := by simp [zup]
      have ht1 : (t : Int) < zup (zup s 14 (4 * t + v) ((N : Int) + 1)) 13 (80 * t + 20 * v + N) 0 0 2 := by rw [s2]; exact ht
      have hk1 : zup (zup s 14 (4 * t + v) ((N : Int) + 1)) 13 (80 * t + 20 * v + N) 0 3 t = 1 ∨ zup (zup s 14 (4 * t + v) ((N : Int) + 1)) 13 (80 * t + 20 * v + N) 0 3 t = 6 := by rw [s3]; exact hk
      have hb1 : zct (zwr (zwr (nb H) (A t + 1) (20 * v + N) (z : Int)) (A t + 2) v ((N : Int) + 1)) (A t + 1) (20 * v + N) = (z : Int) := by rw [zct_wr, if_neg (by omega), zct_wr, if_pos ⟨rfl, rfl⟩]
      have hB1 : B1 t (20 * v + N) = z := by
        have h9 := ((((I1.to ht1).1 hk1).2.2.2.2 v hv4).2 N (by rw [s14]; omega)).1
        rw [hb1] at h9
        omega
      obtain ⟨H2, r1, r2, r3, r4, r5, r6⟩ := I1.add1 (v := v) (N := N) (m := 0) ht1 hk1 (by rw [s6]; exact hv) s14 s13 (by omega) hnr (by rw [s5]; show 0 + l ≤ s 5 t; omega) (fun _ => by omega)
      rw [hB1] at r1
      have u1 : ztg (nb H) (A t) = 9 := by rw [(nb_st.2.2 _ hz).1]; exact h0
      have u2 : ztg (nb H) (A t + 1) = 36 := by rw [(nb_st.2.2 _ hA1).1]; exact w1
      have u3 : zln (nb H) (A t + 1) = 80 := by rw [(nb_st.2.2 _ hA1).2]; exact w2
      have u4 : ztg (nb H) (A t + 2) = 30 := by rw [(nb_st.2.2 _ hA2).1]; exact w3
      have u5 : zln (nb H) (A t + 2) = 4 := by rw [(nb_st.2.2 _ hA2).2]; exact w4
      have u6 : zct (nb H) (A t) 6 = ((A t + 1 : Nat) : Int) := by rw [o1 _ _ hz]; exact h6
      have u7 : zct (nb H) (A t) 7 = ((A t + 2 : Nat) : Int) := by rw [o1 _ _ hz]; exact h7
      have u8 : zct (nb H) (A t + 2) v = (N : Int) := by rw [o1 _ _ hA2, c1]; exact hN
      have u9 : ztg (nb H) z = 1 := by rw [← hz0]; exact nb_t1
      have u10 : zct (zwr (nb H) (A t + 1) (20 * v + N) (z : Int)) (A t) 7 = ((A t + 2 : Nat) : Int) := by rw [zct_wr, if_neg (by omega)]; exact u7
      have u11 : zct (zwr (nb H) (A t + 1) (20 * v + N) (z : Int)) (A t + 2) v = (N : Int) := by rw [zct_wr, if_neg (by omega)]; exact u8
      have u12 : ztg (zwr (zwr (nb H) (A t + 1) (20 * v + N) (z : Int)) (A t + 2) v ((N : Int) + 1)) z = 1 := u9
      have e1 : zadd (zmul (v : Int) 20) (N : Int) = ((20 * v + N : Nat) : Int) := by rw [zmul_e (by omega) (by omega), zadd_e (by omega) (by omega)]; omega
      have e2 : zadd (N : Int) 1 = (N : Int) + 1 := zadd_e (by omega) (by omega)
      have b1 : 0 ≤ ((20 * v + N : Nat) : Int) := by omega
      have b2 : ((20 * v + N : Nat) : Int) < ((80 : Nat) : Int) := by omega
      have run := nb_run (H := H)
      rw [hz0] at run
      refine ⟨0, H2, _, B1, ow1, ?_, by rw [mp, if_neg h1, if_neg h2]; rfl, by omega, r2, ⟨hst.tr r3, ?_, ?_, fun a ha k => ?_⟩, ?_⟩
      · unfold fScore_takeNote
        simp only [yjn, yck, ygi, ygr, yai, ynw, yn0, ysr, ysi, h0, zA8, zA0, if_true, e_hasVoice I ht hk, ybd_s, hx, hx2, hv, and_self, show ¬ (1 : Int) = 0 by omega, if_false, eo, h4, elen, h1, h7, Int.toNat_natCast, w3, w4, c1, hN, true_or, show (N : Int) < 20 by omega, hz0, show 0 < z by omega, Nat.zero_add, run, u1, u2, u3, u4, u5, u6, u7, u8, u9, u10, u11, u12, e1, e2, b1, b2, ztg_wr, zln_wr, show zmay 36 1 = true from rfl, true_and, r1]
      · rw [r4]
        show znx (nb H) ≤ _
        rw [nb_nx]
        omega
      · rw [r5]
        show zus (nb H) ≤ _
        rw [nb_us]
        omega
      · rw [r6 a ha, zct_wr, if_neg (by omega), zct_wr, if_neg (by omega), o1 _ _ (by omega)]
      · intro k g1 g2 g3 g4 g5
        funext j
        simp [zup, g1, g2, g3, g4, g5]
theorem e_take (I : IV X H s A B K ow) (ht : (t : Int) < s 0 2) (hk : s 3 t = 1 ∨ s 3 t = 6) (hv : (v : Int) ≤ s 6 t - 1) {p l tt : Int} (hp : 0 ≤ p ∧ p ≤ 60) (hl : 1 ≤ l ∧ l ≤ 12) (htt : tt = 0 ∨ tt = 1) (hpt : ¬ (p = 0 ∧ tt = 1)) :
    ∃ r H' s' B' ow', fScore_takeNote (A t) (v : Int) (ncode (if p = 0 then -1000 else p) l tt) H = some (r, H') ∧ gM_put (t : Int) (v : Int) p l tt s = some (r, s') ∧ (r = 0 ∨ r = -3 ∨ r = -4) ∧ IV X H' s' A B' K ow' ∧ KP X H H' ∧ sOth s s' := by
  have hs := (I.st ht).2.1 hk
  have wb := wholeN_b (v := v) (by have := hs.2.1; omega) hs
  by_cases hw : wholeN s t v < s 14 (4 * t + v)
  · exact e_take_open I ht hk hv hp hl htt hpt hw
  · exact e_take_new I ht hk hv hp hl htt hpt (by omega)
end TAKE2
