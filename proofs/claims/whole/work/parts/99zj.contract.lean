/-! contract: both sides -/
def OLD (c : Nat) (s s' : zSg) : Prop := ∀ k j, (45 ≤ k ∧ k ≤ 49 ∧ j < c) ∨ (50 ≤ k ∧ k ≤ 54 ∧ j < 8 * c) ∨ (55 ≤ k ∧ k ≤ 56 ∧ j < 140 * c) → s' k j = s k j
theorem OLD.rf {c : Nat} {s : zSg} : OLD c s s := fun _ _ _ => rfl
theorem OLD.up {c k j : Nat} {s s1 : zSg} {v : Int} (h : OLD c s s1) (hk : k = 0 ∨ (45 ≤ k ∧ k ≤ 49 ∧ j = c)) : OLD c s (zup s1 k j v) := fun k' j' w => by
  unfold zup
  rw [if_neg (by omega)]
  exact h k' j' w
theorem OLD.scl {c : Nat} {s s1 s' : zSg} (h : OLD c s s1) (g : SCL c 0 0 s1 s') : OLD c s s' := fun k j w => (g k j (by omega) (by omega) (by omega) (by omega)).trans (h k j w)
theorem CO.old2 {X c c' : Nat} {H H' : zHp} {s s' : zSg} {K K' : Nat → Nat} {ow ow' : Nat → Nat × Nat} (h : CO X H s K ow c') (hn : zst H H') (hA : zown ow (1000 + c') H H') (hw : ∀ a, a ≤ znx H → ow' a = ow a) (hK : K' c' = K c') (o : OLD c s s') (hc : c' < c) : CO X H' s' K' ow' c' :=
  h.old hn hA hw hK ⟨o 45 c' (by omega), o 46 c' (by omega)⟩ ⟨o 47 c' (by omega), o 48 c' (by omega), o 49 c' (by omega)⟩ (fun i hi => ⟨o 50 _ (by omega), o 51 _ (by omega), o 52 _ (by omega), o 53 _ (by omega), o 54 _ (by omega)⟩) (fun j hj => ⟨o 55 _ (by omega), o 56 _ (by omega)⟩)
section CONTRACT2
variable {X : Nat} {H : zHp} {s : zSg} {A : Nat → Nat} {B : Nat → Nat → Nat} {K : Nat → Nat} {ow : Nat → Nat × Nat} {E : Nat → Nat}
theorem con_fail (I : IV X H s A B K ow) {H5 : zHp} {s12 : zSg} {c : Nat} (hc : s 0 44 = (c : Int)) (old5 : ∀ q, q ≤ znx H → ztg H5 q = ztg H q ∧ zln H5 q = zln H q ∧ ∀ k, ¬ (q = X ∧ k = 10) → zct H5 q k = zct H q k) (n5 : znx H5 = znx H + 2) (us5 : zus H5 ≤ zus H + 13 + 120) (x510 : zct H5 X 10 = 0) (y43 : s12 0 43 = 0) (y44 : s12 0 44 = (c : Int)) (z12 : zfs [3, 4, 11] s s12) (o12 : OLD c s s12) (us6 : zus H ≤ zus H5) : KD X H H5 s12 := by
  have F := I.1
  have hX := F.2.1.1
  obtain ⟨p1, p2, p3, p4⟩ := I.g4
  have st : zst H H5 := ⟨by omega, us6, fun q hq => ⟨(old5 q hq).1, (old5 q hq).2.1⟩⟩
  have fx : zfx X [3, 4] H H5 := fun o k ho hg => (old5 (X + o) (by omega)).2.2 k (fun w => by
    obtain ⟨w1, rfl⟩ := w
    obtain rfl : o = 0 := by omega
    exact absurd hg (by decide))
  have fd : zfd X (fun _ => False) H H5 := fun q hq1 hq2 _ k => (old5 q hq2).2.2 k (by omega)
  refine ⟨st, by omega, by omega, fun q hq1 hq2 k => fd q hq1 (by omega) (fun w => w) k, A, B, K, ow, I.g34 st fx fd z12 (fun _ _ => rfl) ?_ ?_ (fun c' hc' => ?_)⟩
  · show zct H5 X 10 = _ ∧ _
    rw [x510, y43]
    exact ⟨rfl, Int.le_refl _, by omega, fun k hk => by omega⟩
  · show zct H5 X 12 = _ ∧ _
    rw [(old5 X (by omega)).2.2 12 (by omega), y44, p1, hc]
    exact ⟨rfl, by omega, by omega, fun k hk => by
      show zct H5 (X + 11) k = _
      rw [(old5 (X + 11) (by omega)).2.2 k (by omega)]
      exact p4 k (by omega)⟩
  · rw [y44] at hc'
    exact (I.co (c := c') (by omega)).old2 st (fun q hq1 hq2 k => fd q (Or.inr (by
      have := I.2.2.2.2.2
      by_cases g : q ≤ X + 99
      · have := this q g; omega
      · omega)) hq1 (fun w => w) k) (fun _ _ => rfl) rfl o12 (by omega)
theorem con_good (I : IV X H s A B K ow) {H5 : zHp} {s15 : zSg} {c a n : Nat} (hc : s 0 44 = (c : Int)) (c11 : c ≤ 11) (ea : a = znx H + 1) (old5 : ∀ q, q ≤ znx H → ztg H5 q = ztg H q ∧ zln H5 q = zln H q ∧ ∀ k, ¬ (q = X ∧ k = 10) → zct H5 q k = zct H q k) (n5 : znx H5 = znx H + 2) (us5 : zus H5 ≤ zus H + 13 + 120) (x510 : zct H5 X 10 = 0) (b43 : s15 0 43 = 0) (b15 : s15 0 44 = ((c + 1 : Nat) : Int)) (z15 : zfs [3, 4, 11] s s15) (o15 : OLD c s s15)
    (cells : ztg H5 a = 2 ∧ zct H5 a 0 = s15 45 c ∧ zct H5 a 1 = s15 46 c ∧ zct H5 a 2 = ((a + 1 : Nat) : Int) ∧ zct H5 a 5 = s15 47 c ∧ zct H5 a 6 = s15 48 c ∧ zct H5 a 7 = s15 49 c) (txt : ztg H5 (a + 1) = 30 ∧ zln H5 (a + 1) = n) (n120 : n ≤ 120) (rng : (0 ≤ s15 45 c ∧ s15 45 c ≤ 3) ∧ (0 ≤ s15 46 c ∧ s15 46 c ≤ 9999) ∧ (0 ≤ s15 47 c ∧ s15 47 c ≤ 999) ∧ 0 ≤ s15 48 c ∧ s15 48 c ≤ 999) (cp : CPar (zct H5 (a + 1)) n s15 c) (us6 : zus H ≤ zus H5) : KD X H (zwr (zwr H5 (X + 11) c (a : Int)) X 12 ((c + 1 : Nat) : Int)) s15 := by
  have F := I.1
  have hX := F.2.1.1
  obtain ⟨p1, p2, p3, p4⟩ := I.g4
  obtain ⟨H6, eH6⟩ : ∃ H6, H6 = zwr H5 (X + 11) c (a : Int) := ⟨_, rfl⟩
  obtain ⟨H7, eH7⟩ : ∃ H7, H7 = zwr H6 X 12 ((c + 1 : Nat) : Int) := ⟨_, rfl⟩
  rw [← eH6, ← eH7]
  have c7 : ∀ q k, zct H7 q k = if q = X ∧ k = 12 then ((c + 1 : Nat) : Int) else if q = X + 11 ∧ k = c then (a : Int) else zct H5 q k := fun q k => by rw [eH7, zct_wr, eH6, zct_wr]
  have tg7 : ∀ q, ztg H7 q = ztg H5 q ∧ zln H7 q = zln H5 q := fun q => by rw [eH7, eH6]; exact ⟨rfl, rfl⟩
  have n7 : znx H7 = znx H + 2 ∧ zus H7 = zus H5 := by rw [eH7, eH6]; exact ⟨n5, rfl⟩
  clear eH6 eH7
  have old7 : ∀ q, q ≤ znx H → ztg H7 q = ztg H q ∧ zln H7 q = zln H q ∧ ∀ k, ¬ (q = X ∧ (k = 10 ∨ k = 12)) → ¬ (q = X + 11 ∧ k = c) → zct H7 q k = zct H q k := fun q hq => by
    obtain ⟨y1, y2, y3⟩ := old5 q hq
    refine ⟨(tg7 q).1.trans y1, (tg7 q).2.trans y2, fun k k1 k2 => ?_⟩
    rw [c7, if_neg (fun w => k1 ⟨w.1, Or.inr w.2⟩), if_neg k2]
    exact y3 k (fun w => k1 ⟨w.1, Or.inl w.2⟩)
  have st : zst H H7 := ⟨by omega, by omega, fun q hq => ⟨(old7 q hq).1, (old7 q hq).2.1⟩⟩
  have fx : zfx X [3, 4] H H7 := fun o k ho hg => (old7 (X + o) (by omega)).2.2 k (fun w => by
    obtain ⟨w1, w2⟩ := w
    obtain rfl : o = 0 := by omega
    rcases w2 with rfl | rfl
    · exact absurd hg (by decide)
    · exact absurd hg (by decide)) (fun w => by
    obtain ⟨w1, -⟩ := w
    obtain rfl : o = 11 := by omega
    exact absurd (show [3, 4].contains 4 = false from hg) (by decide))
  have fd : zfd X (fun _ => False) H H7 := fun q hq1 hq2 _ k => (old7 q hq2).2.2 k (by omega) (by omega)
  have new7 : ∀ q k, znx H < q → zct H7 q k = zct H5 q k := fun q k hq => by rw [c7, if_neg (by omega), if_neg (by omega)]
  have row7 : zct H7 (a + 1) = zct H5 (a + 1) := funext fun k => new7 _ _ (by omega)
  let K' : Nat → Nat := fun k => if k = c then a else K k
  let ow' : Nat → Nat × Nat := fun q => if q = a then (1000 + c, 0) else if q = a + 1 then (1000 + c, 1) else ow q
  have K1 : K' c = a := if_pos rfl
  have o1 : ow' a = (1000 + c, 0) := if_pos rfl
  have o2 : ow' (a + 1) = (1000 + c, 1) := by
    show (if a + 1 = a then _ else if a + 1 = a + 1 then _ else _) = _
    rw [if_neg (Nat.succ_ne_self a), if_pos rfl]
  have hw : ∀ q, q ≤ znx H → ow' q = ow q := fun q hq => by
    show (if q = a then _ else if q = a + 1 then _ else ow q) = ow q
    rw [if_neg (by omega), if_neg (by omega)]
  refine ⟨st, by omega, by omega, fun q hq1 hq2 k => fd q hq1 (by omega) (fun w => w) k, A, B, K', ow', I.g34 st fx fd z15 hw ?_ ?_ (fun c' hc' => ?_)⟩
  · show zct H7 X 10 = _ ∧ _
    rw [c7, if_neg (by omega), if_neg (by omega), x510, b43]
    exact ⟨rfl, Int.le_refl _, by omega, fun k hk => by omega⟩
  · show zct H7 X 12 = _ ∧ _
    rw [c7, if_pos ⟨rfl, rfl⟩, b15]
    refine ⟨rfl, by omega, by omega, fun k hk => ?_⟩
    show zct H7 (X + 11) k = ((if k = c then a else K k : Nat) : Int)
    rw [c7, if_neg (by omega)]
    by_cases e : k = c
    · rw [if_pos ⟨rfl, e⟩, if_pos e]
    · rw [if_neg (fun w => e w.2), if_neg e, (old5 (X + 11) (by omega)).2.2 k (by omega)]
      exact p4 k (by omega)
  · rw [b15] at hc'
    by_cases e : c' = c
    · subst e
      obtain ⟨d0, d1, d2, d3, d4, d5, d6⟩ := cells
      unfold CO My
      rw [K1, o1, o2, row7, new7 _ _ (by omega), new7 _ _ (by omega), new7 _ _ (by omega), new7 _ _ (by omega), new7 _ _ (by omega), new7 _ _ (by omega), (tg7 _).1, (tg7 _).1, (tg7 _).2, n7.1, txt.2]
      exact ⟨⟨⟨by omega, by omega, rfl⟩, by omega, by omega, rfl⟩, ⟨d0, d1, d2, d3, d4, d5, d6⟩, ⟨txt.1, n120⟩, rng, cp⟩
    · exact (I.co (c := c') (by omega)).old2 st (fun q hq1 hq2 k => fd q (Or.inr (by
        have := I.2.2.2.2.2
        by_cases g : q ≤ X + 99
        · have := this q g; omega
        · omega)) hq1 (fun w => w) k) hw (if_neg e) o15 (by omega)
theorem m_conEnd {s12 : zSg} {c : Nat} {a1 a2 : Int} (c11 : c ≤ 11) (y59 : s12 0 59 = (c : Int)) (y44 : s12 0 44 = (c : Int)) : ∃ s15, (ywi 13 45 (s12 0 59) a1 s12 fun s35 => ywi 13 46 (s35 0 59) a2 s35 fun s36 => yvl (zup s36 0 44 (zadd (s36 0 44) 1)) fun s37 => some (zsub (s37 0 44) 1, s37)) = some ((c : Int), s15) ∧ s15 0 44 = ((c + 1 : Nat) : Int) ∧ s15 0 43 = s12 0 43 ∧ s15 45 c = a1 ∧ s15 46 c = a2 ∧ (∀ k, 47 ≤ k → k ≤ 56 → s15 k = s12 k) ∧ zfs [3, 4, 11] s12 s15 ∧ ∀ s, OLD c s s12 → OLD c s s15 := by
  have ec : zadd (c : Int) 1 = ((c + 1 : Nat) : Int) := by rw [zadd_e (by omega) (by omega)]; omega
  have es : zsub ((c + 1 : Nat) : Int) 1 = (c : Int) := by rw [zsub_e (by omega) (by omega)]; omega
  obtain ⟨s13, es13⟩ : ∃ s13, s13 = zup s12 45 c a1 := ⟨_, rfl⟩
  obtain ⟨s14, es14⟩ : ∃ s14, s14 = zup s13 46 c a2 := ⟨_, rfl⟩
  obtain ⟨s15, es15⟩ : ∃ s15, s15 = zup s14 0 44 ((c + 1 : Nat) : Int) := ⟨_, rfl⟩
  have b13 : s13 0 59 = (c : Int) := by rw [es13]; exact y59
  have b14 : s14 0 44 = (c : Int) := by rw [es14, es13]; exact y44
  have b15 : s15 0 44 = ((c + 1 : Nat) : Int) := by rw [es15]; rfl
  refine ⟨s15, ?_, b15, by rw [es15, es14, es13]; rfl, ?_, ?_, fun k k1 k2 => funext fun j => ?_, ?_, fun s o => ?_⟩
  · rw [y59, ywi_n (by omega), ← es13, b13, ywi_n (by omega), ← es14]
    simp only [yvl]
    rw [b14, ec, ← es15, b15, es]
  · rw [es15, es14, es13]; simp [zup]
  · rw [es15, es14]; simp [zup]
  · rw [es15, es14, es13]
    unfold zup
    rw [if_neg (by omega), if_neg (by omega), if_neg (by omega)]
  · rw [es15, es14, es13]
    repeat first | exact zfs.rf | refine zfs.up0 ?_ rfl | refine zfs.up ?_ (by decide) rfl
  · rw [es15, es14, es13]
    exact ((o.up (by omega)).up (by omega)).up (Or.inl rfl)
theorem e_conEnd {X c a : Nat} {H5 : zHp} (c11 : c ≤ 11) (ta5 : ztg H5 a = 2) (tX5 : ztg H5 X = 11) (t11 : ztg H5 (X + 11) = 35) (m2 : zln H5 (X + 11) = 12) (m3 : (zct H5 X 11).toNat = X + 11) (m4 : zct H5 X 12 = (c : Int)) : (ygr 10 11 X H5 fun p16 => ygi 10 12 X H5 fun v17 => ysr p16 v17 a H5 fun s18 => ygi 10 12 X s18 fun v19 => ypi 10 12 X (zadd v19 1) s18 fun s20 => ygi 10 12 X s20 fun v21 => some (zsub v21 1, s20)) = some ((c : Int), zwr (zwr H5 (X + 11) c (a : Int)) X 12 ((c + 1 : Nat) : Int)) := by
  have ec : zadd (c : Int) 1 = ((c + 1 : Nat) : Int) := by rw [zadd_e (by omega) (by omega)]; omega
  have es : zsub ((c + 1 : Nat) : Int) 1 = (c : Int) := by rw [zsub_e (by omega) (by omega)]; omega
  obtain ⟨H6, eH6⟩ : ∃ H6, H6 = zwr H5 (X + 11) c (a : Int) := ⟨_, rfl⟩
  obtain ⟨H7, eH7⟩ : ∃ H7, H7 = zwr H6 X 12 ((c + 1 : Nat) : Int) := ⟨_, rfl⟩
  have m1 : zmay (ztg H5 (X + 11)) (ztg H5 a) = true := by rw [t11, ta5]; rfl
  have m5 : ztg H6 X = 11 := by rw [eH6]; exact tX5
  have m6 : zct H6 X 12 = (c : Int) := by rw [eH6, zct_wr, if_neg (by omega)]; exact m4
  have m7 : ztg H7 X = 11 := by rw [eH7]; exact m5
  have m8 : zct H7 X 12 = ((c + 1 : Nat) : Int) := by rw [eH7, zct_wr, if_pos ⟨rfl, rfl⟩]
  have m9 : (0 ≤ (c : Int) ∧ (c : Int) < ((12 : Nat) : Int)) = True := eq_true (by omega)
  simp only [ygr, ygi, ypi, ysr, tX5, zA10, if_true, m3, m4, m1, m2, m9, and_self, Int.toNat_natCast, ← eH6, m5, m6, ec, ← eH7, m7, m8, es]
theorem zup43 {s11 : zSg} {k : Nat} (k1 : 47 ≤ k) : zup s11 0 43 0 k = s11 k := funext fun j => by
  unfold zup
  rw [if_neg (by omega)]
set_option maxHeartbeats 4000000 in
theorem k_contract (I : IV X H s A B K ow) (hE : EW X H E) {a1 a2 : Int} : wX (fH_contract E X a1 a2 H) fun x H' => wX (gM_contract a1 a2 s) fun w s' => w = x ∧ KD X H H' s' := by
  have F := I.1
  have hX := F.2.1.1
  obtain ⟨p1, p2, p3, p4⟩ := I.g4
  obtain ⟨t1, t2, t3, t4⟩ := I.g3
  by_cases h : 0 ≤ a1 ∧ a1 ≤ 3
  · by_cases h2 : 0 ≤ a2 ∧ a2 ≤ 9999
    · by_cases h3 : s 0 44 = 12
      · unfold fH_contract gM_contract
        simp only [wX_s, wX_bd, wX_vl, wX_jn, wX_ite, wX_dv, wX_n0, wX_rb, wX_rc, wX_ry, wX_gi, wX_gr, wX_pi, wX_pz, wX_pr, wX_ai, wX_ab, wX_ar, wX_si, wX_sz, wX_sb, wX_sr, wX_ln, wX_nw, wX_na, wX_nm, wX_io, wX_ck, wX_cp, wX_cl, wX_ca, wX_sv, wX_sc, wX_rd, wX_wi, wX_wz, wX_wb, e_in, e_within, e_isDay, m_isDay, i01, ft0 F, zA10, true_and, h, h2, h3, not_true, if_false, p1, Int.lt_irrefl, if_true, and_self]
        (first | exact KD.rf I | exact ⟨trivial, KD.rf I⟩ | exact ⟨rfl, KD.rf I⟩)
      · obtain ⟨c, hc⟩ : ∃ c : Nat, s 0 44 = (c : Int) := ⟨(s 0 44).toNat, by omega⟩
        obtain ⟨n, hn⟩ : ∃ n : Nat, s 0 43 = (n : Int) := ⟨(s 0 43).toNat, by omega⟩
        have c11 : c ≤ 11 := by omega
        have n120 : n ≤ 120 := by omega
        have c12 : c ≤ 12 := Nat.le_succ_of_le c11
        obtain ⟨H2, H3, e1, e2, ⟨e3, e3'⟩, ⟨e4, e5⟩, e6, ⟨f1, f2, f3, f4, f5, f6, f7⟩, ⟨g1, g2, g3⟩, x10⟩ := e_newcon I a1 a2 hn
        obtain ⟨H4, eH4⟩ : ∃ H4, H4 = zwr H3 X 10 0 := ⟨_, rfl⟩
        rw [← eH4] at e4 e5 e6 f1 f2 f3 f4 f5 f6 f7 g1 g2 g3 x10
        obtain ⟨a, ea⟩ : ∃ a, a = znx H + 1 := ⟨_, rfl⟩
        have ea2 : znx H + 2 = a + 1 := by omega
        rw [ea2] at e1 e2 e4 f4 g1 g2 g3
        rw [← ea] at e2 f1 f2 f3 f4 f5 f6 f7
        have e44 : (zct H4 a 2).toNat = a + 1 := by rw [f4, Int.toNat_natCast]
        have ct : CT H4 a n (zct H4 (a + 1)) E := by
          refine ⟨⟨f1, by rw [e44]; exact g1, by rw [e44]; exact g2, by rw [e44]; omega, n120⟩, fun k hk => ?_, fun i hi => ?_⟩
          · rw [e44]
            refine ⟨rfl, ?_⟩
            rw [g3 k hk]
            have := t4 k (by omega)
            omega
          · obtain ⟨w1, w2, w3⟩ := hE i hi
            have hq : (zct H4 (E i) 0).toNat = (zct H (E i) 0).toNat := by rw [(e6 (E i) (by omega)).2.2 0 (by omega)]
            exact ⟨w1.same fun q hq => ⟨(e6 q (by omega)).1, (e6 q (by omega)).2.1, fun k => (e6 q (by omega)).2.2 k (by omega)⟩, by omega, by omega⟩
        obtain ⟨s7, es7⟩ : ∃ s7, s7 = zup (zup (zup s 0 59 (c : Int)) 0 57 0) 0 58 0 := ⟨_, rfl⟩
        obtain ⟨s8, es8⟩ : ∃ s8, s8 = zup s7 49 c 0 := ⟨_, rfl⟩
        obtain ⟨s9, es9⟩ : ∃ s9, s9 = zup s8 47 c 10 := ⟨_, rfl⟩
        obtain ⟨s10, es10⟩ : ∃ s10, s10 = zup s9 48 c 0 := ⟨_, rfl⟩
        have v7 : s7 0 59 = (c : Int) := by rw [es7]; rfl
        have v8 : s8 0 59 = (c : Int) := by rw [es8]; exact v7
        have v9 : s9 0 59 = (c : Int) := by rw [es9]; exact v8
        have v10 : s10 0 59 = (c : Int) := by rw [es10]; exact v9
        have w57 : s10 0 57 = 0 := by rw [es10, es9, es8, es7]; rfl
        have w58 : s10 0 58 = 0 := by rw [es10, es9, es8, es7]; rfl
        have w43 : s10 0 43 = (n : Int) := by rw [es10, es9, es8, es7]; exact hn
        have w42 : ∀ k, s10 42 k = s 42 k := fun k => by rw [es10, es9, es8, es7]; rfl
        have w44 : s10 0 44 = (c : Int) := by rw [es10, es9, es8, es7]; exact hc
        have w48 : s10 48 c = 0 := by rw [es10]; simp [zup]
        have w47 : s10 47 c = 10 := by rw [es10, es9]; simp [zup]
        have w49 : s10 49 c = 0 := by rw [es10, es9, es8]; simp [zup]
        have z10 : zfs [3, 4, 11] s s10 := by
          rw [es10, es9, es8, es7]
          repeat first | exact zfs.rf | refine zfs.up0 ?_ rfl | refine zfs.up ?_ (by decide) rfl
        have o10 : OLD c s s10 := by
          rw [es10, es9, es8, es7]
          exact ((((((OLD.rf).up (Or.inl rfl)).up (Or.inl rfl)).up (Or.inl rfl)).up (by omega)).up (by omega)).up (by omega)
        have lk : LK s10 n (zct H4 (a + 1)) := ⟨w43, n120, fun k hk => by
          rw [g3 k hk, w42]
          have := t4 k (by omega)
          omega⟩
        obtain ⟨r, H5, v, s11, u1, u2, ⟨u3, u4⟩, q, ⟨q1, q2, q3⟩, q4⟩ := readAll_ok (pa := -1) (ac := -1) (by omega) ct lk w57 w58 v10 w49 w47 w48 (Or.inl f7)
        have x43 : s11 0 43 = (n : Int) := (u4 0 43 (by omega) (by omega) (by omega) (by omega)).trans w43
        have x44 : s11 0 44 = (c : Int) := (u4 0 44 (by omega) (by omega) (by omega) (by omega)).trans w44
        have x59 : s11 0 59 = (c : Int) := (u4 0 59 (by omega) (by omega) (by omega) (by omega)).trans v10
        have z11 : zfs [3, 4, 11] s s11 := z10.tr u4.zfs
        have o11 : OLD c s s11 := o10.scl u4
        obtain ⟨s12, es12⟩ : ∃ s12, s12 = zup s11 0 43 0 := ⟨_, rfl⟩
        have z12 : zfs [3, 4, 11] s s12 := by rw [es12]; exact z11.up0 rfl
        have o12 : OLD c s s12 := by rw [es12]; exact o11.up (Or.inl rfl)
        have y59 : s12 0 59 = (c : Int) := by rw [es12]; exact x59
        have y44 : s12 0 44 = (c : Int) := by rw [es12]; exact x44
        have y43 : s12 0 43 = 0 := by rw [es12]; rfl
        have y57 : s12 0 57 = (q : Int) := by rw [es12]; exact q2
        have y50 : ∀ k, 47 ≤ k → k ≤ 56 → s12 k = s11 k := fun k k1 _ => by rw [es12]; exact zup43 k1
        skip
        have n5 : znx H5 = znx H + 2 := by
          have : znx H5 = znx H4 := congrArg Prod.fst u3.1.2.2
          omega
        have us5 : zus H5 = zus H + 13 + n := by
          have : zus H5 = zus H4 := congrArg Prod.snd u3.1.2.2
          omega
        have tg5 : ∀ q, ztg H5 q = ztg H4 q := fun q => by show H5.1 q = H4.1 q; rw [u3.1.1]
        have ln5 : ∀ q, zln H5 q = zln H4 q := fun q => by show H5.2.1 q = H4.2.1 q; rw [u3.1.2.1]
        have old5 : ∀ q, q ≤ znx H → ztg H5 q = ztg H q ∧ zln H5 q = zln H q ∧ ∀ k, ¬ (q = X ∧ k = 10) → zct H5 q k = zct H q k := fun q hq => ⟨(tg5 q).trans (e6 q hq).1, (ln5 q).trans (e6 q hq).2.1, fun k hk => by rw [u3.2.1 q (by omega), (e6 q hq).2.2 k hk]⟩
        have x510 : zct H5 X 10 = 0 := by rw [u3.2.1 X (by omega)]; exact x10
        have tX1 : ztg (zal H 2 13 fun _ => 0) X = 11 := by rw [ztg_al, if_neg (by omega)]; exact ft0 F
        have cX9 : (zct (zal H 2 13 fun _ => 0) X 9).toNat = X + 10 := by rw [zct_al, if_neg (by omega)]; exact fp0_9 F
        have cX10 : zct (zal H 2 13 fun _ => 0) X 10 = (n : Int) := by rw [zct_al, if_neg (by omega), t1]; exact hn
        have tX5 : ztg H5 X = 11 := (old5 X (by omega)).1.trans (ft0 F)
        have ta5 : ztg H5 a = 2 := (tg5 a).trans f1
        have hlt : (c : Int) < 12 := by omega
        have hcE : fH_contract E X a1 a2 H = (if r = 0 then (ygi 1 3 a H5 fun v22 => some (zsub (-10) v22, H5)) else
          (ygr 10 11 X H5 fun p16 => ygi 10 12 X H5 fun v17 => ysr p16 v17 a H5 fun s18 => ygi 10 12 X s18 fun v19 => ypi 10 12 X (zadd v19 1) s18 fun s20 => ygi 10 12 X s20 fun v21 => some (zsub v21 1, s20))) := by
          unfold fH_contract
          simp only [show ¬ (1 : Int) = 0 by decide, e_within, e_isDay, ybd_s, i01, h, h2, and_self, not_true, if_false, ygi, ygr, ypi, ynw, ft0 F, zA10, zA1, if_true, p1, hc, hlt, tX1, cX9, cX10, e1, ← ea, e2, yn0, show 0 < a by omega, e3, ← eH4, yck, f1, u1]
        have hrE : gM_contract a1 a2 s = (yjn (fun (x29 : Int) (x30 : Int) (x31 : Int) (s32 : zSg) =>
          yvl (zup s32 0 43 0) fun s34 =>
          if x31 = 0 then
            (some (zsub (-10) (s34 0 57), s34))
          else
            (ywi 13 45 (s34 0 59) x29 s34 fun s35 =>
            ywi 13 46 (s35 0 59) x30 s35 fun s36 =>
            yvl (zup s36 0 44 (zadd (s36 0 44) 1)) fun s37 =>
            some (zsub (s37 0 44) 1, s37))) fun q33 =>
          if v = 0 then q33 a1 a2 0 s11 else if (s11 0 57) = (s11 0 43) then q33 a1 a2 1 s11 else q33 a1 a2 0 s11) := by
          have n12 : ¬ (c : Int) = 12 := by omega
          unfold gM_contract
          simp only [show ¬ (1 : Int) = 0 by decide, yjn, e_in, m_isDay, ybd_s, i01, h, h2, and_self, if_true, not_true, if_false, hc, n12, yvl, ← es7, v7, ywi_n (show c < 13 by omega), ← es8, v8, ← es9, v9, ← es10, u2]
        simp only [yjn, yvl, ← es12] at hrE
        have fail : fH_contract E X a1 a2 H = some (zsub (-10) (q : Int), H5) → gM_contract a1 a2 s = some (zsub (-10) (q : Int), s12) → wX (fH_contract E X a1 a2 H) fun x H' => wX (gM_contract a1 a2 s) fun w s' => w = x ∧ KD X H H' s' := fun hf hg => wX_e hf (wX_e hg ⟨rfl, con_fail I hc old5 n5 (by rw [us5]; exact Nat.add_le_add_left n120 _) x510 y43 y44 z12 o12 (by rw [us5, Nat.add_assoc]; exact Nat.le_add_right _ _)⟩)
        rcases q4 with ⟨v1, r1, l', i', ⟨l1, l2⟩, acc⟩ | ⟨v0, r0⟩
        · by_cases qn : q = n
          · rw [if_pos qn] at r1
            obtain ⟨s15, hg0, b15, b43', b45, b46, b50', z15', o15'⟩ := m_conEnd (a1 := a1) (a2 := a2) c11 y59 y44
            have b43 : s15 0 43 = 0 := b43'.trans y43
            have b50 : ∀ k, 47 ≤ k → k ≤ 56 → s15 k = s11 k := fun k k1 k2 => (b50' k k1 k2).trans (y50 k k1 k2)
            have z15 : zfs [3, 4, 11] s s15 := z12.tr z15'
            have o15 : OLD c s s15 := o15' s o12
            have hg : gM_contract a1 a2 s = some ((c : Int), s15) := by
              rw [hrE, v1, if_neg (by decide), if_pos (by rw [q2, x43, qn]), if_neg (by decide)]
              exact hg0
            have oX := old5 X (Nat.le_trans (Nat.le_add_right _ _) hX)
            have oX11 := old5 (X + 11) (Nat.le_trans (Nat.add_le_add_left (by decide) _) hX)
            have hf : fH_contract E X a1 a2 H = some ((c : Int), zwr (zwr H5 (X + 11) c (a : Int)) X 12 ((c + 1 : Nat) : Int)) := by
              rw [hcE, r1, if_neg (by decide)]
              exact e_conEnd c11 ta5 tX5 (oX11.1.trans (ft11 F)) (oX11.2.1.trans (fl11 F)) (by rw [oX.2.2 11 (fun w => absurd w.2 (by decide))]; exact fp0_11 F) (by rw [oX.2.2 12 (fun w => absurd w.2 (by decide)), p1]; exact hc)
            have cp : CPar (zct H4 (a + 1)) n s15 c := by
              have hr2 : ∀ a1 a2 K', (ybd (gM_clause s10) fun v s1 => gM_contract_l4 zFU a1 a2 1 v s1 K') = K' a1 a2 1 s11 := fun b1 b2 K' => by rw [u2, v1]
              exact (CPar.of c12 ct lk w57 w58 v10 w49 w47 w48 hr2 (by rw [q2, qn])).eq b50
            have kd : KD X H (zwr (zwr H5 (X + 11) c (a : Int)) X 12 ((c + 1 : Nat) : Int)) s15 := by
              obtain ⟨⟨k1, k2⟩, ⟨k3, k4⟩, ⟨⟨k5, k6⟩, k7, k8⟩, -⟩ := acc
              refine con_good I hc c11 ea old5 n5 (by rw [us5]; exact Nat.add_le_add_left n120 _) x510 b43 b15 z15 o15 ⟨ta5, ?_, ?_, ?_, ?_, ?_, ?_⟩ ⟨(tg5 _).trans g1, (ln5 _).trans g2⟩ n120 ?_ ?_ (by rw [us5, Nat.add_assoc]; exact Nat.le_add_right _ _)
              · rw [u3.2.2 0 (Or.inl (by decide)), f2, b45]
              · rw [u3.2.2 1 (Or.inl (by decide)), f3, b46]
              · rw [u3.2.2 2 (Or.inl (by decide)), f4]
              · rw [b50 47 (by decide) (by decide)]
                rcases k3 with w | ⟨w1, w2⟩
                · exact w
                · rw [w1, w2]; exact f5
              · rw [b50 48 (by decide) (by decide)]
                rcases k4 with w | ⟨w1, w2⟩
                · exact w
                · rw [w1, w2]; exact f6
              · rw [b50 49 (by decide) (by decide)]
                exact k2.trans k1.symm
              · rw [b45, b46, b50 47 (by decide) (by decide), b50 48 (by decide) (by decide)]
                exact ⟨h, h2, ⟨k5, k6⟩, k7, k8⟩
              · rw [show zct H5 (a + 1) = zct H4 (a + 1) from funext fun k => u3.2.1 _ (Nat.succ_ne_self a) k]
                exact cp
            exact wX_e hf (wX_e hg ⟨rfl, kd⟩)
          · rw [if_neg qn] at r1
            refine fail ?_ ?_
            · rw [hcE, r1, if_pos rfl]
              simp only [ygi, ta5, zA1, if_true, q3]
            · rw [hrE, v1, if_neg (by decide), if_neg (by rw [q2, x43]; exact fun w => qn (Int.ofNat.inj w)), if_pos trivial, y57]
        · refine fail ?_ ?_
          · rw [hcE, r0, if_pos rfl]
            simp only [ygi, ta5, zA1, if_true, q3]
          · rw [hrE, v0, if_pos rfl, if_pos trivial, y57]
    · unfold fH_contract gM_contract
      simp only [wX_s, wX_bd, wX_vl, wX_jn, wX_ite, wX_dv, wX_n0, wX_rb, wX_rc, wX_ry, wX_gi, wX_gr, wX_pi, wX_pz, wX_pr, wX_ai, wX_ab, wX_ar, wX_si, wX_sz, wX_sb, wX_sr, wX_ln, wX_nw, wX_na, wX_nm, wX_io, wX_ck, wX_cp, wX_cl, wX_ca, wX_sv, wX_sc, wX_rd, wX_wi, wX_wz, wX_wb, e_in, e_within, e_isDay, m_isDay, i01, h, h2, not_true, not_false_iff, if_false, if_true, and_self]
      (first | exact KD.rf I | exact ⟨trivial, KD.rf I⟩ | exact ⟨rfl, KD.rf I⟩)
  · unfold fH_contract gM_contract
    simp only [wX_s, wX_bd, wX_vl, wX_jn, wX_ite, wX_dv, wX_n0, wX_rb, wX_rc, wX_ry, wX_gi, wX_gr, wX_pi, wX_pz, wX_pr, wX_ai, wX_ab, wX_ar, wX_si, wX_sz, wX_sb, wX_sr, wX_ln, wX_nw, wX_na, wX_nm, wX_io, wX_ck, wX_cp, wX_cl, wX_ca, wX_sv, wX_sc, wX_rd, wX_wi, wX_wz, wX_wb, e_in, e_within, i01, h, not_false_iff, if_true]
    (first | exact KD.rf I | exact ⟨trivial, KD.rf I⟩ | exact ⟨rfl, KD.rf I⟩)
end CONTRACT2
