/-! PAGES: the bars measured -/
def FrX (X : Nat) (H H' : zHp) : Prop := zst H H' ∧ znx H' = znx H ∧ zus H' = zus H ∧ ∀ a, (a < X ∨ X + 36 < a) → a ≤ X + 99 → ∀ k, zct H' a k = zct H a k
theorem FrX.rf {X : Nat} {H : zHp} : FrX X H H := ⟨zst.rf, rfl, rfl, fun _ _ _ _ => rfl⟩
theorem FrX.tr {X : Nat} {H1 H2 H3 : zHp} (a : FrX X H1 H2) (b : FrX X H2 H3) : FrX X H1 H3 := ⟨a.1.tr b.1, b.2.1.trans a.2.1, b.2.2.1.trans a.2.2.1, fun q h1 h2 k => (b.2.2.2 q h1 h2 k).trans (a.2.2.2 q h1 h2 k)⟩
theorem FrX.wr {X : Nat} {H H1 : zHp} (h : FrX X H H1) {o k : Nat} {v : Int} (ho : o ≤ 36) : FrX X H (zwr H1 (X + o) k v) := h.tr ⟨zst.rf.wr _ _ _, rfl, rfl, fun a h1 h2 k' => by rw [zct_wr, if_neg (by omega)]⟩
theorem FrX.bx {X : Nat} {H H1 : zHp} {b : Nat} (hb : X + 99 < b) (h : zbx b H H1) : FrX X H H1 := ⟨h.1, h.2.1, h.2.2.1, fun a _ h2 k => h.2.2.2.2 a k (by omega) (by omega)⟩
section PAGES
variable {X : Nat} {H : zHp} {s : zSg} {A : Nat → Nat} {B : Nat → Nat → Nat} {K : Nat → Nat} {ow : Nat → Nat × Nat} {p n : Nat}
theorem IV.x11 {H' : zHp} {s' : zSg} (I : IV X H s A B K ow) (h1 : zst H H') (h2 : zfx X [11] H H') (h3 : zfd X (fun _ => False) H H') (h4 : zfs [11] s s') : IV X H' s' A B K ow :=
  I.fr h1 h2 (fun a h5 h6 _ k => h3 a h5 h6 (fun q => q) k) h4 rfl rfl rfl rfl (by rw [h4 0 8 rfl]; exact Int.le_refl _) (Or.inl rfl) (Or.inl rfl) (Or.inl rfl) (Or.inl rfl) (Or.inl rfl) (Or.inl rfl) (Or.inl rfl)
theorem IV.w11 (I : IV X H s A B K ow) {o k : Nat} {v : Int} (ho : o ≤ 36) (hg : xg o k = 11) : IV X (zwr H (X + o) k v) s A B K ow :=
  I.x11 (zst.rf.wr _ _ _) (zfx.rf.wr (by rw [hg]; rfl)) (zfd.rf.wr ho) zfs.rf
theorem KD.fx2 {H' : zHp} {s' : zSg} (h : FrX X H H') (I : IV X H' s A B K ow) (z : zfs [11] s s') : KD X H H' s' := ⟨h.1, by rw [h.2.1]; omega, by rw [h.2.2.1]; omega, h.2.2.2, A, B, K, ow, I.x11 zst.rf zfx.rf zfd.rf z⟩
theorem e_restsFirst {b m : Nat} {P L T : Nat → Int} {lo hi : Int} (hb : BarH H b) (vb : BarV H b (m : Int) P L T) (m1 : 1 ≤ m) (nr : ∀ i, i < m → NR lo hi (P i) (L i) (T i)) (b1 : -99 ≤ lo) (b2 : hi ≤ 1000) : fBar_restsFirst b H = some (if P 0 = -1000 then 1 else 0, H) := by
  obtain ⟨h1, h2, h3, h4⟩ := hb
  obtain ⟨n1, n2, n3, n4⟩ := nr 0 (by omega)
  have hp : P 0 = -1000 ∨ (-99 ≤ P 0 ∧ P 0 ≤ 1000) := by omega
  have v0 := vb.2.2.2 0 (by omega)
  have b8 : 0 ≤ (0 : Int) ∧ (0 : Int) < ((8 : Nat) : Int) := by omega
  unfold fBar_restsFirst
  simp only [yck, ygr, yai, h1, zA0, if_true, e_hasNote h1 vb.1 vb.2.2.1, ybd_s, i01, h2, Int.toNat_natCast, h3, h4, true_or, b8, and_self, show (0 : Int).toNat = 0 from rfl, v0, e_isRest ⟨n2, n3⟩ n4 hp]
  have m0 : ¬ m = 0 := by omega
  by_cases g : P 0 = -1000
  · simp [g, m0]
  · simp [g, m0]
theorem e_restsLast {b m : Nat} {P L T : Nat → Int} {lo hi : Int} (hb : BarH H b) (vb : BarV H b (m : Int) P L T) (m1 : 1 ≤ m) (nr : ∀ i, i < m → NR lo hi (P i) (L i) (T i)) (b1 : -99 ≤ lo) (b2 : hi ≤ 1000) : fBar_restsLast b H = some (if P (m - 1) = -1000 then 1 else 0, H) := by
  obtain ⟨h1, h2, h3, h4⟩ := hb
  obtain ⟨n1, n2, n3, n4⟩ := nr (m - 1) (by omega)
  have hp : P (m - 1) = -1000 ∨ (-99 ≤ P (m - 1) ∧ P (m - 1) ≤ 1000) := by omega
  have m8 := vb.2.2.1
  have v0 := vb.2.2.2 (m - 1) (by omega)
  have e : zsub (m : Int) 1 = ((m - 1 : Nat) : Int) := by rw [zsub_e (by omega) (by omega)]; omega
  have b8 : 0 ≤ ((m - 1 : Nat) : Int) ∧ ((m - 1 : Nat) : Int) < ((8 : Nat) : Int) := by omega
  unfold fBar_restsLast
  simp only [yck, ygr, ygi, yai, h1, zA0, if_true, vb.1, e, e_hasNote h1 vb.1 vb.2.2.1, ybd_s, i01, h2, Int.toNat_natCast, h3, h4, true_or, b8, and_self, v0, e_isRest ⟨n2, n3⟩ n4 hp]
  have m0 : ((m - 1 : Nat) : Int) < (m : Int) := by omega
  by_cases g : P (m - 1) = -1000
  · simp [g, m0]
  · simp [g, m0]
set_option maxRecDepth 100000 in
theorem meas1 {sA : zSg} {b : Nat} (I : IV X H s A B K ow) (z : zfs [11] s sA) (hp : (p : Int) < s 0 2) (hk : s 3 p = 2 ∨ s 3 p = 5) (hn : wholeN s (s 4 p).toNat (s 5 p).toNat = (n : Int)) (n20 : n ≤ 20) (hb : b < n) (hc : zct H (X + 4) 0 = (n : Int)) :
    ∃ (H' : zHp) (sB : zSg) (W F L : Int), (∀ f, fLayout_measure_l1 (f + 1) (X + 4) (A p) (b : Int) H = fLayout_measure_l1 f (X + 4) (A p) ((b + 1 : Nat) : Int) H') ∧ (∀ (f : Nat) (w ln wh : Int) Q, gM_pages_l7 (f + 1) (p : Int) w ln wh (n : Int) (b : Int) sA Q = if w < W then some (-3, sB) else gM_pages_l7 f (p : Int) w ln wh (n : Int) ((b + 1 : Nat) : Int) sB Q) ∧
      IV X H' s A B K ow ∧ zfs [11] s sB ∧ FrX X H H' ∧ zct H' (X + 4) 0 = (n : Int) ∧ (zct H' (X + 5) b = W ∧ zct H' (X + 6) b = F ∧ zct H' (X + 7) b = L ∧ sB 37 b = W ∧ sB 39 b = F ∧ sB 38 b = L) ∧ (5 ≤ W ∧ W ≤ 26 ∧ (F = 0 ∨ F = 1) ∧ (L = 0 ∨ L = 1)) ∧
      (∀ j, j ≠ b → zct H' (X + 5) j = zct H (X + 5) j ∧ zct H' (X + 6) j = zct H (X + 6) j ∧ zct H' (X + 7) j = zct H (X + 7) j) ∧ ∀ j, j ≠ b → sB 37 j = sA 37 j ∧ sB 39 j = sA 39 j ∧ sB 38 j = sA 38 j := by
  have F0 := I.1
  have hX := F0.2.1.1
  have hn60 := I.n
  have row : ∀ r j, r ≠ 0 → [11].contains (rgs.getD r 99) = false → sA r j = s r j := fun r j h0 h => z r j (by unfold rg; rw [if_neg h0]; exact h)
  have rowf : ∀ r, r ≠ 0 → [11].contains (rgs.getD r 99) = false → sA r = s r := fun r h0 h => funext fun j => row r j h0 h
  obtain ⟨H1, s1, m, q1, q2, q3, q3', q4, q5, q6⟩ := e_readG I hp hk (b := b) (by omega) (s1 := sA) (rowf 10 (by omega) rfl) (rowf 11 (by omega) rfl) (rowf 12 (by omega) rfl) (rowf 13 (by omega) rfl) (row 4 p (by omega) rfl) (row 5 p (by omega) rfl) (row 6 p (by omega) rfl)
  have I1 : IV X H1 s A B K ow := I.read hp hk q4 zrs.rf
  obtain ⟨pb0, pb1, ph⟩ := ((I1.to hp).2.1 hk).2.2
  have px := pb0.1
  have eW : zadd 2 (zmul 3 (m : Int)) = 2 + 3 * (m : Int) := by rw [zmul_e (by omega) (by omega), zadd_e (by omega) (by omega)]
  have em1 : zsub (m : Int) 1 = ((m - 1 : Nat) : Int) := by rw [zsub_e (by omega) (by omega)]; omega
  have eb1 : zadd (b : Int) 1 = ((b + 1 : Nat) : Int) := by rw [zadd_e (by omega) (by omega)]; omega
  have hb20 : 0 ≤ (b : Int) ∧ (b : Int) < ((20 : Nat) : Int) := by omega
  -- the writes
  obtain ⟨H2, e2⟩ : ∃ H2, H2 = zwr H1 (X + 5) b (2 + 3 * (m : Int)) := ⟨_, rfl⟩
  obtain ⟨vF, eF⟩ : ∃ vF : Int, vF = if s1 17 0 = -1000 then 1 else 0 := ⟨_, rfl⟩
  obtain ⟨vL, eL⟩ : ∃ vL : Int, vL = if s1 17 (m - 1) = -1000 then 1 else 0 := ⟨_, rfl⟩
  have F01 : vF = 0 ∨ vF = 1 := by rw [eF]; split <;> omega
  have L01 : vL = 0 ∨ vL = 1 := by rw [eL]; split <;> omega
  obtain ⟨H3, e3⟩ : ∃ H3, H3 = zwr H2 (X + 6) b vF := ⟨_, rfl⟩
  obtain ⟨H4, e4⟩ : ∃ H4, H4 = zwr H3 (X + 7) b vL := ⟨_, rfl⟩
  have I2 : IV X H2 s A B K ow := by rw [e2]; exact I1.w11 (by omega) rfl
  have I3 : IV X H3 s A B K ow := by rw [e3]; exact I2.w11 (by omega) rfl
  have I4 : IV X H4 s A B K ow := by rw [e4]; exact I3.w11 (by omega) rfl
  have c2 : ∀ q i, q ≠ X + 5 → zct H2 q i = zct H1 q i := fun q i h => by rw [e2, zct_wr, if_neg (fun w => h w.1)]
  have c3 : ∀ q i, q ≠ X + 6 → zct H3 q i = zct H2 q i := fun q i h => by rw [e3, zct_wr, if_neg (fun w => h w.1)]
  have c4 : ∀ q i, q ≠ X + 7 → zct H4 q i = zct H3 q i := fun q i h => by rw [e4, zct_wr, if_neg (fun w => h w.1)]
  have r2 : ∀ i, zct H2 (X + 5) i = if i = b then 2 + 3 * (m : Int) else zct H1 (X + 5) i := fun i => by
    rw [e2, zct_wr]
    by_cases e : i = b
    · rw [if_pos ⟨rfl, e⟩, if_pos e]
    · rw [if_neg (fun w => e w.2), if_neg e]
  have r3 : ∀ i, zct H3 (X + 6) i = if i = b then vF else zct H2 (X + 6) i := fun i => by
    rw [e3, zct_wr]
    by_cases e : i = b
    · rw [if_pos ⟨rfl, e⟩, if_pos e]
    · rw [if_neg (fun w => e w.2), if_neg e]
  have r4 : ∀ i, zct H4 (X + 7) i = if i = b then vL else zct H3 (X + 7) i := fun i => by
    rw [e4, zct_wr]
    by_cases e : i = b
    · rw [if_pos ⟨rfl, e⟩, if_pos e]
    · rw [if_neg (fun w => e w.2), if_neg e]
  have cb : ∀ q i, q ≤ X + 36 → zct H1 q i = zct H q i := fun q i h => q4.2.2.2.2 q i (by omega) (by omega)
  have bh1 : BarH H1 (B p 0) := ph
  have bh2 : BarH H2 (B p 0) := by rw [e2]; exact ⟨ph.1, by rw [zct_wr, if_neg (by omega)]; exact ph.2.1, ph.2.2.1, ph.2.2.2⟩
  have bh3 : BarH H3 (B p 0) := by rw [e3]; exact ⟨bh2.1, by rw [zct_wr, if_neg (by omega)]; exact bh2.2.1, bh2.2.2.1, bh2.2.2.2⟩
  have bv2 : BarV H2 (B p 0) (m : Int) (s1 17) (s1 18) (s1 19) := q6.1.fc (fun k => c2 _ k (by omega)) (fun k => c2 _ k (by omega)) rfl (fun _ _ => rfl) (fun _ _ => rfl) (fun _ _ => rfl)
  have bv3 : BarV H3 (B p 0) (m : Int) (s1 17) (s1 18) (s1 19) := bv2.fc (fun k => c3 _ k (by omega)) (fun k => c3 _ k (by omega)) rfl (fun _ _ => rfl) (fun _ _ => rfl) (fun _ _ => rfl)
  have rf := e_restsFirst bh2 bv2 q3' q6.2.2 (by omega) (by omega)
  have rl := e_restsLast bh3 bv3 q3' q6.2.2 (by omega) (by omega)
  rw [← eF] at rf
  rw [← eL] at rl
  have m16 := q6.2.1
  -- the reference's writes
  obtain ⟨sB, esB⟩ : ∃ sB, sB = zup (zup (zup s1 37 b (2 + 3 * (m : Int))) 39 b vF) 38 b vL := ⟨_, rfl⟩
  have z1 : zfs [11] s s1 := fun k j hkj => by
    rw [← z k j hkj]
    have : k ≠ 17 ∧ k ≠ 18 ∧ k ≠ 19 ∧ ¬ (k = 0 ∧ j = 16) := by
      refine ⟨?_, ?_, ?_, ?_⟩
      · rintro rfl; cases (show true = false from hkj)
      · rintro rfl; cases (show true = false from hkj)
      · rintro rfl; cases (show true = false from hkj)
      · rintro ⟨rfl, rfl⟩; cases (show true = false from hkj)
    exact q5 k j this.1 this.2.1 this.2.2.1 this.2.2.2
  have zB : zfs [11] s sB := by
    rw [esB]
    exact ((z1.up (by omega) rfl).up (by omega) rfl).up (by omega) rfl
  have s37 : ∀ j, sB 37 j = if j = b then 2 + 3 * (m : Int) else s1 37 j := fun j => by rw [esB, zup_o (by omega), zup_o (by omega), zup_r]
  have s39 : ∀ j, sB 39 j = if j = b then vF else s1 39 j := fun j => by rw [esB, zup_o (by omega), zup_r, zup_o (by omega)]
  have s38 : ∀ j, sB 38 j = if j = b then vL else s1 38 j := fun j => by rw [esB, zup_r, zup_o (by omega), zup_o (by omega)]
  have o37 : s1 37 = sA 37 := q5.e (by omega) (by omega) (by omega) (by omega)
  have o38 : s1 38 = sA 38 := q5.e (by omega) (by omega) (by omega) (by omega)
  have o39 : s1 39 = sA 39 := q5.e (by omega) (by omega) (by omega) (by omega)
  have g5 : zisA 5 (ztg H (A p)) = true := I.tg hp (c := 5) (tgk_5.mpr hk)
  refine ⟨H4, sB, 2 + 3 * (m : Int), vF, vL, fun f => ?_, fun f w ln wh Q => ?_, I4, zB, ?_, ?_, ⟨?_, ?_, ?_, ?_, ?_, ?_⟩, ⟨by omega, by omega, F01, L01⟩, fun j hj => ⟨?_, ?_, ?_⟩, fun j hj => ⟨?_, ?_, ?_⟩⟩
  · have i1 := I1.1
    have i2 := I2.1
    have i3 := I3.1
    rw [fLayout_measure_l1]
    simp only [yjn, yvl, yck, ygi, ygr, ysi, ysz, ft4 F0, zA4, if_true, hc, show (b : Int) < (n : Int) by omega, g5, q1, ybd_s, ft4 i1, fp4_1 i1, show ¬ B p 0 = 0 by omega, if_false, bh1.1, zA0, q6.1.1, ft5 i1, fl5 i1, hb20, and_self, true_and, Int.toNat_natCast, eW, ← e2, ft4 i2, fp4_2 i2, bh2.1, rf]
    have eg : ∀ v, vF = v → zwr H2 (X + 6) b v = H3 := fun v w => by rw [e3, w]
    have eh : ∀ v, vL = v → zwr H3 (X + 7) b v = H4 := fun v w => by rw [e4, w]
    rcases F01 with w | w
    · rcases L01 with w' | w'
      · simp only [w, if_true, true_or, true_and, ft6 i2, fl6 i2, hb20, eg 0 w, ft4 i3, zA4, bh3.1, zA0, rl, w', ybd_s, fp4_3 i3, ft7 i3, fl7 i3, eh 0 w', eb1]
      · simp only [w, if_true, true_or, or_true, true_and, ft6 i2, fl6 i2, hb20, eg 0 w, ft4 i3, zA4, bh3.1, zA0, rl, w', Int.reduceEq, if_false, ybd_s, fp4_3 i3, ft7 i3, fl7 i3, eh 1 w', eb1]
    · rcases L01 with w' | w'
      · simp only [w, if_true, true_or, or_true, true_and, ft6 i2, fl6 i2, hb20, eg 1 w, ft4 i3, zA4, bh3.1, zA0, rl, w', Int.reduceEq, if_false, ybd_s, fp4_3 i3, ft7 i3, fl7 i3, eh 0 w', eb1]
      · simp only [w, if_true, true_or, or_true, true_and, ft6 i2, fl6 i2, hb20, eg 1 w, ft4 i3, zA4, bh3.1, zA0, rl, w', Int.reduceEq, if_false, ybd_s, fp4_3 i3, ft7 i3, fl7 i3, eh 1 w', eb1]
  · have b8 : (m - 1 : Nat) < 8 := by omega
    have b80 : 0 < 8 := by omega
    have b20 : b < 20 := by omega
    have z17 : ∀ v, zup s1 37 b v 17 = s1 17 := fun v => zup_o (by omega)
    have z16 : ∀ v u, zup (zup s1 37 b v) 39 b u 0 16 = (m : Int) := fun v u => m16
    have z17' : ∀ v u, zup (zup s1 37 b v) 39 b u 17 = s1 17 := fun v u => by rw [zup_o (by omega), zup_o (by omega)]
    have z37 : ∀ v u x, zup (zup (zup s1 37 b v) 39 b u) 38 b x 37 b = v := fun v u x => by rw [zup_o (by omega), zup_o (by omega), zup_r]; exact if_pos rfl
    have r0 : ∀ (g : Int → Option (Int × zSg)) v, yrd 8 17 0 (zup s1 37 b v) g = g (s1 17 0) := fun g v => by rw [← z17 v]; exact yrd_n b80
    have wz : ∀ (k : Nat) (v : Int) (g : zSg → Option (Int × zSg)) (S : zSg), (v = 0 ∨ v = 1) → ywz 20 k (b : Int) v S g = g (zup S k b v) := fun k v g S hv => by
      unfold ywz
      rw [if_pos ⟨hv, by omega, by omega⟩, Int.toNat_natCast]
    have sb' : ∀ u v, vF = u → vL = v → zup (zup (zup s1 37 b (2 + 3 * (m : Int))) 39 b u) 38 b v = sB := fun u v h1 h2 => by rw [esB, h1, h2]
    have r38 : sB 37 b = 2 + 3 * (m : Int) := by rw [s37, if_pos rfl]
    have fin : ∀ (g : Int → Option (Int × zSg)), yrd 20 37 (b : Int) sB g = g (2 + 3 * (m : Int)) := fun g => by rw [yrd_n b20, r38]
    rw [gM_pages_l7]
    simp only [yjn, yvl, show (b : Int) < (n : Int) by omega, if_true, q2, ybd_s, m16, eW, ywi_n b20, r0]
    rcases F01 with w | w
    · have w0 : ¬ s1 17 0 = -1000 := fun e => by rw [if_pos e] at eF; omega
      rcases L01 with w' | w'
      · have w0' : ¬ s1 17 (m - 1) = -1000 := fun e => by rw [if_pos e] at eL; omega
        simp only [w0, if_false, wz _ 0 _ _ (Or.inl rfl), z16, em1, yrd_n b8, z17', w0', sb' 0 0 w w', fin, eb1]
      · have w0' : s1 17 (m - 1) = -1000 := Decidable.byContradiction fun e => by rw [if_neg e] at eL; omega
        simp only [w0, if_false, wz _ 0 _ _ (Or.inl rfl), z16, em1, yrd_n b8, z17', w0', if_true, wz _ 1 _ _ (Or.inr rfl), sb' 0 1 w w', fin, eb1]
    · have w0 : s1 17 0 = -1000 := Decidable.byContradiction fun e => by rw [if_neg e] at eF; omega
      rcases L01 with w' | w'
      · have w0' : ¬ s1 17 (m - 1) = -1000 := fun e => by rw [if_pos e] at eL; omega
        simp only [w0, if_true, wz _ 1 _ _ (Or.inr rfl), z16, em1, yrd_n b8, z17', w0', if_false, wz _ 0 _ _ (Or.inl rfl), sb' 1 0 w w', fin, eb1]
      · have w0' : s1 17 (m - 1) = -1000 := Decidable.byContradiction fun e => by rw [if_neg e] at eL; omega
        simp only [w0, if_true, wz _ 1 _ _ (Or.inr rfl), z16, em1, yrd_n b8, z17', w0', sb' 1 1 w w', fin, eb1]
  · rw [e4, e3, e2]
    exact (((FrX.bx px q4).wr (by omega)).wr (by omega)).wr (by omega)
  · rw [c4 _ _ (by omega), c3 _ _ (by omega), c2 _ _ (by omega), cb _ _ (by omega)]; exact hc
  · rw [c4 _ _ (by omega), c3 _ _ (by omega), r2, if_pos rfl]
  · rw [c4 _ _ (by omega), r3, if_pos rfl]
  · rw [r4, if_pos rfl]
  · rw [s37, if_pos rfl]
  · rw [s39, if_pos rfl]
  · rw [s38, if_pos rfl]
  · rw [c4 _ _ (by omega), c3 _ _ (by omega), r2, if_neg hj, cb _ _ (by omega)]
  · rw [c4 _ _ (by omega), r3, if_neg hj, c2 _ _ (by omega), cb _ _ (by omega)]
  · rw [r4, if_neg hj, c3 _ _ (by omega), c2 _ _ (by omega), cb _ _ (by omega)]
  · rw [s37, if_neg hj, o37]
  · rw [s39, if_neg hj, o39]
  · rw [s38, if_neg hj, o38]
end PAGES
