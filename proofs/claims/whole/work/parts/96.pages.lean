section FILL3
variable {X : Nat} {s : zSg} {A : Nat → Nat} {B : Nat → Nat → Nat} {K : Nat → Nat} {ow : Nat → Nat × Nat} {n ln : Nat} {w wh : Int}
theorem place1 (n20 : n ≤ 20) (hw : 5 ≤ w ∧ w ≤ 99) (hl : ln ≤ 4) {b k : Nat} (hk : k < ln) (hb : b < n) {H : zHp} {sA : zSg} (I : IV X H s A B K ow) (z : zfs [11] s sA) (hc : zct H (X + 4) 0 = (n : Int)) (ms : MSd X H sA w n) (fi : FIn X H sA n ln b k) :
    ∃ (H' : zHp) (sB : zSg), (∀ (f : Nat) Q, fLayout_fill_l2 (f + 1) (X + 4) w (ln : Int) (b : Int) (k : Int) H Q = fLayout_fill_l2 f (X + 4) w (ln : Int) (b : Int) ((k + 1 : Nat) : Int) H' Q) ∧ (∀ (f : Nat) Q, gM_pages_l17 (f + 1) w (ln : Int) wh (n : Int) (b : Int) (k : Int) sA Q = gM_pages_l17 f w (ln : Int) wh (n : Int) (b : Int) ((k + 1 : Nat) : Int) sB Q) ∧ IV X H' s A B K ow ∧ zfs [11] s sB ∧ FrX X H H' ∧ zct H' (X + 4) 0 = (n : Int) ∧ MSd X H' sB w n ∧ FIn X H' sB n ln b (k + 1) := by
  have F0 := I.1
  have e1 : zadd (zmul (b : Int) 4) (k : Int) = ((4 * b + k : Nat) : Int) := by rw [zmul_e (by omega) (by omega), zadd_e (by omega) (by omega)]; omega
  have e1' : zadd (zmul 4 (b : Int)) (k : Int) = ((4 * b + k : Nat) : Int) := by rw [zmul_e (by omega) (by omega), zadd_e (by omega) (by omega)]; omega
  have e2 : zadd (b : Int) 1 = ((b + 1 : Nat) : Int) := by rw [zadd_e (by omega) (by omega)]; omega
  have e3 : zadd (k : Int) 1 = ((k + 1 : Nat) : Int) := by rw [zadd_e (by omega) (by omega)]; omega
  have at84 : 0 ≤ ((4 * b + k : Nat) : Int) ∧ ((4 * b + k : Nat) : Int) < ((84 : Nat) : Int) := by omega
  have a84 : 4 * b + k < 84 := by omega
  obtain ⟨H1, h1⟩ : ∃ H1, H1 = zwr H (X + 9) (4 * b + k) 0 := ⟨_, rfl⟩
  have I1 : IV X H1 s A B K ow := by rw [h1]; exact I.w11 (o := 9) (by omega) rfl
  have fr1 : FrX X H H1 := by rw [h1]; exact FrX.rf.wr (by omega)
  have o1 : ∀ q i, ¬ (q = X + 9 ∧ i = 4 * b + k) → zct H1 q i = zct H q i := fun q i x => by rw [h1, zct_wr, if_neg x]
  have ms1 : MSd X H1 sA w n := fun j hj => by
    rw [o1 _ _ (by omega), o1 _ _ (by omega), o1 _ _ (by omega)]; exact ms j hj
  have fi1 : FIn X H1 sA n ln b k := ⟨fun e i x1 x2 x3 x4 => by
    rw [o1 _ _ (by omega), o1 _ _ (by omega)]; exact fi.1 e i x1 x2 x3 x4, fi.2⟩
  obtain ⟨H2, sB, best', j1, j2, j3, j4, j5, j6, j7, j8, j9, j10, j11⟩ := line_l (wh := wh) n20 hw hl hk hb (n + 1 - (b + 1)) zFU zFU (b + 1) 0 (-1) H1 sA rfl (by rw [zFU_e]; omega) (by rw [zFU_e]; omega) (by omega) (by omega) I1 z (by rw [o1 _ _ (by omega)]; exact hc) ms1 fi1 (by omega) (Or.inl ⟨rfl, rfl, rfl, by rw [h1, zct_wr, if_pos ⟨rfl, rfl⟩]⟩)
  rw [Nat.add_sub_cancel] at j2
  obtain ⟨sC, hC⟩ : ∃ sC, sC = zup sB 40 (4 * b + k) best' := ⟨_, rfl⟩
  have c40 : ∀ i, sC 40 i = if i = 4 * b + k then best' else sB 40 i := fun i => by rw [hC, zup_r]
  have co : ∀ r, r ≠ 40 → sC r = sB r := fun r h => by rw [hC, zup_o h]
  refine ⟨H2, sC, fun f Q => ?_, fun f Q => ?_, j3, by rw [hC]; exact j4.up (by omega) rfl, fr1.tr j5, ?_, fun j hj => ?_, fun e i x1 x2 x3 x4 => ?_, fun i hi => ?_⟩
  · rw [fLayout_fill_l2]
    unfold fLayout_fillLine
    simp only [yvl, yck, ygr, ysi, ft4 F0, zA4, if_true, show (k : Int) < (ln : Int) by omega, show (k : Int) < 4 by omega, e1, fp4_5 F0, ft9 F0, fl9 F0, at84, and_self, true_and, Int.toNat_natCast, ← h1, e2, j1, ybd_s, e3]
  · rw [gM_pages_l17]
    simp only [show (k : Int) < (ln : Int) by omega, if_true, j2, e1', ywi_n a84, yvl, e3, ← hC]
  · rw [j6 _ _ (by omega) (by omega), o1 _ _ (by omega)]; exact hc
  · rw [j6 _ _ (by omega) (by omega), j6 _ _ (by omega) (by omega), j6 _ _ (by omega) (by omega), co 37 (by omega), co 38 (by omega), co 39 (by omega), j7 _ _ (by omega), j7 _ _ (by omega), j7 _ _ (by omega)]
    exact ms1 j hj
  · by_cases c : e = b ∧ i = k
    · obtain ⟨rfl, rfl⟩ := c
      rw [c40, if_pos rfl, co 41 (by omega)]
      exact ⟨j9, j11, j8, j10⟩
    · rw [j6 _ _ (by omega) (by omega), j6 _ _ (by omega) (by omega), c40, if_neg (by omega), co 41 (by omega), j7 _ _ (by omega), j7 _ _ (by omega)]
      exact fi1.1 e i x1 x2 x3 (by omega)
  · rw [c40, if_neg (by omega), j7 _ _ (by omega)]
    exact fi1.2 i hi
theorem place_l (n20 : n ≤ 20) (hw : 5 ≤ w ∧ w ≤ 99) (hl : ln ≤ 4) {b : Nat} (hb : b < n) : ∀ (d f1 f2 k : Nat) (H : zHp) (sA : zSg), ln - k = d → d < f1 → d < f2 → k ≤ ln → IV X H s A B K ow → zfs [11] s sA → zct H (X + 4) 0 = (n : Int) → MSd X H sA w n → FIn X H sA n ln b k →
    ∃ (H' : zHp) (sB : zSg), (∀ Q, fLayout_fill_l2 f1 (X + 4) w (ln : Int) (b : Int) (k : Int) H Q = Q (X + 4) w (ln : Int) (b : Int) H') ∧ (∀ Q, gM_pages_l17 f2 w (ln : Int) wh (n : Int) (b : Int) (k : Int) sA Q = Q w (ln : Int) wh (n : Int) (b : Int) sB) ∧ IV X H' s A B K ow ∧ zfs [11] s sB ∧ FrX X H H' ∧ zct H' (X + 4) 0 = (n : Int) ∧ MSd X H' sB w n ∧ FIn X H' sB n ln b ln := by
  intro d
  induction d with
  | zero =>
    intro f1 f2 k H sA h1 h2 h3 h4 I z hc ms fi
    obtain ⟨f1, rfl⟩ : ∃ f', f1 = f' + 1 := ⟨f1 - 1, by omega⟩
    obtain ⟨f2, rfl⟩ : ∃ f', f2 = f' + 1 := ⟨f2 - 1, by omega⟩
    obtain rfl : k = ln := by omega
    refine ⟨H, sA, fun Q => ?_, fun Q => ?_, I, z, FrX.rf, hc, ms, fi⟩
    · rw [fLayout_fill_l2, if_neg (by omega)]
    · rw [gM_pages_l17, if_neg (by omega)]
  | succ d ih =>
    intro f1 f2 k H sA h1 h2 h3 h4 I z hc ms fi
    obtain ⟨f1, rfl⟩ : ∃ f', f1 = f' + 1 := ⟨f1 - 1, by omega⟩
    obtain ⟨f2, rfl⟩ : ∃ f', f2 = f' + 1 := ⟨f2 - 1, by omega⟩
    obtain ⟨H1, s1, q1, q2, q3, q4, q5, q6, q7, q8⟩ := place1 (wh := wh) n20 hw hl (k := k) (by omega) hb I z hc ms fi
    obtain ⟨H2, s2, j1, j2, j3, j4, j5, j6⟩ := ih f1 f2 (k + 1) H1 s1 (by omega) (by omega) (by omega) (by omega) q3 q4 q6 q7 q8
    exact ⟨H2, s2, fun Q => (q1 f1 Q).trans (j1 Q), fun Q => (q2 f2 Q).trans (j2 Q), j3, j4, q5.tr j5, j6⟩
theorem begin_l (n20 : n ≤ 20) (hw : 5 ≤ w ∧ w ≤ 99) (hl : ln ≤ 4) : ∀ (d f1 f2 : Nat) (H : zHp) (sA : zSg), d ≤ n → d < f1 → d < f2 → IV X H s A B K ow → zfs [11] s sA → zct H (X + 4) 0 = (n : Int) → MSd X H sA w n → FIn X H sA n ln d ln →
    ∃ (H' : zHp) (sB : zSg), fLayout_fill_l1 f1 (X + 4) w (ln : Int) ((d : Int) - 1) H = some ((), H') ∧ (∀ Q, gM_pages_l16 f2 w (ln : Int) wh (n : Int) ((d : Int) - 1) sA Q = Q (ln : Int) wh (n : Int) sB) ∧ IV X H' s A B K ow ∧ zfs [11] s sB ∧ FrX X H H' ∧ zct H' (X + 4) 0 = (n : Int) ∧ FIn X H' sB n ln 0 ln := by
  intro d
  induction d with
  | zero =>
    intro f1 f2 H sA h1 h2 h3 I z hc ms fi
    obtain ⟨f1, rfl⟩ : ∃ f', f1 = f' + 1 := ⟨f1 - 1, by omega⟩
    obtain ⟨f2, rfl⟩ : ∃ f', f2 = f' + 1 := ⟨f2 - 1, by omega⟩
    refine ⟨H, sA, ?_, fun Q => ?_, I, z, FrX.rf, hc, fi⟩
    · rw [fLayout_fill_l1, if_pos (by omega)]
    · rw [gM_pages_l16, if_pos (by omega)]
  | succ d ih =>
    intro f1 f2 H sA h1 h2 h3 I z hc ms fi
    obtain ⟨f1, rfl⟩ : ∃ f', f1 = f' + 1 := ⟨f1 - 1, by omega⟩
    obtain ⟨f2, rfl⟩ : ∃ f', f2 = f' + 1 := ⟨f2 - 1, by omega⟩
    obtain ⟨H1, s1, q1, q2, q3, q4, q5, q6, q7, q8⟩ := place_l (wh := wh) n20 hw hl (b := d) (by omega) ln zFU zFU 0 H sA (by omega) (by rw [zFU_e]; omega) (by rw [zFU_e]; omega) (by omega) I z hc ms ⟨fun e i x1 x2 x3 x4 => fi.1 e i (by omega) x2 x3 (by omega), fi.2⟩
    obtain ⟨H2, s2, j1, j2, j3⟩ := ih f1 f2 H1 s1 (by omega) (by omega) (by omega) q3 q4 q6 q7 q8
    have ed : ((d + 1 : Nat) : Int) - 1 = (d : Int) := by omega
    have e1 : zadd (d : Int) (-1) = (d : Int) - 1 := zadd_e (by omega) (by omega)
    have q1' : ∀ Q, fLayout_fill_l2 zFU (X + 4) w (ln : Int) (d : Int) 0 H Q = Q (X + 4) w (ln : Int) (d : Int) H1 := q1
    have q2' : ∀ Q, gM_pages_l17 zFU w (ln : Int) wh (n : Int) (d : Int) 0 sA Q = Q w (ln : Int) wh (n : Int) (d : Int) s1 := q2
    refine ⟨H2, s2, ?_, fun Q => ?_, j3.1, j3.2.1, q5.tr j3.2.2.1, j3.2.2.2⟩
    · rw [ed, fLayout_fill_l1, if_neg (by omega), q1']
      simp only [yvl, e1]
      exact j1
    · rw [ed, gM_pages_l16, if_neg (by omega), q2']
      simp only [yvl, e1]
      exact j2 Q
theorem zero_l {sA : zSg} (n20 : n ≤ 20) (z : zfs [11] s sA) : ∀ (d f k : Nat) (s1 : zSg), 4 - k = d → d < f → k ≤ 4 → zfs [11] s s1 → (∀ r, r ≠ 40 → s1 r = sA r) → (∀ i, i < k → s1 40 (4 * n + i) = 0) → ∃ sB, (∀ Q, gM_pages_l14 f w (ln : Int) wh (n : Int) (k : Int) s1 Q = Q w (ln : Int) wh (n : Int) sB) ∧ zfs [11] s sB ∧ (∀ r, r ≠ 40 → sB r = sA r) ∧ ∀ i, i < 4 → sB 40 (4 * n + i) = 0 := by
  intro d
  induction d with
  | zero =>
    intro f k s1 h1 h2 h3 z1 ho h0
    obtain ⟨f, rfl⟩ : ∃ f', f = f' + 1 := ⟨f - 1, by omega⟩
    refine ⟨s1, fun Q => ?_, z1, ho, fun i hi => h0 i (by omega)⟩
    rw [gM_pages_l14, if_neg (by omega)]
  | succ d ih =>
    intro f k s1 h1 h2 h3 z1 ho h0
    obtain ⟨f, rfl⟩ : ∃ f', f = f' + 1 := ⟨f - 1, by omega⟩
    have e1 : zadd (zmul 4 (n : Int)) (k : Int) = ((4 * n + k : Nat) : Int) := by rw [zmul_e (by omega) (by omega), zadd_e (by omega) (by omega)]; omega
    have e3 : zadd (k : Int) 1 = ((k + 1 : Nat) : Int) := by rw [zadd_e (by omega) (by omega)]; omega
    have a84 : 4 * n + k < 84 := by omega
    obtain ⟨sB, j1, j2⟩ := ih f (k + 1) (zup s1 40 (4 * n + k) 0) (by omega) (by omega) (by omega) (z1.up (by omega) rfl) (fun r hr => by rw [zup_o hr]; exact ho r hr) (fun i hi => by
      rw [zup_r]
      dsimp only
      by_cases c : i = k
      · rw [if_pos (by omega)]
      · rw [if_neg (by omega)]; exact h0 i (by omega))
    refine ⟨sB, fun Q => ?_, j2⟩
    rw [← j1 Q, gM_pages_l14, if_pos (by omega)]
    simp only [e1, ywi_n a84, yvl, e3]
/-! what is told of the layout -/
theorem mod_up {l ln : Nat} (h1 : 1 ≤ ln) (h4 : ln ≤ 4) : (l + 1) % ln = if l % ln + 1 < ln then l % ln + 1 else 0 := by
  rcases (show ln = 1 ∨ ln = 2 ∨ ln = 3 ∨ ln = 4 by omega) with rfl | rfl | rfl | rfl <;> split <;> omega
theorem e_behind {H : zHp} {k : Nat} (h4 : ln ≤ 4) (hk : k < ln) : fLayout_placeBehind (k : Int) (ln : Int) H = some (((if k + 1 < ln then k + 1 else 0 : Nat) : Int), H) := by
  have e3 : zadd (k : Int) 1 = ((k + 1 : Nat) : Int) := by rw [zadd_e (by omega) (by omega)]; omega
  unfold fLayout_placeBehind
  rw [e3]
  by_cases c : k + 1 < ln
  · rw [if_pos (by omega), if_pos c]
  · rw [if_neg (by omega), if_neg c]; rfl
theorem walk_c {H : zHp} {sA : zSg} (F0 : IFx X H) (n20 : n ≤ 20) (l1 : 1 ≤ ln) (hl : ln ≤ 4) (hc : zct H (X + 4) 0 = (n : Int)) (fi : FIn X H sA n ln 0 ln) : ∀ (d f1 f2 bar line : Nat), n - bar ≤ d → d < f1 → d < f2 → bar ≤ n → line ≤ bar → ∃ c : Int, fLayout_lineCount_l1 f1 (X + 4) (ln : Int) (line : Int) ((line % ln : Nat) : Int) (bar : Int) H = some (c, H) ∧ ∀ Q, gM_pages_l32 f2 (ln : Int) 1 (n : Int) (bar : Int) (line : Int) sA Q = Q 1 c sA := by
  intro d
  induction d with
  | zero =>
    intro f1 f2 bar line h1 h2 h3 h4 h5
    obtain ⟨f1, rfl⟩ : ∃ f', f1 = f' + 1 := ⟨f1 - 1, by omega⟩
    obtain ⟨f2, rfl⟩ : ∃ f', f2 = f' + 1 := ⟨f2 - 1, by omega⟩
    refine ⟨(line : Int), ?_, fun Q => ?_⟩
    · rw [fLayout_lineCount_l1]
      simp only [ygi, ft4 F0, zA4, if_true, hc]
      rw [if_neg (show ¬ (bar : Int) < (n : Int) by omega)]
      split <;> rfl
    · rw [gM_pages_l32, if_neg (by omega)]
  | succ d ih =>
    intro f1 f2 bar line h1 h2 h3 h4 h5
    by_cases g : bar < n
    · obtain ⟨f1, rfl⟩ : ∃ f', f1 = f' + 1 := ⟨f1 - 1, by omega⟩
      obtain ⟨f2, rfl⟩ : ∃ f', f2 = f' + 1 := ⟨f2 - 1, by omega⟩
      have hm : line % ln < ln := Nat.mod_lt _ (by omega)
      obtain ⟨-, x2, -, x4, x5⟩ := fi.1 bar (line % ln) (by omega) g hm (Or.inr hm)
      obtain ⟨T, eT⟩ : ∃ T : Nat, sA 41 (4 * bar + line % ln) = (T : Int) := ⟨(sA 41 (4 * bar + line % ln)).toNat, by omega⟩
      rw [eT] at x2 x4 x5
      obtain ⟨c, j1, j2⟩ := ih f1 f2 (bar + T) (line + 1) (by omega) (by omega) (by omega) (by omega) (by omega)
      have e1 : zadd (zmul (bar : Int) 4) ((line % ln : Nat) : Int) = ((4 * bar + line % ln : Nat) : Int) := by rw [zmul_e (by omega) (by omega), zadd_e (by omega) (by omega)]; omega
      have e1' : zadd (zmul 4 (bar : Int)) ((line % ln : Nat) : Int) = ((4 * bar + line % ln : Nat) : Int) := by rw [zmul_e (by omega) (by omega), zadd_e (by omega) (by omega)]; omega
      have e2 : zadd (bar : Int) (T : Int) = ((bar + T : Nat) : Int) := by rw [zadd_e (by omega) (by omega)]; omega
      have e3 : zadd (line : Int) 1 = ((line + 1 : Nat) : Int) := by rw [zadd_e (by omega) (by omega)]; omega
      have e4 : zrem (line : Int) (ln : Int) = ((line % ln : Nat) : Int) := zrem_n (by omega) (by omega) (by omega)
      have e5 : zadd 10 (line : Int) = 10 + (line : Int) := zadd_e (by omega) (by omega)
      have at84 : 0 ≤ ((4 * bar + line % ln : Nat) : Int) ∧ ((4 * bar + line % ln : Nat) : Int) < ((84 : Nat) : Int) := by omega
      have a84 : 4 * bar + line % ln < 84 := by omega
      refine ⟨c, ?_, fun Q => ?_⟩
      · rw [← j1, mod_up l1 hl, fLayout_lineCount_l1]
        simp only [yvl, ygi, ygr, yai, ft4 F0, zA4, if_true, hc, show (line : Int) < 20 by omega, show (bar : Int) < (n : Int) by omega, fp4_5 F0, ft9 F0, fl9 F0, e1, at84, and_self, true_or, true_and, Int.toNat_natCast, x2, e2, e_behind hl hm, ybd_s, e3]
      · rw [← j2 Q, gM_pages_l32, if_pos (by omega)]
        simp only [yvl, ydv, e4, e1', yrd_n a84, eT, e5, e2, e3]
        rw [if_neg (by omega), if_neg (by omega)]
    · obtain ⟨c, j1, j2⟩ := ih f1 f2 bar line (by omega) (by omega) (by omega) h4 h5
      exact ⟨c, j1, j2⟩
theorem walk_b {H : zHp} {sA : zSg} (F0 : IFx X H) (n20 : n ≤ 20) (l1 : 1 ≤ ln) (hl : ln ≤ 4) (hc : zct H (X + 4) 0 = (n : Int)) (fi : FIn X H sA n ln 0 ln) {L : Int} : ∀ (d f1 f2 bar line : Nat), n - bar ≤ d → d < f1 → d < f2 → bar ≤ n → line ≤ bar → (line : Int) ≤ L → ∃ c : Int, fLayout_barsInLine_l1 f1 (X + 4) L (ln : Int) ((line % ln : Nat) : Int) (bar : Int) (line : Int) H (fun (x16 : Nat) (x17 : Int) (x18 : Int) (s19 : zHp) =>
   ygi 4 0 x16 s19 fun v20 =>
   if x18 < v20 then
     (ygr 4 5 x16 s19 fun p21 =>
     yai p21 (zadd (zmul x18 4) x17) s19 fun v22 =>
     some (v22, s19))
   else
     (some ((-1), s19))) = some (c, H) ∧ gM_pages_l32 f2 (ln : Int) (10 + L) (n : Int) (bar : Int) (line : Int) sA (fun (x210 : Int) (x211 : Int) (s212 : zSg) => if x210 = 1 then (some (x211, s212)) else (some ((-1), s212))) = some (c, sA) := by
  intro d
  induction d with
  | zero =>
    intro f1 f2 bar line h1 h2 h3 h4 h5 h6
    obtain ⟨f1, rfl⟩ : ∃ f', f1 = f' + 1 := ⟨f1 - 1, by omega⟩
    obtain ⟨f2, rfl⟩ : ∃ f', f2 = f' + 1 := ⟨f2 - 1, by omega⟩
    refine ⟨-1, ?_, ?_⟩
    · rw [fLayout_barsInLine_l1]
      simp only [ygi, ft4 F0, zA4, if_true, hc, show ¬ (bar : Int) < (n : Int) by omega, if_false]
      split
      · split <;> rfl
      · rfl
    · rw [gM_pages_l32, if_neg (by omega), if_neg (by omega)]
  | succ d ih =>
    intro f1 f2 bar line h1 h2 h3 h4 h5 h6
    by_cases g : bar < n
    · obtain ⟨f1, rfl⟩ : ∃ f', f1 = f' + 1 := ⟨f1 - 1, by omega⟩
      obtain ⟨f2, rfl⟩ : ∃ f', f2 = f' + 1 := ⟨f2 - 1, by omega⟩
      have hm : line % ln < ln := Nat.mod_lt _ (by omega)
      obtain ⟨-, x2, -, x4, x5⟩ := fi.1 bar (line % ln) (by omega) g hm (Or.inr hm)
      obtain ⟨T, eT⟩ : ∃ T : Nat, sA 41 (4 * bar + line % ln) = (T : Int) := ⟨(sA 41 (4 * bar + line % ln)).toNat, by omega⟩
      rw [eT] at x2 x4 x5
      have e1 : zadd (zmul (bar : Int) 4) ((line % ln : Nat) : Int) = ((4 * bar + line % ln : Nat) : Int) := by rw [zmul_e (by omega) (by omega), zadd_e (by omega) (by omega)]; omega
      have e1' : zadd (zmul 4 (bar : Int)) ((line % ln : Nat) : Int) = ((4 * bar + line % ln : Nat) : Int) := by rw [zmul_e (by omega) (by omega), zadd_e (by omega) (by omega)]; omega
      have e2 : zadd (bar : Int) (T : Int) = ((bar + T : Nat) : Int) := by rw [zadd_e (by omega) (by omega)]; omega
      have e3 : zadd (line : Int) 1 = ((line + 1 : Nat) : Int) := by rw [zadd_e (by omega) (by omega)]; omega
      have e4 : zrem (line : Int) (ln : Int) = ((line % ln : Nat) : Int) := zrem_n (by omega) (by omega) (by omega)
      have e5 : zadd 10 (line : Int) = 10 + (line : Int) := zadd_e (by omega) (by omega)
      have at84 : 0 ≤ ((4 * bar + line % ln : Nat) : Int) ∧ ((4 * bar + line % ln : Nat) : Int) < ((84 : Nat) : Int) := by omega
      have a84 : 4 * bar + line % ln < 84 := by omega
      by_cases c : (line : Int) < L
      · obtain ⟨r, j1, j2⟩ := ih f1 f2 (bar + T) (line + 1) (by omega) (by omega) (by omega) (by omega) (by omega) (by omega)
        refine ⟨r, ?_, ?_⟩
        · rw [← j1, mod_up l1 hl, fLayout_barsInLine_l1]
          simp only [yvl, ygi, ygr, yai, ft4 F0, zA4, if_true, hc, c, show (line : Int) < 20 by omega, show (bar : Int) < (n : Int) by omega, fp4_5 F0, ft9 F0, fl9 F0, e1, at84, and_self, true_or, true_and, Int.toNat_natCast, x2, e2, e_behind hl hm, ybd_s, e3]
        · rw [← j2, gM_pages_l32, if_pos (by omega)]
          simp only [yvl, ydv, e4, e1', yrd_n a84, eT, e5, e2, e3]
          rw [if_neg (by omega), if_neg (by omega)]
      · refine ⟨(T : Int), ?_, ?_⟩
        · rw [fLayout_barsInLine_l1, if_neg c]
          simp only [ygi, ygr, yai, ft4 F0, zA4, if_true, hc, show (bar : Int) < (n : Int) by omega, fp4_5 F0, ft9 F0, fl9 F0, e1, at84, and_self, true_or, true_and, Int.toNat_natCast, x2]
        · rw [gM_pages_l32, if_pos (by omega)]
          simp only [yvl, ydv, e4, e1', yrd_n a84, eT, e5, e2, e3]
          rw [if_neg (by omega), if_pos (by omega)]
    · obtain ⟨r, j1, j2⟩ := ih f1 f2 bar line (by omega) (by omega) (by omega) h4 h5 h6
      exact ⟨r, j1, j2⟩
set_option maxRecDepth 100000 in
theorem k_pages {H : zHp} (I : IV X H s A B K ow) {t w' l' h' : Int} (hh : zR32 h') : wX (fH_pages X t w' l' h' H) fun x H' => wX (gM_pages t w' l' h' s) fun v s' => v = x ∧ KD X H H' s' := by
  have F := I.1
  have hn := I.n
  have hX := F.2.1.1
  have hh2 := hh.2
  unfold fH_pages gM_pages
  simp only [wX_s, wX_bd, wX_vl, wX_jn, wX_ite, wX_dv, wX_n0, wX_rb, wX_rc, wX_ry, wX_gi, wX_gr, wX_pi, wX_pz, wX_pr, wX_ai, wX_ab, wX_ar, wX_si, wX_sz, wX_sb, wX_sr, wX_ln, wX_nw, wX_na, wX_nm, wX_io, wX_ck, wX_cp, wX_cl, wX_ca, wX_sv, wX_sc, wX_rd, wX_wi, wX_wz, wX_wb, e_thingAt I, mi_isThing I, e_partAt I, e_in, e_within, i01, ft0 F, zA10, true_and]
  by_cases h : 0 ≤ t ∧ t ≤ s 0 2 - 1
  · have ht : ((t.toNat : Nat) : Int) < s 0 2 := by omega
    have et : ((t.toNat : Nat) : Int) = t := by omega
    have hp := I.pos ht
    simp only [h, and_self, true_and, if_true, not_true, if_false, show ¬ A t.toNat = 0 by omega, mi_isPart I h, wX_s, i01]
    by_cases h1 : h' < 0
    · simp only [h1, if_true]
      (first | exact KD.rf I | exact ⟨trivial, KD.rf I⟩ | exact ⟨rfl, KD.rf I⟩)
    · simp only [h1, if_false]
      by_cases h2 : 2 ≤ h' ∧ h' ≤ 9
      · simp only [h2, and_self, not_true, if_false]
        (first | exact KD.rf I | exact ⟨trivial, KD.rf I⟩ | exact ⟨rfl, KD.rf I⟩)
      · simp only [h2, not_false_iff, if_true]
        by_cases hk : s 3 t.toNat = 2 ∨ s 3 t.toNat = 5
        · simp only [hk, if_true, not_true, if_false, show ¬ A t.toNat = 0 by omega]
          by_cases h3 : 5 ≤ w' ∧ w' ≤ 99
          · simp only [h3, and_self, not_true, if_false]
            by_cases h4 : 1 ≤ l' ∧ l' ≤ 4
            · obtain ⟨ln, rfl⟩ : ∃ ln : Nat, l' = (ln : Int) := ⟨l'.toNat, by omega⟩
              have g5 := I.tg ht (c := 5) (tgk_5.mpr hk)
              have mb := m_barsOf I ht hk
              rw [et] at mb
              obtain ⟨⟨p1, p2⟩, p3, ⟨p4, p5⟩, p6, -⟩ := (I.st ht).2.2.1 hk
              have hu : (((s 4 t.toNat).toNat : Nat) : Int) < s 0 2 := by omega
              have hs := (I.st hu).2.1 p3
              have hs6 := hs.2.1
              have hwb := wholeN_b (v := (s 5 t.toNat).toNat) (by omega) hs
              obtain ⟨n, en⟩ : ∃ n : Nat, wholeN s (s 4 t.toNat).toNat (s 5 t.toNat).toNat = (n : Int) := ⟨(wholeN s (s 4 t.toNat).toNat (s 5 t.toNat).toNat).toNat, by omega⟩
              have n20 : n ≤ 20 := by omega
              obtain ⟨H0, e0⟩ : ∃ H0, H0 = zwr H (X + 4) 0 (n : Int) := ⟨_, rfl⟩
              have I0 : IV X H0 s A B K ow := by rw [e0]; exact I.w11 (o := 4) (by omega) rfl
              have fr0 : FrX X H H0 := by rw [e0]; exact FrX.rf.wr (by omega)
              have hc0 : zct H0 (X + 4) 0 = (n : Int) := by rw [e0, zct_wr, if_pos ⟨rfl, rfl⟩]
              have em : zmin (n : Int) 20 = (n : Int) := by unfold zmin; split <;> omega
              obtain ⟨H1, s1, q1, I1, z1, fr1, hc1, q2⟩ := meas_j (w := w') (ln := (ln : Int)) (wh := h') ht hk en n20 n zFU zFU 0 H0 s (by omega) (by rw [zFU_e]; omega) (by rw [zFU_e]; omega) (by omega) I0 zfs.rf hc0 (fun j hj => absurd hj (by omega))
              rw [et] at q2
              have q1' : fLayout_measure (X + 4) (A t.toNat) H = some ((), H1) := by
                unfold fLayout_measure
                simp only [yck, ypi, g5, if_true, e_barCount I ht hk, ybd_s, ft4 F, zA4, en, em, ← e0]
                exact q1
              have F1 := I1.1
              obtain ⟨r, r0, r1, r2⟩ := e_fits (w := w') I1 n20 hc1
              simp only [h4, and_self, not_true, if_false, fp0_8 F, ft4 F, zA4, true_and, q1', wX_s, ft0 F1, zA10, fp0_8 F1, ft4 F1, r1, mb, en]
              have fr01 := fr0.tr fr1
              by_cases n0 : n = 0
              · subst n0
                have : r = 0 := by
                  rcases r0 with w | w
                  · exact w
                  · have := (r2.mp w).1; omega
                simp only [this, if_true, show ((0 : Nat) : Int) = 0 from rfl]
                (first | exact (KD.fx2 fr01 I1 zfs.rf) | exact ⟨trivial, (KD.fx2 fr01 I1 zfs.rf)⟩ | exact ⟨rfl, (KD.fx2 fr01 I1 zfs.rf)⟩ | (refine ⟨by omega, ?_⟩; exact (KD.fx2 fr01 I1 zfs.rf)))
              · simp only [show ¬ (n : Int) = 0 by omega, if_false]
                rcases q2 with ⟨k1, j, k2, k3⟩ | ⟨k1, k2⟩
                · have : r = 0 := by
                    rcases r0 with w | w
                    · exact w
                    · have := (r2.mp w).2 j k2; omega
                  have k1' := k1
                  simp only [this, if_true]
                  refine wX_e (k1 _) ?_
                  (first | exact (KD.fx2 fr01 I1 z1) | exact ⟨trivial, (KD.fx2 fr01 I1 z1)⟩ | exact ⟨rfl, (KD.fx2 fr01 I1 z1)⟩ | (refine ⟨by omega, ?_⟩; exact (KD.fx2 fr01 I1 z1)))
                · have : r = 1 := r2.mpr ⟨by omega, fun j hj => by have := (k2 j hj); omega⟩
                  obtain ⟨s2, y1, y2, y3, y4⟩ := zero_l (s := s) (n := n) (ln := ln) (w := w') (wh := h') n20 z1 4 zFU 0 s1 (by omega) (by rw [zFU_e]; omega) (by omega) z1 (fun _ _ => rfl) (fun i hi => absurd hi (by omega))
                  have ms2 : MSd X H1 s2 w' n := fun j hj => by rw [y3 37 (by omega), y3 38 (by omega), y3 39 (by omega)]; exact k2 j hj
                  obtain ⟨H3, s3, v1, v2, I3, z3, fr3, hc3, fi3⟩ := begin_l (s := s) (wh := h') n20 h3 (by omega : ln ≤ 4) n zFU zFU H1 s2 (Nat.le_refl _) (by rw [zFU_e]; omega) (by rw [zFU_e]; omega) I1 y2 hc1 ms2 ⟨fun e i x1 x2 => absurd x2 (by omega), y4⟩
                  have en1 : zsub (n : Int) 1 = (n : Int) - 1 := zsub_e (by omega) (by omega)
                  have vf : fLayout_fill (X + 4) w' (ln : Int) H1 = some ((), H3) := by
                    unfold fLayout_fill
                    simp only [ygi, ft4 F1, zA4, if_true, hc1, yvl, en1]
                    exact v1
                  have F3 := I3.1
                  have k1' : ∀ Q, gM_pages_l7 zFU t w' (ln : Int) h' (n : Int) 0 s Q = Q w' (ln : Int) h' (n : Int) s1 := k1
                  have y1' : ∀ Q, gM_pages_l14 zFU w' (ln : Int) h' (n : Int) 0 s1 Q = Q w' (ln : Int) h' (n : Int) s2 := y1
                  have kd := KD.fx2 (fr01.tr fr3) I3 z3
                  simp only [this, show ¬ (1 : Int) = 0 by omega, if_false, vf, wX_s, F3, ft0 F3, zA10, fp0_8 F3, ft4 F3, zA4, true_and, k1', y1', yvl, en1, v2]
                  by_cases hw0 : h' = 0
                  · have f0 := (fi3.1 0 0 (by omega) (by omega) (by omega) (by omega)).1
                    have lc : fLayout_leastCost (X + 4) H3 = some (s3 40 0, H3) := by
                      unfold fLayout_leastCost
                      have b84 : 0 ≤ (0 : Int) ∧ (0 : Int) < ((84 : Nat) : Int) := by omega
                      have f0' : zct H3 (X + 8) 0 = s3 40 0 := f0
                      simp only [ygr, yai, ft4 F3, zA4, if_true, fp4_4 F3, ft8 F3, fl8 F3, true_or, true_and, b84, show (0 : Int).toNat = 0 from rfl, f0']
                    have rd0 : ∀ g : Int → Option (Int × zSg), yrd 84 40 0 s3 g = g (s3 40 0) := fun g => yrd_n (show 0 < 84 by omega)
                    simp only [hw0, if_true, lc, wX_s, rd0]
                    (first | exact (kd) | exact ⟨trivial, (kd)⟩ | exact ⟨rfl, (kd)⟩ | (refine ⟨by omega, ?_⟩; exact (kd)))
                  · simp only [hw0, if_false]
                    by_cases hw1 : h' = 1
                    · obtain ⟨c, c1, c2⟩ := walk_c F3 n20 (by omega) (by omega) hc3 fi3 n zFU zFU 0 0 (by omega) (by rw [zFU_e]; omega) (by rw [zFU_e]; omega) (by omega) (by omega)
                      rw [Nat.zero_mod] at c1
                      have c1' : fLayout_lineCount (X + 4) (ln : Int) H3 = some (c, H3) := c1
                      have c2' : ∀ Q, gM_pages_l32 zFU (ln : Int) 1 (n : Int) 0 0 s3 Q = Q 1 c s3 := c2
                      simp only [hw1, if_true, c1', c2', wX_s]
                      (first | exact (kd) | exact ⟨trivial, (kd)⟩ | exact ⟨rfl, (kd)⟩ | (refine ⟨by omega, ?_⟩; exact (kd)))
                    · obtain ⟨c, c1, c2⟩ := walk_b F3 n20 (by omega) (by omega) hc3 fi3 (L := h' - 10) n zFU zFU 0 0 (by omega) (by rw [zFU_e]; omega) (by rw [zFU_e]; omega) (by omega) (by omega) (by omega)
                      rw [Nat.zero_mod] at c1
                      have e10 : zsub h' 10 = h' - 10 := zsub_e (by omega) (by omega)
                      have c1' : fLayout_barsInLine (X + 4) (h' - 10) (ln : Int) H3 = some (c, H3) := c1
                      rw [show 10 + (h' - 10) = h' by omega] at c2
                      simp only [hw1, if_false, e10, c1', wX_s]
                      refine wX_e c2 ?_
                      (first | exact (kd) | exact ⟨trivial, (kd)⟩ | exact ⟨rfl, (kd)⟩ | (refine ⟨by omega, ?_⟩; exact (kd)))
            · simp only [h4, not_false_iff, if_true]
              (first | exact KD.rf I | exact ⟨trivial, KD.rf I⟩ | exact ⟨rfl, KD.rf I⟩)
          · simp only [h3, not_false_iff, if_true]
            (first | exact KD.rf I | exact ⟨trivial, KD.rf I⟩ | exact ⟨rfl, KD.rf I⟩)
        · simp only [hk, if_false, if_true, not_false_iff]
          (first | exact KD.rf I | exact ⟨trivial, KD.rf I⟩ | exact ⟨rfl, KD.rf I⟩)
  · simp only [h, false_and, if_false, if_true, not_false_iff]
    (first | exact KD.rf I | exact ⟨trivial, KD.rf I⟩ | exact ⟨rfl, KD.rf I⟩)
end FILL3
