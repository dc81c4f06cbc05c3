/-! music -/
theorem zdiv_t {x y : Int} (hx : zR32 x) (hy : 0 < y) (hy2 : y < 2147483648) : zdiv x y = x.tdiv y := by
  unfold zdiv
  rw [Int32.toInt_div, zof hx, zof ⟨by omega, hy2⟩]
  have h1 := hx.1
  have h2 := hx.2
  refine zbm ?_
  by_cases h : 0 ≤ x
  · rw [Int.tdiv_eq_ediv_of_nonneg h]
    have := Int.ediv_nonneg h (show 0 ≤ y by omega)
    have := Int.ediv_le_self y h
    exact ⟨by omega, by omega⟩
  · have e : x.tdiv y = -((-x) / y) := by rw [← Int.tdiv_eq_ediv_of_nonneg (by omega), Int.neg_tdiv, Int.neg_neg]
    have := Int.ediv_nonneg (show 0 ≤ -x by omega) (show 0 ≤ y by omega)
    have := Int.ediv_le_self y (show 0 ≤ -x by omega)
    rw [e]
    exact ⟨by omega, by omega⟩
/-- a number below 0 spells no length -/
theorem zneg_len {x : Int} (hx : zR32 x) (h : x < 0) : zdiv (zrem x 100) 2 ≤ 0 := by
  have hd := zdiv_t hx (show (0 : Int) < 100 by omega) (by omega)
  have e : x.tdiv 100 = -((-x) / 100) := by rw [← Int.tdiv_eq_ediv_of_nonneg (by omega), Int.neg_tdiv, Int.neg_neg]
  have h1 := hx.1
  have hr : zrem x 100 = x - x.tdiv 100 * 100 := by
    unfold zdiv at hd
    unfold zrem
    rw [Int32.toInt_sub, Int32.toInt_mul, hd, zof hx, zof ⟨by omega, by omega⟩]
    show (x - (x.tdiv 100 * 100).bmod 4294967296).bmod 4294967296 = _
    rw [zbm (x := x.tdiv 100 * 100) ⟨by omega, by omega⟩, zbm ⟨by omega, by omega⟩]
  have hr2 : -100 < zrem x 100 ∧ zrem x 100 ≤ 0 := by omega
  rw [zdiv_t ⟨by omega, by omega⟩ (by omega) (by omega)]
  have e2 : (zrem x 100).tdiv 2 = -((-(zrem x 100)) / 2) := by rw [← Int.tdiv_eq_ediv_of_nonneg (by omega), Int.neg_tdiv, Int.neg_neg]
  omega
section MUSIC
variable {X : Nat} {H : zHp} {s : zSg} {A : Nat → Nat} {B : Nat → Nat → Nat} {K : Nat → Nat} {ow : Nat → Nat × Nat}
theorem IV.me (I : IV X H s A B K ow) {e : Int} (he : -1 ≤ e ∧ e ≤ 3) : IV X (zwr H X 5 e) (zup s 0 15 e) A B K ow := by
  refine I.fr (gs := [9]) (by repeat first | exact zst.rf | apply zst.wr) (by repeat first | exact zfx.rf | refine zfx.wr0 ?_ rfl | refine zfx.wr ?_ rfl) (fun q h1 h2 h3 k' => by rw [zct_wr, if_neg (by omega)]) (by repeat first | exact zfs.rf | refine zfs.up0 ?_ rfl | refine zfs.up ?_ (by decide) rfl) rfl rfl rfl rfl (Int.le_refl _) (Or.inl rfl) (Or.inl rfl) (Or.inl rfl) (Or.inl rfl) (Or.inl rfl) (Or.inl rfl) (Or.inr ?_)
  rw [zcx_wr0]
  exact ⟨rfl, he.1, he.2⟩
def isN (p l t : Int) : Prop := (0 ≤ p ∧ p ≤ 60) ∧ (1 ≤ l ∧ l ≤ 12) ∧ (0 ≤ t ∧ t ≤ 1) ∧ ¬ (p = 0 ∧ t = 1)
theorem e_tape1 (I : IV X H s A B K ow) {t v tp : Nat} (ht : (t : Int) < s 0 2) (hk : s 3 t = 1 ∨ s 3 t = 6) (hv : (v : Int) ≤ s 6 t - 1) (htp : tp < 6) {pl : Int} (hpl : -2147483648 ≤ pl ∧ pl ≤ 2147483747) (hso : s 78 tp = -1 ∨ s 78 tp = 1) :
    ∃ e H' s' B' ow', fH_takeFromTape X (A t) (v : Int) (tp : Int) pl H = some (e, H') ∧ IV X H' s' A B' K ow' ∧ KP X H H' ∧ sOth s s' ∧
      ((¬ (0 ≤ pl ∧ pl < s 79 tp) ∧ e = 1 ∧ s' = s) ∨ ((0 ≤ pl ∧ pl < s 79 tp) ∧ s 78 tp = 1 ∧ ((s 80 (60 * tp + pl.toNat) < 0 ∨ ¬ isN (s 80 (60 * tp + pl.toNat) / 100) (s 80 (60 * tp + pl.toNat) % 100 / 2) (s 80 (60 * tp + pl.toNat) % 100 % 2)) ∧ e = 2 ∧ s' = s ∨ 0 ≤ s 80 (60 * tp + pl.toNat) ∧ isN (s 80 (60 * tp + pl.toNat) / 100) (s 80 (60 * tp + pl.toNat) % 100 / 2) (s 80 (60 * tp + pl.toNat) % 100 % 2) ∧ ∃ r, gM_put (t : Int) (v : Int) (s 80 (60 * tp + pl.toNat) / 100) (s 80 (60 * tp + pl.toNat) % 100 / 2) (s 80 (60 * tp + pl.toNat) % 100 % 2) s = some (r, s') ∧ (r = 0 ∧ e = 0 ∨ r = -3 ∧ e = 2 ∨ r = -4 ∧ e = 3)))) := by
  have F := I.1
  obtain ⟨⟨a1, a2, a3⟩, ⟨g1, g2, g3, g4⟩, g5⟩ := I.2.1.2.2.2.2.2.2.1 tp htp
  have hst := e_hasStretch I (t := (tp : Int)) (f := pl) (n := 1) ⟨by omega, by omega⟩ ⟨by omega, by omega⟩
  rw [Int.toNat_natCast] at hst
  by_cases h1 : 0 ≤ pl ∧ pl < s 79 tp
  · have hs1 : s 78 tp = 1 := by
      rcases hso with w | w
      · have := g4 w; omega
      · exact w
    rw [if_pos ⟨⟨by omega, by omega⟩, h1.1, by omega, by omega⟩] at hst
    obtain ⟨q1, q2, q3⟩ := g5 pl.toNat (by omega)
    have q1' : zct H (X + (28 + tp)) pl.toNat = s 80 (60 * tp + pl.toNat) := q1
    have hx := q3 hs1
    have el : zl2i pl = pl := by
      unfold zl2i
      rw [Int64.toInt_toInt32, zof64 ⟨by omega, by omega⟩]
      exact zbm ⟨by omega, by omega⟩
    generalize hxx : s 80 (60 * tp + pl.toNat) = x at *
    have b1 : 0 ≤ (tp : Int) := by omega
    have b2 : (tp : Int) < ((6 : Nat) : Int) := by omega
    have b3 : pl < ((60 : Nat) : Int) := by omega
    have run : fH_takeFromTape X (A t) (v : Int) (tp : Int) pl H = ybd (fH_isNote (zdiv x 100) (zdiv (zrem x 100) 2) (zand x 1) H) fun v9 s10 => if v9 = 0 then some (2, s10) else ybd (fH_noteCode (zdiv x 100) (zdiv (zrem x 100) 2) (zand x 1) s10) fun v11 s12 => yck 8 (A t) s12 <| ybd (fScore_takeNote (A t) (v : Int) v11 s12) fun v13 s14 => if v13 = (-4) then some (3, s14) else if v13 = (-3) then some (2, s14) else some (0, s14) := by
      unfold fH_takeFromTape
      simp only [yck, ygr, yar, yai, yvl, ft0 F, zA10, if_true, hst, ybd_s, show ¬ (1 : Int) = 0 by omega, if_false, fp0_15 F, ft27 F, fl27 F, Int.toNat_natCast, fp27 F htp, (ft28v F htp).1, (ft28v F htp).2, el, b1, b2, h1.1, b3, true_or, true_and, and_self, show 33 ≤ 37 by omega, show (37 : Nat) ≤ 37 by omega, q1']
    by_cases h2 : x < 0
    · have hneg := zneg_len ⟨by omega, by omega⟩ h2
      refine ⟨2, H, s, B, ow, ?_, I, ⟨zst.rf, by omega, by omega, fun _ _ _ => rfl⟩, fun _ _ _ _ _ _ => rfl, Or.inr ⟨h1, hs1, Or.inl ⟨Or.inl h2, rfl, rfl⟩⟩⟩
      rw [run, e_isNote, if_neg (by omega), ybd_s, if_pos rfl]
    · have ed : zdiv x 100 = x / 100 := zdiv_e ⟨by omega, by omega⟩ (by omega) (by omega) (by omega)
      have er : zrem x 100 = x % 100 := zrem_e ⟨by omega, by omega⟩ (by omega) (by omega) (by omega)
      have e2 : zdiv (x % 100) 2 = x % 100 / 2 := zdiv_e ⟨by omega, by omega⟩ (by omega) (by omega) (by omega)
      have ea : zand x 1 = x % 100 % 2 := by rw [zand_1]; omega
      rw [ed, er, e2, ea, e_isNote, ybd_s] at run
      by_cases h3 : isN (x / 100) (x % 100 / 2) (x % 100 % 2)
      · have h3' := h3
        unfold isN at h3'
        rw [if_pos h3', if_neg (by omega), e_noteCode h3'.1 h3'.2.1 (by omega), ybd_s] at run
        obtain ⟨r, H', s', B', ow', r1, r2, r3, I', kp, so⟩ := e_take (t := t) (v := v) I ht hk hv h3'.1 h3'.2.1 (by omega) h3'.2.2.2
        obtain ⟨-, hg, -, -⟩ := I.hd ht
        simp only [yck, hg, tgk_8.mpr hk, if_true, r1, ybd_s] at run
        have hs1' : ∀ e : Int, fH_takeFromTape X (A t) (v : Int) (tp : Int) pl H = some (e, H') → (r = 0 ∧ e = 0 ∨ r = -3 ∧ e = 2 ∨ r = -4 ∧ e = 3) → _ := fun e w1 w2 => (⟨e, H', s', B', ow', w1, I', kp, so, Or.inr ⟨h1, hs1, Or.inr ⟨by omega, h3, r, r2, w2⟩⟩⟩ : ∃ e H' s' B' ow', fH_takeFromTape X (A t) (v : Int) (tp : Int) pl H = some (e, H') ∧ IV X H' s' A B' K ow' ∧ KP X H H' ∧ sOth s s' ∧ ((¬ (0 ≤ pl ∧ pl < s 79 tp) ∧ e = 1 ∧ s' = s) ∨ ((0 ≤ pl ∧ pl < s 79 tp) ∧ s 78 tp = 1 ∧ ((x < 0 ∨ ¬ isN (x / 100) (x % 100 / 2) (x % 100 % 2)) ∧ e = 2 ∧ s' = s ∨ 0 ≤ x ∧ isN (x / 100) (x % 100 / 2) (x % 100 % 2) ∧ ∃ r, gM_put (t : Int) (v : Int) (x / 100) (x % 100 / 2) (x % 100 % 2) s = some (r, s') ∧ (r = 0 ∧ e = 0 ∨ r = -3 ∧ e = 2 ∨ r = -4 ∧ e = 3)))))
        rcases r3 with rfl | rfl | rfl
        · exact hs1' 0 (by rw [run, if_neg (by omega), if_neg (by omega)]) (by omega)
        · exact hs1' 2 (by rw [run, if_neg (by omega), if_pos rfl]) (by omega)
        · exact hs1' 3 (by rw [run, if_pos rfl]) (by omega)
      · refine ⟨2, H, s, B, ow, ?_, I, ⟨zst.rf, by omega, by omega, fun _ _ _ => rfl⟩, fun _ _ _ _ _ _ => rfl, Or.inr ⟨h1, hs1, Or.inl ⟨Or.inr h3, rfl, rfl⟩⟩⟩
        unfold isN at h3
        rw [run, if_neg h3, if_pos rfl]
  · refine ⟨1, H, s, B, ow, ?_, I, ⟨zst.rf, by omega, by omega, fun _ _ _ => rfl⟩, fun _ _ _ _ _ _ => rfl, Or.inl ⟨h1, rfl, rfl⟩⟩
    rw [if_neg (by omega)] at hst
    unfold fH_takeFromTape
    simp only [yck, ft0 F, zA10, if_true, hst, ybd_s]
end MUSIC
