/-! PAGES: the least cost from a bar on -/
theorem sq99 {d : Int} (h0 : 0 ≤ d) (h1 : d ≤ 99) : 0 ≤ d * d ∧ d * d ≤ 9801 := by
  obtain ⟨m, rfl⟩ : ∃ m : Nat, d = (m : Int) := ⟨d.toNat, by omega⟩
  have : m * m ≤ 99 * 99 := Nat.mul_le_mul (by omega) (by omega)
  have e : (m : Int) * (m : Int) = ((m * m : Nat) : Int) := by simp
  rw [e]
  omega
section FILL
variable {X : Nat} {H : zHp} {s sA : zSg} {A : Nat → Nat} {B : Nat → Nat → Nat} {K : Nat → Nat} {ow : Nat → Nat × Nat} {n b k ln e : Nat} {w u : Int}
/-- the cost of a line up to bar e, with what comes behind -/
def lnC (w u' : Int) (n k ln e : Nat) (L F C : Int) : Int := if e < n then (w - u') * (w - u') + (if k + 1 = ln ∧ L = 0 ∧ F = 0 then 1000 else 0) + C else 0
def pgB (k ln : Nat) : Nat := if k + 1 < ln then k + 1 else 0
set_option maxRecDepth 100000 in
theorem fl_c (F0 : IFx X H) (n20 : n ≤ 20) (hc : zct H (X + 4) 0 = (n : Int)) (hw : 5 ≤ w ∧ w ≤ 99) (hk : k < ln) (hl : ln ≤ 4) (hb : b < n) (he : b < e) (hen : e ≤ n) (hu : 0 ≤ u ∧ u ≤ 99) (hW : 5 ≤ zct H (X + 5) (e - 1) ∧ u + zct H (X + 5) (e - 1) ≤ w) (hC : 0 ≤ zct H (X + 8) (4 * e + pgB k ln) ∧ zct H (X + 8) (4 * e + pgB k ln) ≤ 220000 ∨ e = n) (f : Nat) :
    fLayout_fillLine_l1 (f + 1) (X + 4) (b : Int) (k : Int) w (ln : Int) ((4 * b + k : Nat) : Int) u (e : Int) H = if zct H (X + 9) (4 * b + k) = 0 ∨ lnC w (u + zct H (X + 5) (e - 1)) n k ln e (zct H (X + 7) (e - 1)) (zct H (X + 6) e) (zct H (X + 8) (4 * e + pgB k ln)) ≤ zct H (X + 8) (4 * b + k) then
      fLayout_fillLine_l1 f (X + 4) (b : Int) (k : Int) w (ln : Int) ((4 * b + k : Nat) : Int) (u + zct H (X + 5) (e - 1)) ((e + 1 : Nat) : Int) (zwr (zwr H (X + 8) (4 * b + k) (lnC w (u + zct H (X + 5) (e - 1)) n k ln e (zct H (X + 7) (e - 1)) (zct H (X + 6) e) (zct H (X + 8) (4 * e + pgB k ln)))) (X + 9) (4 * b + k) ((e - b : Nat) : Int))
      else fLayout_fillLine_l1 f (X + 4) (b : Int) (k : Int) w (ln : Int) ((4 * b + k : Nat) : Int) (u + zct H (X + 5) (e - 1)) ((e + 1 : Nat) : Int) H := by
  have e1 : zsub (e : Int) 1 = ((e - 1 : Nat) : Int) := by rw [zsub_e (by omega) (by omega)]; omega
  have e2 : zadd u (zct H (X + 5) (e - 1)) = u + zct H (X + 5) (e - 1) := zadd_e (by omega) (by omega)
  have e3 : zadd (k : Int) 1 = ((k + 1 : Nat) : Int) := by rw [zadd_e (by omega) (by omega)]; omega
  have e4 : zadd (e : Int) 1 = ((e + 1 : Nat) : Int) := by rw [zadd_e (by omega) (by omega)]; omega
  have e5 : zsub (e : Int) (b : Int) = ((e - b : Nat) : Int) := by rw [zsub_e (by omega) (by omega)]; omega
  have hb1 : 0 ≤ ((e - 1 : Nat) : Int) ∧ ((e - 1 : Nat) : Int) < ((20 : Nat) : Int) := by omega
  have at84 : 0 ≤ ((4 * b + k : Nat) : Int) ∧ ((4 * b + k : Nat) : Int) < ((84 : Nat) : Int) := by omega
  -- what comes behind q24
  have wr : ∀ al : Int, (if (ztg H (X + 9) = 30 ∨ ztg H (X + 9) = 40) ∧ 0 ≤ ((4 * b + k : Nat) : Int) ∧ ((4 * b + k : Nat) : Int) < ((zln H (X + 9) : Nat) : Int) then True else False) = True := fun _ => by
    rw [ft9 F0, fl9 F0, if_pos ⟨Or.inl rfl, at84⟩]
  have t84 : ∀ al : Int, ztg (zwr H (X + 8) (4 * b + k) al) (X + 4) = 5 := fun al => by
    show ztg H (X + 4) = 5
    exact ft4 F0
  have p9 : ∀ al : Int, (zct (zwr H (X + 8) (4 * b + k) al) (X + 4) 5).toNat = X + 9 := fun al => by rw [zct_wr, if_neg (by omega)]; exact fp4_5 F0
  have fin : ∀ al : Int, (if zct H (X + 9) (4 * b + k) = 0 then fLayout_fillLine_l1 f (X + 4) (b : Int) (k : Int) w (ln : Int) ((4 * b + k : Nat) : Int) (u + zct H (X + 5) (e - 1)) ((e + 1 : Nat) : Int) (zwr (zwr H (X + 8) (4 * b + k) al) (X + 9) (4 * b + k) ((e - b : Nat) : Int))
      else if zct H (X + 8) (4 * b + k) < al then fLayout_fillLine_l1 f (X + 4) (b : Int) (k : Int) w (ln : Int) ((4 * b + k : Nat) : Int) (u + zct H (X + 5) (e - 1)) ((e + 1 : Nat) : Int) H
      else fLayout_fillLine_l1 f (X + 4) (b : Int) (k : Int) w (ln : Int) ((4 * b + k : Nat) : Int) (u + zct H (X + 5) (e - 1)) ((e + 1 : Nat) : Int) (zwr (zwr H (X + 8) (4 * b + k) al) (X + 9) (4 * b + k) ((e - b : Nat) : Int))) =
      if zct H (X + 9) (4 * b + k) = 0 ∨ al ≤ zct H (X + 8) (4 * b + k) then fLayout_fillLine_l1 f (X + 4) (b : Int) (k : Int) w (ln : Int) ((4 * b + k : Nat) : Int) (u + zct H (X + 5) (e - 1)) ((e + 1 : Nat) : Int) (zwr (zwr H (X + 8) (4 * b + k) al) (X + 9) (4 * b + k) ((e - b : Nat) : Int)) else fLayout_fillLine_l1 f (X + 4) (b : Int) (k : Int) w (ln : Int) ((4 * b + k : Nat) : Int) (u + zct H (X + 5) (e - 1)) ((e + 1 : Nat) : Int) H := fun al => by
    by_cases g : zct H (X + 9) (4 * b + k) = 0
    · rw [if_pos g, if_pos (Or.inl g)]
    · rw [if_neg g]
      by_cases g2 : zct H (X + 8) (4 * b + k) < al
      · rw [if_pos g2, if_neg (by omega)]
      · rw [if_neg g2, if_pos (Or.inr (by omega))]
  clear wr
  rw [← fin]
  rw [fLayout_fillLine_l1]
  unfold lnC
  by_cases h1 : e < n
  · have hC' : 0 ≤ zct H (X + 8) (4 * e + pgB k ln) ∧ zct H (X + 8) (4 * e + pgB k ln) ≤ 220000 := by omega
    have sq := sq99 (d := w - (u + zct H (X + 5) (e - 1))) (by omega) (by omega)
    have e6 : zsub w (u + zct H (X + 5) (e - 1)) = w - (u + zct H (X + 5) (e - 1)) := zsub_e (by omega) (by omega)
    have e7 : zmul (w - (u + zct H (X + 5) (e - 1))) (w - (u + zct H (X + 5) (e - 1))) = (w - (u + zct H (X + 5) (e - 1))) * (w - (u + zct H (X + 5) (e - 1))) := zmul_e (by omega) (by omega)
    have pb : pgB k ln < 4 := by unfold pgB; split <;> omega
    have e8 : ∀ g : Int → zHp → Option (Unit × zHp), ybd (fLayout_placeBehind (k : Int) (ln : Int) H) g = g ((pgB k ln : Nat) : Int) H := fun g => by
      unfold fLayout_placeBehind pgB
      rw [e3]
      by_cases c : k + 1 < ln
      · rw [if_pos (by omega), if_pos c, ybd_s]
      · rw [if_neg (by omega), if_neg c, ybd_s]; rfl
    have e9 : zadd (zmul (e : Int) 4) ((pgB k ln : Nat) : Int) = ((4 * e + pgB k ln : Nat) : Int) := by rw [zmul_e (by omega) (by omega), zadd_e (by omega) (by omega)]; omega
    have at8 : 0 ≤ ((4 * e + pgB k ln : Nat) : Int) ∧ ((4 * e + pgB k ln : Nat) : Int) < ((84 : Nat) : Int) := by omega
    have he20 : 0 ≤ (e : Int) ∧ (e : Int) < ((20 : Nat) : Int) := by omega
    generalize pgB k ln = pl at *
    have e10 : ∀ t : Int, 0 ≤ t → t ≤ 1000 → zadd (zadd ((w - (u + zct H (X + 5) (e - 1))) * (w - (u + zct H (X + 5) (e - 1)))) t) (zct H (X + 8) (4 * e + pl)) = (w - (u + zct H (X + 5) (e - 1))) * (w - (u + zct H (X + 5) (e - 1))) + t + zct H (X + 8) (4 * e + pl) := fun t t0 t1 => by rw [zadd_e (x := (w - (u + zct H (X + 5) (e - 1))) * (w - (u + zct H (X + 5) (e - 1)))) (by omega) (by omega), zadd_e (by omega) (by omega)]
    have e10a := e10 1000 (by omega) (by omega)
    have e10b := e10 0 (by omega) (by omega)
    simp only [yjn, yvl, ygi, ygr, yai, ysi, yab, ft4 F0, zA4, if_true, hc, show ¬ (n : Int) < (e : Int) by omega, if_false, fp4_1 F0, ft5 F0, fl5 F0, e1, hb1, true_or, true_and, and_self, Int.toNat_natCast, e2, show ¬ w < u + zct H (X + 5) (e - 1) by omega, show (e : Int) < (n : Int) by omega, e3, fp4_3 F0, ft7 F0, fl7 F0, fp4_2 F0, ft6 F0, fl6 F0, he20, fp4_4 F0, ft8 F0, fl8 F0, e8, e9, at8, e6, e7, e10a, e10b, fp4_5 F0, ft9 F0, fl9 F0, at84, ztg_wr, zln_wr, p9, e5, e4, h1]
    by_cases c1 : k + 1 = ln
    · by_cases c2 : zct H (X + 7) (e - 1) = 0
      · by_cases c3 : zct H (X + 6) e = 0
        · rw [if_pos (by omega), if_pos c2, if_pos c3, if_pos (show k + 1 = ln ∧ zct H (X + 7) (e - 1) = 0 ∧ zct H (X + 6) e = 0 from ⟨c1, c2, c3⟩)]
        · rw [if_pos (by omega), if_pos c2, if_neg c3, if_neg (show ¬ (k + 1 = ln ∧ zct H (X + 7) (e - 1) = 0 ∧ zct H (X + 6) e = 0) from fun q => c3 q.2.2)]
      · rw [if_pos (by omega), if_neg c2, if_neg (show ¬ (k + 1 = ln ∧ zct H (X + 7) (e - 1) = 0 ∧ zct H (X + 6) e = 0) from fun q => c2 q.2.1)]
    · rw [if_neg (by omega), if_neg (show ¬ (k + 1 = ln ∧ zct H (X + 7) (e - 1) = 0 ∧ zct H (X + 6) e = 0) from fun q => c1 q.1)]
  · simp only [yjn, yvl, ygi, ygr, yai, ysi, yab, ft4 F0, zA4, if_true, hc, show ¬ (n : Int) < (e : Int) by omega, if_false, fp4_1 F0, ft5 F0, fl5 F0, e1, hb1, true_or, true_and, and_self, Int.toNat_natCast, e2, show ¬ w < u + zct H (X + 5) (e - 1) by omega, show ¬ (e : Int) < (n : Int) by omega, fp4_4 F0, ft8 F0, fl8 F0, fp4_5 F0, ft9 F0, fl9 F0, at84, ztg_wr, zln_wr, p9, e5, e4, h1]
set_option maxRecDepth 100000 in
theorem fl_m {wh best : Int} (n20 : n ≤ 20) (hw : 5 ≤ w ∧ w ≤ 99) (hk : k < ln) (hl : ln ≤ 4) (hb : b < n) (he : b < e) (hen : e ≤ n) (hu : 0 ≤ u ∧ u ≤ 99) (hW : 5 ≤ sA 37 (e - 1) ∧ u + sA 37 (e - 1) ≤ w) (hC : 0 ≤ sA 40 (4 * e + pgB k ln) ∧ sA 40 (4 * e + pgB k ln) ≤ 220000) (hz : e = n → sA 40 (4 * e + pgB k ln) = 0) (f : Nat) (Q : Int → Int → Int → Int → Int → Int → Int → zSg → Option (Int × zSg)) :
    gM_pages_l18 (f + 1) w (ln : Int) wh (n : Int) (b : Int) (k : Int) best u ((e - 1 : Nat) : Int) sA Q = if best < 0 ∨ lnC w (u + sA 37 (e - 1)) n k ln e (sA 38 (e - 1)) (sA 39 e) (sA 40 (4 * e + pgB k ln)) ≤ best then
      gM_pages_l18 f w (ln : Int) wh (n : Int) (b : Int) (k : Int) (lnC w (u + sA 37 (e - 1)) n k ln e (sA 38 (e - 1)) (sA 39 e) (sA 40 (4 * e + pgB k ln))) (u + sA 37 (e - 1)) ((e : Nat) : Int) (zup sA 41 (4 * b + k) ((e - b : Nat) : Int)) Q
      else gM_pages_l18 f w (ln : Int) wh (n : Int) (b : Int) (k : Int) best (u + sA 37 (e - 1)) ((e : Nat) : Int) sA Q := by
  have b20 : e - 1 < 20 := by omega
  have e2 : zadd u (sA 37 (e - 1)) = u + sA 37 (e - 1) := zadd_e (by omega) (by omega)
  have e3 : zadd (k : Int) 1 = ((k + 1 : Nat) : Int) := by rw [zadd_e (by omega) (by omega)]; omega
  have e4 : zadd ((e - 1 : Nat) : Int) 1 = (e : Int) := by rw [zadd_e (by omega) (by omega)]; omega
  have e5 : zadd (zsub ((e - 1 : Nat) : Int) (b : Int)) 1 = ((e - b : Nat) : Int) := by rw [zsub_e (by omega) (by omega), zadd_e (by omega) (by omega)]; omega
  have e1 : zsub (n : Int) 1 = ((n - 1 : Nat) : Int) := by rw [zsub_e (by omega) (by omega)]; omega
  have el : zsub (ln : Int) 1 = ((ln - 1 : Nat) : Int) := by rw [zsub_e (by omega) (by omega)]; omega
  have e6 : zmul 4 (e : Int) = 4 * (e : Int) := zmul_e (by omega) (by omega)
  have e11 : zadd (zmul 4 (b : Int)) (k : Int) = ((4 * b + k : Nat) : Int) := by rw [zmul_e (by omega) (by omega), zadd_e (by omega) (by omega)]; omega
  have sq := sq99 (d := w - (u + sA 37 (e - 1))) (by omega) (by omega)
  have e7 : zsub w (u + sA 37 (e - 1)) = w - (u + sA 37 (e - 1)) := zsub_e (by omega) (by omega)
  have e8 : zmul (w - (u + sA 37 (e - 1))) (w - (u + sA 37 (e - 1))) = (w - (u + sA 37 (e - 1))) * (w - (u + sA 37 (e - 1))) := zmul_e (by omega) (by omega)
  have pb : pgB k ln < 4 := by unfold pgB; split <;> omega
  have a84 : 4 * e + pgB k ln < 84 := by omega
  have a842 : 4 * b + k < 84 := by omega
  have go : ∀ (c v : Int), 0 ≤ c → c ≤ 20000 → v = zadd c (sA 40 (4 * e + pgB k ln)) → (if best < 0 then gM_pages_l18 f w (ln : Int) wh (n : Int) (b : Int) (k : Int) v (u + sA 37 (e - 1)) (e : Int) (zup sA 41 (4 * b + k) ((e - b : Nat) : Int)) Q else if best < v then gM_pages_l18 f w (ln : Int) wh (n : Int) (b : Int) (k : Int) best (u + sA 37 (e - 1)) (e : Int) sA Q else gM_pages_l18 f w (ln : Int) wh (n : Int) (b : Int) (k : Int) v (u + sA 37 (e - 1)) (e : Int) (zup sA 41 (4 * b + k) ((e - b : Nat) : Int)) Q) = if best < 0 ∨ c + sA 40 (4 * e + pgB k ln) ≤ best then gM_pages_l18 f w (ln : Int) wh (n : Int) (b : Int) (k : Int) (c + sA 40 (4 * e + pgB k ln)) (u + sA 37 (e - 1)) (e : Int) (zup sA 41 (4 * b + k) ((e - b : Nat) : Int)) Q else gM_pages_l18 f w (ln : Int) wh (n : Int) (b : Int) (k : Int) best (u + sA 37 (e - 1)) (e : Int) sA Q := fun c v c0 c1 hv => by
    have ez : zadd c (sA 40 (4 * e + pgB k ln)) = c + sA 40 (4 * e + pgB k ln) := zadd_e (by omega) (by omega)
    rw [ez] at hv
    rw [← hv]
    by_cases g1 : best < 0
    · rw [if_pos g1, if_pos (Or.inl g1)]
    · rw [if_neg g1]
      by_cases g2 : best < v
      · rw [if_pos g2, if_neg (by omega)]
      · rw [if_neg g2, if_pos (Or.inr (by omega))]
  have ei : ∀ q : Nat, q < 4 → zadd (4 * (e : Int)) (q : Int) = ((4 * e + q : Nat) : Int) := fun q hq => by rw [zadd_e (by omega) (by omega)]; omega
  have pT : k + 1 = ln → ∀ g : Int → Option (Int × zSg), yrd 84 40 (zadd (4 * (e : Int)) 0) sA g = g (sA 40 (4 * e + pgB k ln)) := fun h g => by
    have q : pgB k ln = 0 := if_neg (by omega)
    have z0 : zadd (4 * (e : Int)) 0 = ((4 * e + 0 : Nat) : Int) := ei 0 (by omega)
    rw [q] at a84 ⊢
    rw [z0, yrd_n a84]
  have pF : ¬ k + 1 = ln → ∀ g : Int → Option (Int × zSg), yrd 84 40 (zadd (4 * (e : Int)) ((k + 1 : Nat) : Int)) sA g = g (sA 40 (4 * e + pgB k ln)) := fun h g => by
    have q : pgB k ln = k + 1 := if_pos (by omega)
    rw [q] at a84 ⊢
    rw [ei (k + 1) (by omega), yrd_n a84]
  rw [gM_pages_l18]
  simp only [yjn, yvl, show ((e - 1 : Nat) : Int) < (n : Int) by omega, if_true, yrd_n b20, e2, show ¬ w < u + sA 37 (e - 1) by omega, if_false, e1, el, e4, e6, e3, e5, e11, e7, e8, ywi_n a842]
  unfold lnC
  by_cases h1 : e < n
  · have be : e < 20 := by omega
    rw [if_neg (show ¬ ((e - 1 : Nat) : Int) = ((n - 1 : Nat) : Int) by omega), if_pos h1]
    by_cases c1 : k + 1 = ln
    · rw [if_pos (show (k : Int) = ((ln - 1 : Nat) : Int) by omega), if_neg (show ¬ (1 : Int) = 0 by omega), if_pos (show ((e - 1 : Nat) : Int) < ((n - 1 : Nat) : Int) by omega)]
      simp only [yrd_n be, pT c1]
      by_cases c2 : sA 38 (e - 1) = 0
      · rw [if_pos c2]
        by_cases c3 : sA 39 e = 0
        · rw [if_pos c3, if_pos (show k + 1 = ln ∧ sA 38 (e - 1) = 0 ∧ sA 39 e = 0 from ⟨c1, c2, c3⟩)]
          have ek : zadd ((w - (u + sA 37 (e - 1))) * (w - (u + sA 37 (e - 1)))) 1000 = (w - (u + sA 37 (e - 1))) * (w - (u + sA 37 (e - 1))) + 1000 := zadd_e (by omega) (by omega)
          rw [ek, if_neg (show ¬ (1 : Int) = 0 by omega)]
          exact go _ _ (by omega) (by omega) rfl
        · rw [if_neg c3, if_neg (show ¬ (k + 1 = ln ∧ sA 38 (e - 1) = 0 ∧ sA 39 e = 0) from fun q => c3 q.2.2), Int.add_zero, if_neg (show ¬ (1 : Int) = 0 by omega)]
          exact go _ _ (by omega) (by omega) rfl
      · rw [if_neg c2, if_neg (show ¬ (k + 1 = ln ∧ sA 38 (e - 1) = 0 ∧ sA 39 e = 0) from fun q => c2 q.2.1), Int.add_zero, if_neg (show ¬ (1 : Int) = 0 by omega)]
        exact go _ _ (by omega) (by omega) rfl
    · rw [if_neg (show ¬ (k : Int) = ((ln - 1 : Nat) : Int) by omega), if_neg (show ¬ (k + 1 = ln ∧ sA 38 (e - 1) = 0 ∧ sA 39 e = 0) from fun q => c1 q.1), Int.add_zero]
      simp only [pF c1]
      exact go _ _ (by omega) (by omega) rfl
  · have hz0 := hz (by omega)
    rw [if_pos (show ((e - 1 : Nat) : Int) = ((n - 1 : Nat) : Int) by omega), if_neg h1]
    have g0 := go 0 _ (by omega) (by omega) rfl
    rw [hz0, Int.add_zero] at g0
    by_cases c1 : k + 1 = ln
    · rw [if_pos (show (k : Int) = ((ln - 1 : Nat) : Int) by omega), if_neg (show ¬ (1 : Int) = 0 by omega), if_neg (show ¬ ((e - 1 : Nat) : Int) < ((n - 1 : Nat) : Int) by omega), if_neg (show ¬ (1 : Int) = 0 by omega)]
      simp only [pT c1, hz0]
      exact g0
    · rw [if_neg (show ¬ (k : Int) = ((ln - 1 : Nat) : Int) by omega)]
      simp only [pF c1, hz0]
      exact g0
end FILL
