/-! A BAR as a part reads it -/
section JOIN
variable {X : Nat} {H H' : zHp} {s : zSg} {A : Nat → Nat} {B : Nat → Nat → Nat} {K : Nat → Nat} {ow : Nat → Nat × Nat} {t : Nat}
theorem ncode_b {p l t : Int} (h : NR (-11) 72 p l t) : 0 ≤ ncode p l t ∧ ncode p l t < 200000 ∧ ncode p l t % 1000 = 2 * l + t ∧ ncode p l t / 1000 = (if p = -1000 then 0 else p + 100) ∧ ncode p l t % 2 = t := by
  obtain ⟨h1, h2, h3, h4⟩ := h
  unfold ncode
  split <;> omega
theorem NR.p {p l t : Int} (h : NR (-11) 72 p l t) : p = -1000 ∨ (-99 ≤ p ∧ p ≤ 1000) := by
  rcases h.1 with w | w <;> omega
/-- what changes when a bar's cells are written -/
def zbx (b : Nat) (H H' : zHp) : Prop := zst H H' ∧ znx H' = znx H ∧ zus H' = zus H ∧ zct H' b 0 = zct H b 0 ∧ ∀ a k, a ≠ b → a ≠ b + 1 → zct H' a k = zct H a k
theorem zbx.rf {b : Nat} {H : zHp} : zbx b H H := ⟨zst.rf, rfl, rfl, rfl, fun _ _ _ _ => rfl⟩
theorem zbx.tr {b : Nat} {H1 H2 H3 : zHp} (h : zbx b H1 H2) (k : zbx b H2 H3) : zbx b H1 H3 := ⟨h.1.tr k.1, k.2.1.trans h.2.1, k.2.2.1.trans h.2.2.1, k.2.2.2.1.trans h.2.2.2.1, fun a j h1 h2 => (k.2.2.2.2 a j h1 h2).trans (h.2.2.2.2 a j h1 h2)⟩
theorem e_join {b m : Nat} {P L T : Nat → Int} {p l t : Int} (h1 : ztg H b = 1) (h2 : zct H b 0 = ((b + 1 : Nat) : Int)) (h3 : ztg H (b + 1) = 30) (h4 : zln H (b + 1) = 8) (hv : BarV H b (m : Int) P L T) (hm : m ≤ 7) (hL : ∀ i, i < m → NR (-11) 72 (P i) (L i) (T i)) (hn : NR (-11) 72 p l t) (hs : zsum L m + l ≤ 12) :
    ∃ H' m' P' L' T', fBar_joinNote b (ncode p l t) H = some ((), H') ∧ BarV H' b ((m' : Nat) : Int) P' L' T' ∧ zbx b H H' ∧ m' ≤ m + 1 ∧ (∀ i, i < m' → NR (-11) 72 (P' i) (L' i) (T' i)) ∧ zsum L' m' = zsum L m + l ∧
      ((0 < m ∧ P (m - 1) = p ∧ (p = -1000 ∨ T (m - 1) = 1) ∧ m' = m ∧ P' = P ∧ (L' = fun j => if j = m - 1 then L (m - 1) + l else L j) ∧ T' = fun j => if j = m - 1 then t else T j) ∨
      (¬ (0 < m ∧ P (m - 1) = p ∧ (p = -1000 ∨ T (m - 1) = 1)) ∧ m' = m + 1 ∧ (P' = fun j => if j = m then p else P j) ∧ (L' = fun j => if j = m then l else L j) ∧ T' = fun j => if j = m then t else T j)) := by
  obtain ⟨v1, v2, v3, v4⟩ := id hv
  rw [Int.toNat_natCast] at v2
  have hl : 1 ≤ l ∧ l ≤ 12 := ⟨hn.2.1, hn.2.2.1⟩
  have hb := zsum_b (f := L) m (fun i hi => by have := hL i hi; exact ⟨by have := this.2.1; omega, this.2.2.1⟩)
  have nb := ncode_b hn
  -- a note added
  have add : ∃ H' m' P' L' T', fBar_addNote b (ncode p l t) H = some ((), H') ∧ BarV H' b ((m' : Nat) : Int) P' L' T' ∧ zbx b H H' ∧ m' ≤ m + 1 ∧ (∀ i, i < m' → NR (-11) 72 (P' i) (L' i) (T' i)) ∧ zsum L' m' = zsum L m + l ∧ (m' = m + 1 ∧ (P' = fun j => if j = m then p else P j) ∧ (L' = fun j => if j = m then l else L j) ∧ T' = fun j => if j = m then t else T j) := by
    have ea := e_addNote (H := H) (b := b) (m := m) (c := ncode p l t) (l := l) h1 h2 h3 h4 v1 hm (by rw [v2]; omega) (fun H => e_lengthOf hl hn.2.2.2 hn.p) hl
    have zs : zsum (fun j => if j = m then l else L j) (m + 1) = zsum L m + l := by
      show zsum _ m + (if m = m then l else L m) = _
      rw [if_pos rfl, zsum_eq (g := L) m fun i hi => if_neg (by omega)]
    refine ⟨_, m + 1, _, _, _, ea, ?_, ⟨(by repeat first | exact zst.rf | apply zst.wr), rfl, rfl, ?_, fun a k g1 g2 => ?_⟩, by omega, fun i hi => ?_, zs, rfl, rfl, rfl, rfl⟩
    · refine ⟨?_, ?_, by omega, fun i hi => ?_⟩
      · rw [zct_wr, if_neg (by omega), zct_wr, if_pos ⟨rfl, rfl⟩]; omega
      · rw [zct_wr, if_pos ⟨rfl, rfl⟩, Int.toNat_natCast, zs, v2]
      · rw [zct_wr, if_neg (by omega), zct_wr, if_neg (by omega), zct_wr]
        dsimp only
        by_cases e : i = m
        · rw [if_pos ⟨rfl, e⟩, if_pos e, if_pos e, if_pos e]
        · rw [if_neg (fun w => e w.2), if_neg e, if_neg e, if_neg e]
          exact v4 i (by omega)
    · rw [zct_wr, if_neg (by omega), zct_wr, if_neg (by omega), zct_wr, if_neg (by omega)]
    · rw [zct_wr, if_neg (by omega), zct_wr, if_neg (by omega), zct_wr, if_neg (by omega)]
    · by_cases e : i = m
      · simp only [e, if_true]; exact hn
      · simp only [e, if_false]; exact hL i (by omega)
  have e1 : zsub (m : Int) 1 = (m : Int) - 1 := zsub_e (by omega) (by omega)
  unfold fBar_joinNote
  simp only [yjn, ygi, yvl, yck, h1, zA0, if_true, v1, e1, e_hasNote h1 v1 (by omega), ybd_s]
  by_cases h0 : m = 0
  · obtain ⟨H', m', P', L', T', q0, q1, q2, q3, q4, q5, q6⟩ := add
    refine ⟨H', m', P', L', T', ?_, q1, q2, q3, q4, q5, Or.inr ⟨by omega, q6⟩⟩
    rw [if_pos (if_neg (by omega)), q0, ybd_s]
  · obtain ⟨n, rfl⟩ : ∃ n, m = n + 1 := ⟨m - 1, by omega⟩
    have en : ((n + 1 : Nat) : Int) - 1 = (n : Int) := by omega
    have e9 : n + 1 - 1 = n := rfl
    rw [if_neg (fun w => by rw [if_pos (by omega)] at w; omega)]
    rw [en, e9]
    have vn := v4 n (by omega)
    have hN := hL n (by omega)
    have nb2 := ncode_b hN
    have hb8 : 0 ≤ (n : Int) ∧ (n : Int) < ((8 : Nat) : Int) := by omega
    simp only [ygr, yai, h1, zA0, if_true, h2, Int.toNat_natCast, h3, h4, hb8, and_self, true_or, vn]
    rw [zdiv_e ⟨by omega, by omega⟩ nb2.1 (by omega) (by omega), zdiv_e ⟨by omega, by omega⟩ nb.1 (by omega) (by omega), nb2.2.2.2.1, nb.2.2.2.1, e_isRest hl hn.2.2.2 hn.p, ybd_s]
    simp only [h1, zA0, if_true, h2, Int.toNat_natCast, h3, h4, hb8.2, and_self, true_or, vn]
    have hpe : ((if P n = -1000 then (0 : Int) else P n + 100) = if p = -1000 then 0 else p + 100) ↔ P n = p := by
      have a := hn.p
      have b := hN.p
      split <;> split <;> omega
    have hand : zand (ncode (P n) (L n) (T n)) 1 = T n := by
      rw [zand_1, nb2.2.2.2.2]
    -- a note joined
    have joi : P n = p → (p = -1000 ∨ T n = 1) → ∃ H' m' P' L' T', (ysi (b + 1) (n : Int) (zadd (ncode (P n) (L n) (T n)) (zsub (zrem (ncode p l t) 1000) (zand (ncode (P n) (L n) (T n)) 1))) H fun s15 => if zisA 0 (ztg s15 b) = true then ybd (fH_lengthOf (ncode p l t) s15) fun v17 s18 => ypi 0 2 b (zadd (zct s15 b 2) v17) s18 fun s19 => some ((), s19) else none) = some ((), H') ∧ BarV H' b ((m' : Nat) : Int) P' L' T' ∧ zbx b H H' ∧ m' ≤ n + 1 + 1 ∧ (∀ i, i < m' → NR (-11) 72 (P' i) (L' i) (T' i)) ∧ zsum L' m' = zsum L (n + 1) + l ∧ (m' = n + 1 ∧ P' = P ∧ (L' = fun j => if j = n then L n + l else L j) ∧ T' = fun j => if j = n then t else T j) := by
      intro g1 g2
      have zL : zsum L (n + 1) = zsum L n + L n := rfl
      have hb2 := zsum_b (f := L) n (fun i hi => by have := hL i (by omega); exact ⟨by have := this.2.1; omega, this.2.2.1⟩)
      have hN2 := hN.2
      have hn2 := hn.2.2.2
      have hn1 := hn.1
      have ec : zadd (ncode (P n) (L n) (T n)) (zsub (zrem (ncode p l t) 1000) (zand (ncode (P n) (L n) (T n)) 1)) = ncode p (L n + l) t := by
        rw [hand, zrem_e ⟨by omega, by omega⟩ nb.1 (by omega) (by omega), nb.2.2.1, zsub_e (by omega) (by omega), zadd_e (by omega) (by omega)]
        unfold ncode
        rw [g1]
        omega
      have zs : zsum (fun j => if j = n then L n + l else L j) (n + 1) = zsum L (n + 1) + l := by
        show zsum _ n + (if n = n then L n + l else L n) = _
        rw [if_pos rfl, zsum_eq (g := L) n fun i hi => if_neg (by omega), zL]
        omega
      have f2 : zct (zwr H (b + 1) n (ncode p (L n + l) t)) b 2 = zct H b 2 := by rw [zct_wr, if_neg (by omega)]
      have es : zadd (zct H b 2) l = zct H b 2 + l := zadd_e (by rw [v2]; omega) (by rw [v2]; omega)
      rw [ec]
      simp only [ysi, h3, h4, hb8, and_self, if_true, Int.toNat_natCast, ztg_wr, h1, zA0, e_lengthOf hl hn.2.2.2 hn.p, ybd_s, ypi, f2, es]
      refine ⟨_, n + 1, P, _, _, rfl, ?_, ⟨(by repeat first | exact zst.rf | apply zst.wr), rfl, rfl, ?_, fun a k g1 g2 => ?_⟩, by omega, fun i hi => ?_, zs, rfl, rfl, rfl, rfl⟩
      · refine ⟨?_, ?_, by omega, fun i hi => ?_⟩
        · rw [zct_wr, if_neg (by omega), zct_wr, if_neg (by omega)]; exact v1
        · rw [zct_wr, if_pos ⟨rfl, rfl⟩, Int.toNat_natCast, zs, v2]
        · rw [zct_wr, if_neg (by omega), zct_wr]
          dsimp only
          by_cases e : i = n
          · rw [if_pos ⟨rfl, e⟩, if_pos e, if_pos e, e, g1]
          · rw [if_neg (fun w => e w.2), if_neg e, if_neg e]
            exact v4 i (by omega)
      · rw [zct_wr, if_neg (by omega), zct_wr, if_neg (by omega)]
      · rw [zct_wr, if_neg (by omega), zct_wr, if_neg (by omega)]
      · by_cases e : i = n
        · simp only [e, if_true]
          rw [g1]
          exact ⟨hn.1, by omega, by omega, hn2⟩
        · simp only [e, if_false]; exact hL i (by omega)
    by_cases g : P n = p
    · rw [if_pos (hpe.mpr g)]
      by_cases r : p = -1000
      · obtain ⟨H', m', P', L', T', q0, q1, q2, q3, q4, q5, q6⟩ := joi g (Or.inl r)
        refine ⟨H', m', P', L', T', ?_, q1, q2, q3, q4, q5, Or.inl ⟨by omega, g, Or.inl r, q6⟩⟩
        rw [if_pos r, if_neg (by omega)]
        exact q0
      · rw [if_neg r, if_pos rfl]
        simp only [hand]
        by_cases g2 : T n = 1
        · obtain ⟨H', m', P', L', T', q0, q1, q2, q3, q4, q5, q6⟩ := joi g (Or.inr g2)
          refine ⟨H', m', P', L', T', ?_, q1, q2, q3, q4, q5, Or.inl ⟨by omega, g, Or.inr g2, q6⟩⟩
          rw [if_pos g2]
          rw [hand] at q0
          exact q0
        · obtain ⟨H', m', P', L', T', q0, q1, q2, q3, q4, q5, q6⟩ := add
          refine ⟨H', m', P', L', T', ?_, q1, q2, q3, q4, q5, Or.inr ⟨fun w => by rcases w.2.2 with w | w <;> contradiction, q6⟩⟩
          rw [if_neg g2, q0, ybd_s]
    · rw [if_neg (fun w => g (hpe.mp w))]
      obtain ⟨H', m', P', L', T', q0, q1, q2, q3, q4, q5, q6⟩ := add
      refine ⟨H', m', P', L', T', ?_, q1, q2, q3, q4, q5, Or.inr ⟨fun w => g w.2.1, q6⟩⟩
      rw [q0, ybd_s]
end JOIN
