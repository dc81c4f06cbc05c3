section CHANGES5
variable {X : Nat} {H : zHp} {s : zSg} {A : Nat → Nat} {B : Nat → Nat → Nat} {K : Nat → Nat} {ow : Nat → Nat × Nat} {a b v n m : Nat} {R : Nat → Int}
/-- what the reference's table rests on -/
def RWs (R : Nat → Int) (s s1 : zSg) (a b v n m : Nat) : Prop := zq R s s1 ∧ (∀ i, i < n → s1 33 i = (((edL s a v).getD i 0 : Nat) : Int) ∧ (edL s a v).getD i 0 < 4800 ∧ 0 ≤ s 29 ((edL s a v).getD i 0) ∧ s 29 ((edL s a v).getD i 0) ≤ 8) ∧ ∀ j, j < m → s1 34 j = (((edL s b v).getD j 0 : Nat) : Int) ∧ (edL s b v).getD j 0 < 4800
def DPi (s s1 : zSg) (a b v m i j : Nat) : Prop := ∀ i' j', j' ≤ m → (i' < i ∨ (i' = i ∧ j' < j)) → s1 35 (21 * i' + j') = ((eD s a b v i' j' : Nat) : Int)
theorem RWs.up {s1 : zSg} (h : RWs R s s1 a b v n m) {p : Nat} {x : Int} : RWs R s (zup s1 35 p x) a b v n m := by
  obtain ⟨h1, h2, h3⟩ := h
  exact ⟨h1.up (by omega) rfl, fun i hi => by rw [zup_o (by omega)]; exact h2 i hi, fun j hj => by rw [zup_o (by omega)]; exact h3 j hj⟩
theorem DPi.up {s1 : zSg} {i j : Nat} (h : DPi s s1 a b v m i j) (m20 : m ≤ 20) (hj : j ≤ m) : DPi s (zup s1 35 (21 * i + j) ((eD s a b v i j : Nat) : Int)) a b v m i (j + 1) := fun i' j' h1 h2 => by
  rw [zup_r]
  dsimp only
  by_cases c : i' = i ∧ j' = j
  · rw [if_pos (by omega), c.1, c.2]
  · rw [if_neg (by omega)]
    exact h i' j' h1 (by omega)
set_option maxRecDepth 100000 in
theorem m_cell {s1 : zSg} {i j : Nat} (n20 : n ≤ 20) (m20 : m ≤ 20) (hi : i ≤ n) (hj : j ≤ m) (hr : RWs R s s1 a b v n m) (dp : DPi s s1 a b v m i j) (f : Nat) (Q : Int → Int → Int → zSg → Option (Int × zSg)) : gM_changesOf_l6 (f + 1) (n : Int) (m : Int) (i : Int) (j : Int) s1 Q = gM_changesOf_l6 f (n : Int) (m : Int) (i : Int) ((j + 1 : Nat) : Int) (zup s1 35 (21 * i + j) ((eD s a b v i j : Nat) : Int)) Q := by
  have e1 : zadd (zmul 21 (i : Int)) (j : Int) = ((21 * i + j : Nat) : Int) := by rw [zmul_e (by omega) (by omega), zadd_e (by omega) (by omega)]; omega
  have e2 : zadd (j : Int) 1 = ((j + 1 : Nat) : Int) := by rw [zadd_e (by omega) (by omega)]; omega
  have b1 : 21 * i + j < 441 := by omega
  have db : ∀ x y, eD s a b v x y ≤ x + y := fun x y => edD_le x y
  by_cases i0 : i = 0
  · subst i0
    have e0 : eD s a b v 0 j = j := rfl
    rw [gM_changesOf_l6]
    simp only [yjn, yvl, e1, ywi_n b1, e2, show ¬ (m : Int) < (j : Int) by omega, if_false, show ((0 : Nat) : Int) = 0 from rfl, if_true, show ¬ (0 : Int) < 0 by omega, e0]
    have e1' : zadd (zmul 21 (0 : Int)) (j : Int) = ((21 * 0 + j : Nat) : Int) := e1
    simp only [e1', ywi_n b1]
  · obtain ⟨i, rfl⟩ : ∃ i', i = i' + 1 := ⟨i - 1, by omega⟩
    by_cases j0 : j = 0
    · subst j0
      have e0 : eD s a b v (i + 1) 0 = i + 1 := edi0
      have e1' : zadd (zmul 21 ((i + 1 : Nat) : Int)) (0 : Int) = ((21 * (i + 1) + 0 : Nat) : Int) := e1
      have e2' : zadd (0 : Int) 1 = ((0 + 1 : Nat) : Int) := e2
      rw [gM_changesOf_l6]
      simp only [yjn, yvl, show ((0 : Nat) : Int) = 0 from rfl, show ¬ (m : Int) < (0 : Int) by omega, if_false, show ¬ ((i + 1 : Nat) : Int) = 0 by omega, if_true, show (0 : Int) < ((i + 1 : Nat) : Int) by omega, show ¬ (0 : Int) < 0 by omega, e1', ywi_n b1, e2', e0]
    · obtain ⟨j, rfl⟩ : ∃ j', j = j' + 1 := ⟨j - 1, by omega⟩
      obtain ⟨z, ra, rb⟩ := hr
      obtain ⟨a1, a2, a3, a4⟩ := ra i (by omega)
      obtain ⟨c1, c2⟩ := rb j (by omega)
      have d1 := dp i j (by omega) (Or.inl (by omega))
      have d2 := dp i (j + 1) hj (Or.inl (by omega))
      have d3 := dp (i + 1) j (by omega) (Or.inr ⟨rfl, by omega⟩)
      have st : eD s a b v (i + 1) (j + 1) = min (min (eD s a b v i j + if alike s ((edL s a v).getD i 0) ((edL s b v).getD j 0) = true then 0 else 1) (eD s a b v i (j + 1) + 1)) (eD s a b v (i + 1) j + 1) := edS
      have z26 : s1 26 = s 26 := funext fun j => z.1 26 j rfl
      have z27 : s1 27 = s 27 := funext fun j => z.1 27 j rfl
      have z28 : s1 28 = s 28 := funext fun j => z.1 28 j rfl
      have z29 : s1 29 = s 29 := funext fun j => z.1 29 j rfl
      obtain ⟨x, x1, x2, x3⟩ := m_alike (s := s1) a2 c2 (by rw [z29]; exact ⟨a3, a4⟩)
      rw [alike_rows z26 z27 z28 z29] at x3
      have l1 := db i j
      have l2 := db i (j + 1)
      have l3 := db (i + 1) j
      generalize (edL s a v).getD i 0 = q at *
      generalize (edL s b v).getD j 0 = r at *
      generalize eD s a b v i j = y1 at *
      generalize eD s a b v i (j + 1) = y2 at *
      generalize eD s a b v (i + 1) j = y3 at *
      have e3 : zsub ((i + 1 : Nat) : Int) 1 = (i : Int) := by rw [zsub_e (by omega) (by omega)]; omega
      have e4 : zsub ((j + 1 : Nat) : Int) 1 = (j : Int) := by rw [zsub_e (by omega) (by omega)]; omega
      have e5 : zsub ((21 * i + (j + 1) : Nat) : Int) 1 = ((21 * i + j : Nat) : Int) := by rw [zsub_e (by omega) (by omega)]; omega
      have e6 : zadd (zmul 21 (i : Int)) ((j + 1 : Nat) : Int) = ((21 * i + (j + 1) : Nat) : Int) := by rw [zmul_e (by omega) (by omega), zadd_e (by omega) (by omega)]; omega
      have e7 : zsub ((21 * (i + 1) + (j + 1) : Nat) : Int) 1 = ((21 * (i + 1) + j : Nat) : Int) := by rw [zsub_e (by omega) (by omega)]; omega
      have b2 : 21 * i + j < 441 := by omega
      have b3 : 21 * i + (j + 1) < 441 := by omega
      have b4 : 21 * (i + 1) + j < 441 := by omega
      have f2 : zadd (y2 : Int) 1 = ((y2 + 1 : Nat) : Int) := by rw [zadd_e (by omega) (by omega)]; omega
      have f3 : zadd (y3 : Int) 1 = ((y3 + 1 : Nat) : Int) := by rw [zadd_e (by omega) (by omega)]; omega
      -- the least of three
      have fin : ∀ y : Nat, min (min y (y2 + 1)) (y3 + 1) = eD s a b v (i + 1) (j + 1) →
          (if ((y2 + 1 : Nat) : Int) < (y : Int) then (if ((y3 + 1 : Nat) : Int) < ((y2 + 1 : Nat) : Int) then gM_changesOf_l6 f (n : Int) (m : Int) ((i + 1 : Nat) : Int) ((j + 1 + 1 : Nat) : Int) (zup s1 35 (21 * (i + 1) + (j + 1)) ((y3 + 1 : Nat) : Int)) Q else gM_changesOf_l6 f (n : Int) (m : Int) ((i + 1 : Nat) : Int) ((j + 1 + 1 : Nat) : Int) (zup s1 35 (21 * (i + 1) + (j + 1)) ((y2 + 1 : Nat) : Int)) Q)
          else (if ((y3 + 1 : Nat) : Int) < (y : Int) then gM_changesOf_l6 f (n : Int) (m : Int) ((i + 1 : Nat) : Int) ((j + 1 + 1 : Nat) : Int) (zup s1 35 (21 * (i + 1) + (j + 1)) ((y3 + 1 : Nat) : Int)) Q else gM_changesOf_l6 f (n : Int) (m : Int) ((i + 1 : Nat) : Int) ((j + 1 + 1 : Nat) : Int) (zup s1 35 (21 * (i + 1) + (j + 1)) (y : Int)) Q)) = gM_changesOf_l6 f (n : Int) (m : Int) ((i + 1 : Nat) : Int) ((j + 1 + 1 : Nat) : Int) (zup s1 35 (21 * (i + 1) + (j + 1)) ((eD s a b v (i + 1) (j + 1) : Nat) : Int)) Q := fun y hy => by
        by_cases g1 : ((y2 + 1 : Nat) : Int) < (y : Int)
        · rw [if_pos g1]
          by_cases g2 : ((y3 + 1 : Nat) : Int) < ((y2 + 1 : Nat) : Int)
          · rw [if_pos g2, show y3 + 1 = eD s a b v (i + 1) (j + 1) by omega]
          · rw [if_neg g2, show y2 + 1 = eD s a b v (i + 1) (j + 1) by omega]
        · rw [if_neg g1]
          by_cases g2 : ((y3 + 1 : Nat) : Int) < (y : Int)
          · rw [if_pos g2, show y3 + 1 = eD s a b v (i + 1) (j + 1) by omega]
          · rw [if_neg g2, show y = eD s a b v (i + 1) (j + 1) by omega]
      have g0 : zadd (y1 : Int) 0 = (y1 : Int) := by rw [zadd_e (by omega) (by omega)]; omega
      have g1 : zadd (y1 : Int) 1 = ((y1 + 1 : Nat) : Int) := by rw [zadd_e (by omega) (by omega)]; omega
      rw [gM_changesOf_l6]
      simp only [yjn, yvl, show ¬ (m : Int) < ((j + 1 : Nat) : Int) by omega, if_false, show ¬ ((i + 1 : Nat) : Int) = 0 by omega, show ¬ ((j + 1 : Nat) : Int) = 0 by omega, e3, e5, yrd_n b2, d1, yrd_n (show i < 20 by omega), a1, e4, yrd_n (show j < 20 by omega), c1, x1, ybd_s, show (0 : Int) < ((i + 1 : Nat) : Int) by omega, show (0 : Int) < ((j + 1 : Nat) : Int) by omega, if_true, e6, yrd_n b3, d2, f2, e1, e7, yrd_n b4, d3, f3, ywi_n b1, e2, g0, g1]
      rcases x2 with w | w
      · rw [if_neg (by omega)]
        rw [if_pos (x3.mp w)] at st
        exact fin y1 (by omega)
      · rw [if_pos w]
        rw [if_neg (fun h => by have := x3.mpr h; omega)] at st
        exact fin (y1 + 1) (by omega)
theorem m_row_l {i : Nat} (n20 : n ≤ 20) (m20 : m ≤ 20) (hi : i ≤ n) : ∀ (d f j : Nat) (s1 : zSg), m + 1 - j = d → d < f → j ≤ m + 1 → RWs R s s1 a b v n m → DPi s s1 a b v m i j → ∃ s2, (∀ Q, gM_changesOf_l6 f (n : Int) (m : Int) (i : Int) (j : Int) s1 Q = Q (n : Int) (m : Int) (i : Int) s2) ∧ RWs R s s2 a b v n m ∧ DPi s s2 a b v m (i + 1) 0 := by
  intro d
  induction d with
  | zero =>
    intro f j s1 h1 h2 h3 hr dp
    obtain ⟨f, rfl⟩ : ∃ f', f = f' + 1 := ⟨f - 1, by omega⟩
    refine ⟨s1, fun Q => ?_, hr, fun i' j' k1 k2 => dp i' j' k1 (by omega)⟩
    rw [gM_changesOf_l6]
    simp only [yjn]
    rw [if_pos (by omega)]
  | succ d ih =>
    intro f j s1 h1 h2 h3 hr dp
    obtain ⟨f, rfl⟩ : ∃ f', f = f' + 1 := ⟨f - 1, by omega⟩
    obtain ⟨s2, j1, j2⟩ := ih f (j + 1) _ (by omega) (by omega) (by omega) hr.up (dp.up m20 (by omega))
    exact ⟨s2, fun Q => (m_cell n20 m20 hi (by omega) hr dp f Q).trans (j1 Q), j2⟩
theorem m_tab_l (n20 : n ≤ 20) (m20 : m ≤ 20) : ∀ (d f i : Nat) (s1 : zSg), n + 1 - i = d → d < f → i ≤ n + 1 → RWs R s s1 a b v n m → DPi s s1 a b v m i 0 → ∃ s2, (∀ Q, gM_changesOf_l5 f (n : Int) (m : Int) (i : Int) s1 Q = Q (n : Int) (m : Int) s2) ∧ RWs R s s2 a b v n m ∧ DPi s s2 a b v m (n + 1) 0 := by
  intro d
  induction d with
  | zero =>
    intro f i s1 h1 h2 h3 hr dp
    obtain ⟨f, rfl⟩ : ∃ f', f = f' + 1 := ⟨f - 1, by omega⟩
    obtain rfl : i = n + 1 := by omega
    refine ⟨s1, fun Q => ?_, hr, dp⟩
    rw [gM_changesOf_l5, if_pos (by omega)]
  | succ d ih =>
    intro f i s1 h1 h2 h3 hr dp
    obtain ⟨f, rfl⟩ : ∃ f', f = f' + 1 := ⟨f - 1, by omega⟩
    obtain ⟨s2, q1, q2, q3⟩ := m_row_l n20 m20 (i := i) (by omega) (m + 1) zFU 0 s1 rfl (by rw [zFU_e]; omega) (by omega) hr dp
    obtain ⟨s3, j1, j2⟩ := ih f (i + 1) s2 (by omega) (by omega) (by omega) q2 q3
    have e2 : zadd (i : Int) 1 = ((i + 1 : Nat) : Int) := by rw [zadd_e (by omega) (by omega)]; omega
    have q1' : ∀ Q, gM_changesOf_l6 zFU (n : Int) (m : Int) (i : Int) 0 s1 Q = Q (n : Int) (m : Int) (i : Int) s2 := q1
    refine ⟨s3, fun Q => ?_, j2⟩
    rw [← j1 Q, gM_changesOf_l5, if_neg (by omega), q1']
    simp only [yvl, e2]
theorem m_changesOf {s1 : zSg} (I : IV X H s A B K ow) (z : zq R s s1) (ha : (a : Int) < s 0 2) (hka : s 3 a = 4) (hb : (b : Int) < s 0 2) (hv : v < 4) : ∃ s2, gM_changesOf (a : Int) (b : Int) (v : Int) s1 = some (((edV s a b v : Nat) : Int), s2) ∧ zq R s s2 := by
  have hn := I.n
  have n20 := cntP_le (P := hB s a v) 20
  have m20 := cntP_le (P := hB s b v) 20
  have z29 : s1 29 = s 29 := funext fun j => z.1 29 j rfl
  obtain ⟨s2, j1, j2, j3, j4⟩ := m_rows_l (s := s) (a := a) (b := b) (v := v) (by omega) (by omega) hv 20 zFU 0 s1 rfl (by rw [zFU_e]; omega) (by omega) z (fun k' h => absurd h (by omega)) (fun k' h => absurd h (by omega))
  have sa := fun j hj => (((I.st ha).2.2.2.2.1 hka).2.2.2 j hj).1
  have hr : RWs R s s2 a b v (cntP (hB s a v) 20) (cntP (hB s b v) 20) := by
    refine ⟨j2, fun i hi => ?_, fun j hj => ?_⟩
    · obtain ⟨k, k1, k2, k3⟩ := cntP_surj 20 i hi
      have e := edL_get k1 k2
      rw [← k3, e]
      have := sa (20 * v + k) (by omega)
      rw [show 80 * a + (20 * v + k) = 80 * a + 20 * v + k by omega] at this
      exact ⟨j3 k k1 k2, by omega, of_decide_eq_true k2, this.2⟩
    · obtain ⟨k, k1, k2, k3⟩ := cntP_surj 20 j hj
      have e := edL_get k1 k2
      rw [← k3, e]
      exact ⟨j4 k k1 k2, by omega⟩
  obtain ⟨s3, i1, i2, i3⟩ := m_tab_l n20 m20 (cntP (hB s a v) 20 + 1) zFU 0 s2 rfl (by rw [zFU_e]; omega) (by omega) hr (fun i' j' _ h => absurd h (by omega))
  have fin := i3 (cntP (hB s a v) 20) (cntP (hB s b v) 20) (Nat.le_refl _) (Or.inl (by omega))
  have e1 : zadd (zmul 21 ((cntP (hB s a v) 20 : Nat) : Int)) ((cntP (hB s b v) 20 : Nat) : Int) = ((21 * cntP (hB s a v) 20 + cntP (hB s b v) 20 : Nat) : Int) := by rw [zmul_e (by omega) (by omega), zadd_e (by omega) (by omega)]; omega
  have b1 : 21 * cntP (hB s a v) 20 + cntP (hB s b v) 20 < 441 := by omega
  have j1' : ∀ Q, gM_changesOf_l1 zFU (a : Int) (b : Int) (v : Int) 0 0 0 s1 Q = Q ((cntP (hB s a v) 20 : Nat) : Int) ((cntP (hB s b v) 20 : Nat) : Int) s2 := j1
  have i1' : ∀ Q, gM_changesOf_l5 zFU ((cntP (hB s a v) 20 : Nat) : Int) ((cntP (hB s b v) 20 : Nat) : Int) 0 s2 Q = Q ((cntP (hB s a v) 20 : Nat) : Int) ((cntP (hB s b v) 20 : Nat) : Int) s3 := i1
  refine ⟨s3, ?_, i2.1⟩
  unfold gM_changesOf
  rw [j1', i1', e1, yrd_n b1, fin]
  unfold edV eD
  rw [edL_len, edL_len]
theorem m_dist_l (I : IV X H s A B K ow) (ha : (a : Int) < s 0 2) (hka : s 3 a = 4) (hb : (b : Int) < s 0 2) : ∀ (d f v : Nat) (s1 : zSg), 4 - v = d → d < f → v ≤ 4 → zq R s s1 → ∃ s2, gM_distance_l1 f (a : Int) (b : Int) ((edS4 s a b v : Nat) : Int) (v : Int) s1 = some (edist s a b, s2) ∧ zq R s s2 := by
  intro d
  induction d with
  | zero =>
    intro f v s1 h1 h2 h3 z
    obtain ⟨f, rfl⟩ : ∃ f', f = f' + 1 := ⟨f - 1, by omega⟩
    obtain rfl : v = 4 := by omega
    refine ⟨s1, ?_, z⟩
    rw [gM_distance_l1, if_neg (by omega), edS4_e]
  | succ d ih =>
    intro f v s1 h1 h2 h3 z
    obtain ⟨f, rfl⟩ : ∃ f', f = f' + 1 := ⟨f - 1, by omega⟩
    obtain ⟨s2, q1, q2⟩ := m_changesOf (v := v) I z ha hka hb (by omega)
    obtain ⟨s3, j1, j2⟩ := ih f (v + 1) s2 (by omega) (by omega) (by omega) q2
    have l1 := edS4_le (s := s) (a := a) (b := b) v
    have l2 := edV_le (s := s) (a := a) (b := b) (v := v)
    have e1 : zadd ((edS4 s a b v : Nat) : Int) ((edV s a b v : Nat) : Int) = ((edS4 s a b (v + 1) : Nat) : Int) := by
      rw [zadd_e (by omega) (by omega)]
      show _ = ((edS4 s a b v + edV s a b v : Nat) : Int)
      omega
    have e2 : zadd (v : Int) 1 = ((v + 1 : Nat) : Int) := by rw [zadd_e (by omega) (by omega)]; omega
    refine ⟨s3, ?_, j2⟩
    rw [← j1, gM_distance_l1, if_pos (by omega)]
    simp only [q1, ybd_s, yvl, e1, e2]
theorem m_distance {s1 : zSg} (I : IV X H s A B K ow) (z : zq R s s1) (ha : (a : Int) < s 0 2) (hka : s 3 a = 4) (hb : (b : Int) < s 0 2) : ∃ s2, gM_distance (a : Int) (b : Int) s1 = some (edist s a b, s2) ∧ zq R s s2 := m_dist_l I ha hka hb 4 zFU 0 s1 rfl (by rw [zFU_e]; omega) (by omega) z
set_option maxRecDepth 100000 in
theorem k_changes (I : IV X H s A B K ow) {t u w : Int} : wX (fH_changes X t u w H) fun x H' => wX (gM_changes t u w s) fun y s' => y = x ∧ KD X H H' s' := by
  have F := I.1
  have hn := I.n
  unfold fH_changes gM_changes
  simp only [wX_s, wX_bd, wX_vl, wX_jn, wX_ite, wX_dv, wX_n0, wX_rb, wX_rc, wX_ry, wX_gi, wX_gr, wX_pi, wX_pz, wX_pr, wX_ai, wX_ab, wX_ar, wX_si, wX_sz, wX_sb, wX_sr, wX_ln, wX_nw, wX_na, wX_nm, wX_io, wX_ck, wX_cp, wX_cl, wX_ca, wX_sv, wX_sc, wX_rd, wX_wi, wX_wz, wX_wb, e_thingAt I, mi_isThing I, e_editionAt I, e_in, e_within, i01, ft0 F, zA10, true_and]
  by_cases h : 0 ≤ t ∧ t ≤ s 0 2 - 1
  · have ht : ((t.toNat : Nat) : Int) < s 0 2 := by omega
    have et : ((t.toNat : Nat) : Int) = t := by omega
    have hp := I.pos ht
    have hb0 : 0 ≤ t ∧ t < ((60 : Nat) : Int) := by omega
    simp only [h, and_self, true_and, if_true, not_true, if_false, show ¬ A t.toNat = 0 by omega, hb0]
    by_cases h2 : 0 ≤ u ∧ u ≤ s 0 2 - 1
    · have hu : ((u.toNat : Nat) : Int) < s 0 2 := by omega
      have eu : ((u.toNat : Nat) : Int) = u := by omega
      have hpu := I.pos hu
      have hb2 : 0 ≤ u ∧ u < ((60 : Nat) : Int) := by omega
      simp only [h2, and_self, true_and, if_true, not_true, if_false, show ¬ A u.toNat = 0 by omega, hb2]
      by_cases h3 : -1 ≤ w ∧ w ≤ 3
      · simp only [h3, and_self, not_true, if_false]
        by_cases k1 : s 3 t.toNat = 4
        · by_cases k2 : s 3 u.toNat = 4
          · obtain ⟨-, ⟨a0, -, -, a3, -⟩, -⟩ := (I.to ht).2.2.2.1 k1
            obtain ⟨-, ⟨b0, -, -, b3, -⟩, -⟩ := (I.to hu).2.2.2.1 k2
            have s1 := ((I.st ht).2.2.2.2.1 k1).1
            have s2 := ((I.st hu).2.2.2.2.1 k2).1
            have ij := I.inj (u := (s 4 t.toNat).toNat) (v := (s 4 u.toNat).toNat) (by omega) (by omega)
            simp only [k1, k2, if_true, show ¬ A t.toNat = 0 by omega, show ¬ A u.toNat = 0 by omega, if_false, a0, b0, zA2, a3, b3, Int.toNat_natCast, true_and]
            by_cases k3 : s 4 t.toNat = s 4 u.toNat
            · simp only [if_pos (ij.mpr (by rw [k3])), k3, if_true]
              by_cases h4 : w = -1
              · obtain ⟨H', q1, q2, q3⟩ := e_distanceTo I ht k1 hu k2
                obtain ⟨s', j1, j2⟩ := m_distance I (⟨zfs.rf, rfl⟩ : zq (s 36) s s) ht k1 hu
                rw [et, eu] at j1
                simp only [h4, if_true, show (-1 : Int) < 0 by omega, q1, j1, wX_s]
                (first | exact (KD.fx2 q2.1 q3 j2.1) | exact ⟨trivial, (KD.fx2 q2.1 q3 j2.1)⟩ | exact ⟨rfl, (KD.fx2 q2.1 q3 j2.1)⟩ | (refine ⟨by omega, ?_⟩; exact (KD.fx2 q2.1 q3 j2.1)))
              · obtain ⟨v, rfl⟩ : ∃ v : Nat, w = (v : Int) := ⟨w.toNat, by omega⟩
                obtain ⟨H', p, r, q1, q2, q3⟩ := e_changesTo (v := v) I ht k1 hu k2 (by omega)
                obtain ⟨s', j1, j2⟩ := m_changesOf (v := v) I (⟨zfs.rf, rfl⟩ : zq (s 36) s s) ht k1 hu (by omega)
                rw [et, eu] at j1
                simp only [h4, if_false, show ¬ (v : Int) < 0 by omega, q1, j1, wX_s]
                (first | exact (KD.fx2 (q2.fx I ht) (I.ed ht k1 q2 q3) j2.1) | exact ⟨trivial, (KD.fx2 (q2.fx I ht) (I.ed ht k1 q2 q3) j2.1)⟩ | exact ⟨rfl, (KD.fx2 (q2.fx I ht) (I.ed ht k1 q2 q3) j2.1)⟩ | (refine ⟨by omega, ?_⟩; exact (KD.fx2 (q2.fx I ht) (I.ed ht k1 q2 q3) j2.1)))
            · have : ¬ A (s 4 t.toNat).toNat = A (s 4 u.toNat).toNat := fun e => k3 (by have := ij.mp e; omega)
              simp only [this, k3, if_false]
              (first | exact KD.rf I | exact ⟨trivial, KD.rf I⟩ | exact ⟨rfl, KD.rf I⟩)
          · simp only [k1, k2, if_true, if_false, show ¬ A t.toNat = 0 by omega]
            (first | exact KD.rf I | exact ⟨trivial, KD.rf I⟩ | exact ⟨rfl, KD.rf I⟩)
        · simp only [k1, if_true, if_false]
          (first | exact KD.rf I | exact ⟨trivial, KD.rf I⟩ | exact ⟨rfl, KD.rf I⟩)
      · simp only [h3, not_false_iff, if_true]
        (first | exact KD.rf I | exact ⟨trivial, KD.rf I⟩ | exact ⟨rfl, KD.rf I⟩)
    · simp only [h2, if_false, if_true, not_false_iff]
      (first | exact KD.rf I | exact ⟨trivial, KD.rf I⟩ | exact ⟨rfl, KD.rf I⟩)
  · simp only [h, if_false, if_true, not_false_iff]
    (first | exact KD.rf I | exact ⟨trivial, KD.rf I⟩ | exact ⟨rfl, KD.rf I⟩)
end CHANGES5
