section CHANGES2
variable {X : Nat} {H : zHp} {s : zSg} {A : Nat → Nat} {B : Nat → Nat → Nat} {K : Nat → Nat} {ow : Nat → Nat × Nat} {a b v : Nat}
theorem e_barP (I : IV X H s A B K ow) {x k : Nat} (hx : (x : Int) < s 0 2) (hk : s 3 x = 4) (hv : v < 4) (h20 : k < 20) : fEdition_barOf (A x) (v : Int) (k : Int) H = some (if hB s x v k = true then B x (20 * v + k) else 0, H) := by
  rw [e_barOf I hx hk]
  have e : 80 * x + (20 * ((v : Int)).toNat + ((k : Int)).toNat) = 80 * x + 20 * v + k := by rw [Int.toNat_natCast, Int.toNat_natCast]; omega
  have e2 : 20 * ((v : Int)).toNat + ((k : Int)).toNat = 20 * v + k := by rw [Int.toNat_natCast, Int.toNat_natCast]
  have hi : hB s x v k = true ↔ 0 ≤ s 29 (80 * x + 20 * v + k) := decide_eq_true_iff
  rw [e, e2]
  by_cases g : hB s x v k = true
  · rw [if_pos g, if_pos ⟨by omega, by omega, hi.mp g⟩]
  · rw [if_neg g, if_neg (fun w => g (hi.mpr w.2.2))]
theorem IV.eb (I : IV X H s A B K ow) {x k : Nat} (hx : (x : Int) < s 0 2) (hk : s 3 x = 4) (hv : v < 4) (h20 : k < 20) (hp : hB s x v k = true) : ∃ M : Nat, s 29 (80 * x + 20 * v + k) = (M : Int) ∧ BarO X H ow (B x (20 * v + k)) (x + 1) (20 * v + k) ∧ BarV H (B x (20 * v + k)) (M : Int) (sh (s 26) (8 * (80 * x + 20 * v + k))) (sh (s 27) (8 * (80 * x + 20 * v + k))) (sh (s 28) (8 * (80 * x + 20 * v + k))) ∧ ∀ i, i < M → NR (-23) 84 (s 26 (8 * (80 * x + 20 * v + k) + i)) (s 27 (8 * (80 * x + 20 * v + k) + i)) (s 28 (8 * (80 * x + 20 * v + k) + i)) := by
  have h0 : 0 ≤ s 29 (80 * x + 20 * v + k) := of_decide_eq_true hp
  have e : 80 * x + (20 * v + k) = 80 * x + 20 * v + k := by omega
  obtain ⟨-, -, -, -, bb⟩ := (I.to hx).2.2.2.1 hk
  obtain ⟨-, b2⟩ := bb (20 * v + k) (by omega)
  obtain ⟨-, -, -, s4⟩ := (I.st hx).2.2.2.2.1 hk
  obtain ⟨-, s5⟩ := s4 (20 * v + k) (by omega)
  rw [e] at b2 s5
  obtain ⟨bo, bv⟩ := b2 h0
  refine ⟨(s 29 (80 * x + 20 * v + k)).toNat, by omega, bo, ?_, fun i hi => s5 i (by omega)⟩
  rw [show (((s 29 (80 * x + 20 * v + k)).toNat : Nat) : Int) = s 29 (80 * x + 20 * v + k) by omega]
  exact bv
theorem e_alike (I : IV X H s A B K ow) (ha : (a : Int) < s 0 2) (hka : s 3 a = 4) (hb : (b : Int) < s 0 2) (hkb : s 3 b = 4) (hv : v < 4) {i j : Nat} (hi : i < 20) (hj : j < 20) (pa : hB s a v i = true) (pb : hB s b v j = true) : ∃ r, fBar_sameNotes (B a (20 * v + i)) (B b (20 * v + j)) H = some (r, H) ∧ (r = 1 ∨ r = 0) ∧ (r = 1 ↔ alike s (80 * a + 20 * v + i) (80 * b + 20 * v + j) = true) := by
  obtain ⟨M, m1, m2, m3, m4⟩ := I.eb ha hka hv hi pa
  obtain ⟨N, n1, n2, n3, n4⟩ := I.eb hb hkb hv hj pb
  obtain ⟨r, r1, r2, r3⟩ := e_same m2.h n2.h m3 n3 (show -99 ≤ (-23 : Int) by omega) (show (84 : Int) ≤ 1000 by omega) (show -99 ≤ (-23 : Int) by omega) (show (84 : Int) ≤ 1000 by omega) (fun i hi => m4 i hi) (fun i hi => n4 i hi)
  refine ⟨r, r1, r2, r3.trans ?_⟩
  rw [alike_iff, m1, n1, Int.toNat_natCast]
  exact ⟨fun h => ⟨by omega, h.2⟩, fun h => ⟨by omega, h.2⟩⟩
def eD (s : zSg) (a b v i j : Nat) : Nat := edD (alike s) (fun i => (edL s a v).getD i 0) (fun i => (edL s b v).getD i 0) i j
theorem init_l (I : IV X H s A B K ow) (ha : (a : Int) < s 0 2) (hka : s 3 a = 4) (hb : (b : Int) < s 0 2) (hkb : s 3 b = 4) (hv : v < 4) {p r : Nat} : ∀ (d f j : Nat) (H1 : zHp), 20 - j = d → d < f → j ≤ 20 → Ech A a H H1 → EPr A a H1 p r → (∀ j', j' ≤ j → zct H1 r j' = ((cntP (hB s b v) j' : Nat) : Int)) → ∃ H2, (∀ Q, fEdition_changesTo_l1 f (A a) (A b) (v : Int) (j : Int) H1 Q = Q (A a) (A b) (v : Int) H2) ∧ Ech A a H H2 ∧ EPr A a H2 p r ∧ ∀ j', j' ≤ 20 → zct H2 r j' = ((cntP (hB s b v) j' : Nat) : Int) := by
  intro d
  induction d with
  | zero =>
    intro f j H1 h1 h2 h3 ec ep hr
    obtain ⟨f, rfl⟩ : ∃ f', f = f' + 1 := ⟨f - 1, by omega⟩
    refine ⟨H1, fun Q => ?_, ec, ep, fun j' hj' => hr j' (by omega)⟩
    rw [fEdition_changesTo_l1]
    simp only [yjn]
    rw [if_neg (by omega)]
  | succ d ih =>
    intro f j H1 h1 h2 h3 ec ep hr
    obtain ⟨f, rfl⟩ : ∃ f', f = f' + 1 := ⟨f - 1, by omega⟩
    have I1 := I.ed ha hka ec ep
    obtain ⟨⟨m0, m1, m2, m3, m4⟩, ⟨a0, -⟩, w, ⟨g1, g2, g3, g4, g5, g6, g7, g8⟩, -⟩ := (I1.to ha).2.2.2.1 hka
    obtain ⟨b0, -⟩ := ((I1.to hb).2.2.2.1 hkb).2.1
    obtain ⟨e7, e8, e9⟩ := id ep
    have rr : r = A a + 2 ∨ r = A a + 3 := by omega
    have tr : ztg H1 r = 30 ∧ zln H1 r = 21 := by
      rcases rr with rfl | rfl
      · exact ⟨g3, g4⟩
      · exact ⟨g5, g6⟩
    have cl := cntP_le (P := hB s b v) j
    have j1 : zadd (j : Int) 1 = ((j + 1 : Nat) : Int) := by rw [zadd_e (by omega) (by omega)]; omega
    have jb : 0 ≤ (j : Int) ∧ (j : Int) < ((21 : Nat) : Int) := by omega
    have jb1 : 0 ≤ ((j + 1 : Nat) : Int) ∧ ((j + 1 : Nat) : Int) < ((21 : Nat) : Int) := by omega
    have nx : ∀ x : Nat, x ≤ 1 → x = (if hB s b v j = true then 1 else 0) → ∃ H2, (∀ Q, fEdition_changesTo_l1 f (A a) (A b) (v : Int) ((j + 1 : Nat) : Int) (zwr H1 r (j + 1) (zadd ((cntP (hB s b v) j : Nat) : Int) (x : Int))) Q = Q (A a) (A b) (v : Int) H2) ∧ Ech A a H H2 ∧ EPr A a H2 p r ∧ ∀ j', j' ≤ 20 → zct H2 r j' = ((cntP (hB s b v) j' : Nat) : Int) := fun x hx ex => by
      refine ih f (j + 1) _ (by omega) (by omega) (by omega) (ec.wr rr) ⟨by rw [zct_wr, if_neg (by omega)]; exact e7, by rw [zct_wr, if_neg (by omega)]; exact e8, e9⟩ (fun j' hj' => ?_)
      rw [zct_wr]
      by_cases c : j' = j + 1
      · rw [if_pos ⟨rfl, c⟩, c, zadd_e (by omega) (by omega)]
        show _ = ((cntP (hB s b v) j + (if hB s b v j = true then 1 else 0) : Nat) : Int)
        rw [← ex]; omega
      · rw [if_neg (fun w => c w.2)]; exact hr j' (by omega)
    have run : ∀ Q, fEdition_changesTo_l1 (f + 1) (A a) (A b) (v : Int) (j : Int) H1 Q = if (if hB s b v j = true then B b (20 * v + j) else 0) = 0 then fEdition_changesTo_l1 f (A a) (A b) (v : Int) ((j + 1 : Nat) : Int) (zwr H1 r (j + 1) (zadd ((cntP (hB s b v) j : Nat) : Int) ((0 : Nat) : Int))) Q else fEdition_changesTo_l1 f (A a) (A b) (v : Int) ((j + 1 : Nat) : Int) (zwr H1 r (j + 1) (zadd ((cntP (hB s b v) j : Nat) : Int) ((1 : Nat) : Int))) Q := fun Q => by
      rw [fEdition_changesTo_l1]
      simp only [yjn, yvl, ygr, yai, ysi, yck, show (j : Int) < 20 by omega, if_true, a0, zA2, e8, Int.toNat_natCast, tr.1, tr.2, true_or, true_and, jb, and_self, hr j (Nat.le_refl _), b0, e_barP I1 hb hkb hv (show j < 20 by omega), ybd_s, j1, jb1]
      rfl
    by_cases g : hB s b v j = true
    · obtain ⟨M, -, bo, -⟩ := I1.eb hb hkb hv (show j < 20 by omega) g
      have := bo.1.1
      obtain ⟨H2, q1, q2⟩ := nx 1 (by omega) (by rw [if_pos g])
      refine ⟨H2, fun Q => ?_, q2⟩
      rw [run, if_pos g, if_neg (by omega)]
      exact q1 Q
    · obtain ⟨H2, q1, q2⟩ := nx 0 (by omega) (by rw [if_neg g])
      refine ⟨H2, fun Q => ?_, q2⟩
      rw [run, if_neg g, if_pos rfl]
      exact q1 Q
theorem fill_l (I : IV X H s A B K ow) (ha : (a : Int) < s 0 2) (hka : s 3 a = 4) (hb : (b : Int) < s 0 2) (hkb : s 3 b = 4) (hv : v < 4) {p r i : Nat} (hi : i < 20) (pi : hB s a v i = true) : ∀ (d f j : Nat) (H1 : zHp), 20 - j = d → d < f → j ≤ 20 → Ech A a H H1 → EPr A a H1 p r → (∀ j', j' ≤ 20 → zct H1 p j' = ((eD s a b v (cntP (hB s a v) i) (cntP (hB s b v) j') : Nat) : Int)) → (∀ j', j' ≤ j → zct H1 r j' = ((eD s a b v (cntP (hB s a v) i + 1) (cntP (hB s b v) j') : Nat) : Int)) →
    ∃ H2, fEdition_fillRow_l1 f (A a) (B a (20 * v + i)) (A b) (v : Int) (j : Int) H1 = some ((), H2) ∧ Ech A a H H2 ∧ EPr A a H2 p r ∧ ∀ j', j' ≤ 20 → zct H2 r j' = ((eD s a b v (cntP (hB s a v) i + 1) (cntP (hB s b v) j') : Nat) : Int) := by
  intro d
  induction d with
  | zero =>
    intro f j H1 h1 h2 h3 ec ep hp hr
    obtain ⟨f, rfl⟩ : ∃ f', f = f' + 1 := ⟨f - 1, by omega⟩
    refine ⟨H1, ?_, ec, ep, fun j' hj' => hr j' (by omega)⟩
    rw [fEdition_fillRow_l1]
    simp only [yjn]
    rw [if_neg (by omega)]
  | succ d ih =>
    intro f j H1 h1 h2 h3 ec ep hp hr
    obtain ⟨f, rfl⟩ : ∃ f', f = f' + 1 := ⟨f - 1, by omega⟩
    have I1 := I.ed ha hka ec ep
    obtain ⟨⟨m0, m1, m2, m3, m4⟩, ⟨a0, -⟩, w, ⟨g1, g2, g3, g4, g5, g6, g7, g8⟩, -⟩ := (I1.to ha).2.2.2.1 hka
    obtain ⟨b0, -⟩ := ((I1.to hb).2.2.2.1 hkb).2.1
    obtain ⟨e7, e8, e9⟩ := id ep
    have rr : r = A a + 2 ∨ r = A a + 3 := by omega
    have pr : p = A a + 2 ∨ p = A a + 3 := by omega
    have pn : p ≠ r := by omega
    have tr : ztg H1 r = 30 ∧ zln H1 r = 21 := by
      rcases rr with rfl | rfl
      · exact ⟨g3, g4⟩
      · exact ⟨g5, g6⟩
    have tp : ztg H1 p = 30 ∧ zln H1 p = 21 := by
      rcases pr with rfl | rfl
      · exact ⟨g3, g4⟩
      · exact ⟨g5, g6⟩
    have ca := cntP_le (P := hB s a v) i
    have cl := cntP_le (P := hB s b v) j
    have db : ∀ x y, eD s a b v x y ≤ x + y := fun x y => edD_le x y
    have j1 : zadd (j : Int) 1 = ((j + 1 : Nat) : Int) := by rw [zadd_e (by omega) (by omega)]; omega
    have jb : 0 ≤ (j : Int) ∧ (j : Int) < ((21 : Nat) : Int) := by omega
    have jb1 : 0 ≤ ((j + 1 : Nat) : Int) ∧ ((j + 1 : Nat) : Int) < ((21 : Nat) : Int) := by omega
    have nx : ∀ x : Int, x = ((eD s a b v (cntP (hB s a v) i + 1) (cntP (hB s b v) (j + 1)) : Nat) : Int) → ∃ H2, fEdition_fillRow_l1 f (A a) (B a (20 * v + i)) (A b) (v : Int) ((j + 1 : Nat) : Int) (zwr H1 r (j + 1) x) = some ((), H2) ∧ Ech A a H H2 ∧ EPr A a H2 p r ∧ ∀ j', j' ≤ 20 → zct H2 r j' = ((eD s a b v (cntP (hB s a v) i + 1) (cntP (hB s b v) j') : Nat) : Int) := fun x ex => by
      refine ih f (j + 1) _ (by omega) (by omega) (by omega) (ec.wr rr) ⟨by rw [zct_wr, if_neg (by omega)]; exact e7, by rw [zct_wr, if_neg (by omega)]; exact e8, e9⟩ (fun j' hj' => by rw [zct_wr, if_neg (fun w => pn w.1)]; exact hp j' hj') (fun j' hj' => ?_)
      rw [zct_wr]
      by_cases c : j' = j + 1
      · rw [if_pos ⟨rfl, c⟩, c, ex]
      · rw [if_neg (fun w => c w.2)]; exact hr j' (by omega)
    by_cases g : hB s b v j = true
    · obtain ⟨M, -, bo, -⟩ := I1.eb hb hkb hv (show j < 20 by omega) g
      obtain ⟨M', -, bo', -⟩ := I1.eb ha hka hv hi pi
      have := bo.1.1
      obtain ⟨q, q1, q2, q3⟩ := e_alike I1 ha hka hb hkb hv hi (show j < 20 by omega) pi g
      have ej : cntP (hB s b v) (j + 1) = cntP (hB s b v) j + 1 := by show _ + (if hB s b v j = true then 1 else 0) = _; rw [if_pos g]
      have st := edS (c := alike s) (f := fun i => (edL s a v).getD i 0) (g := fun i => (edL s b v).getD i 0) (i := cntP (hB s a v) i) (j := cntP (hB s b v) j)
      rw [edL_get hi pi, edL_get (show j < 20 by omega) g] at st
      have d1 := db (cntP (hB s a v) i) (cntP (hB s b v) j)
      have d2 := db (cntP (hB s a v) i) (cntP (hB s b v) j + 1)
      have d3 := db (cntP (hB s a v) i + 1) (cntP (hB s b v) j)
      have hpj := hp j (by omega)
      have hpj1 := hp (j + 1) (by omega)
      have hrj := hr j (Nat.le_refl _)
      rw [ej] at hpj1
      have st' : eD s a b v (cntP (hB s a v) i + 1) (cntP (hB s b v) j + 1) = min (min (eD s a b v (cntP (hB s a v) i) (cntP (hB s b v) j) + if alike s (80 * a + 20 * v + i) (80 * b + 20 * v + j) = true then 0 else 1) (eD s a b v (cntP (hB s a v) i) (cntP (hB s b v) j + 1) + 1)) (eD s a b v (cntP (hB s a v) i + 1) (cntP (hB s b v) j) + 1) := st
      generalize eD s a b v (cntP (hB s a v) i) (cntP (hB s b v) j) = x1 at *
      generalize eD s a b v (cntP (hB s a v) i) (cntP (hB s b v) j + 1) = x2 at *
      generalize eD s a b v (cntP (hB s a v) i + 1) (cntP (hB s b v) j) = x3 at *
      have e4 : zadd (zmin (x3 : Int) (x2 : Int)) 1 = ((min x3 x2 + 1 : Nat) : Int) := by
        have : zmin (x3 : Int) (x2 : Int) = ((min x3 x2 : Nat) : Int) := by unfold zmin; split <;> omega
        rw [this, zadd_e (by omega) (by omega)]
        omega
      have e5 : ∀ y : Nat, y ≤ 1 → zmin ((min x3 x2 + 1 : Nat) : Int) (zadd (x1 : Int) (y : Int)) = ((min (min x3 x2 + 1) (x1 + y) : Nat) : Int) := fun y hy => by
        rw [zadd_e (by omega) (by omega)]
        unfold zmin; split <;> omega
      have e5a := e5 0 (by omega)
      have e5b := e5 1 (by omega)
      rw [fEdition_fillRow_l1]
      simp only [yjn, yvl, ygr, yai, ysi, yck, show (j : Int) < 20 by omega, if_true, a0, zA2, b0, e_barP I1 hb hkb hv (show j < 20 by omega), ybd_s, g, show ¬ B b (20 * v + j) = 0 by omega, if_false, e7, e8, Int.toNat_natCast, tr.1, tr.2, tp.1, tp.2, true_or, true_and, jb, and_self, hrj, j1, jb1, hpj1, hpj, e4, bo'.h.1, zA0, q1]
      rcases q2 with w | w
      · rw [if_neg (by omega)]
        have hq := q3.mp w
        rw [if_pos hq] at st'
        have e5a' : zmin ((min x3 x2 + 1 : Nat) : Int) (zadd (x1 : Int) 0) = ((min (min x3 x2 + 1) (x1 + 0) : Nat) : Int) := e5a
        rw [e5a']
        exact nx _ (by rw [ej, st']; congr 1; omega)
      · rw [if_pos w]
        have hq : ¬ alike s (80 * a + 20 * v + i) (80 * b + 20 * v + j) = true := fun h => by have := q3.mpr h; omega
        rw [if_neg hq] at st'
        have e5b' : zmin ((min x3 x2 + 1 : Nat) : Int) (zadd (x1 : Int) 1) = ((min (min x3 x2 + 1) (x1 + 1) : Nat) : Int) := e5b
        rw [e5b']
        exact nx _ (by rw [ej, st']; congr 1; omega)
    · have ej : cntP (hB s b v) (j + 1) = cntP (hB s b v) j := by show _ + (if hB s b v j = true then 1 else 0) = _; rw [if_neg g]; rfl
      have gf : hB s b v j = false := by simpa using g
      have hrj := hr j (Nat.le_refl _)
      rw [fEdition_fillRow_l1]
      simp only [yjn, yvl, ygr, yai, ysi, yck, show (j : Int) < 20 by omega, if_true, a0, zA2, b0, e_barP I1 hb hkb hv (show j < 20 by omega), ybd_s, g, if_false, e7, e8, Int.toNat_natCast, tr.1, tr.2, true_or, true_and, jb, and_self, hrj, j1, jb1]
      exact nx _ (by rw [ej])
end CHANGES2
