section CHANGES3
variable {X : Nat} {H : zHp} {s : zSg} {A : Nat → Nat} {B : Nat → Nat → Nat} {K : Nat → Nat} {ow : Nat → Nat × Nat} {a b v : Nat}
theorem outer_l (I : IV X H s A B K ow) (ha : (a : Int) < s 0 2) (hka : s 3 a = 4) (hb : (b : Int) < s 0 2) (hkb : s 3 b = 4) (hv : v < 4) : ∀ (d f i p r : Nat) (H1 : zHp), 20 - i = d → d < f → i ≤ 20 → Ech A a H H1 → EPr A a H1 p r → (∀ j', j' ≤ 20 → zct H1 r j' = ((eD s a b v (cntP (hB s a v) i) (cntP (hB s b v) j') : Nat) : Int)) →
    ∃ H2 p2 r2, (∀ Q, fEdition_changesTo_l5 f (A a) (A b) (v : Int) (i : Int) H1 Q = Q (A a) H2) ∧ Ech A a H H2 ∧ EPr A a H2 p2 r2 ∧ ∀ j', j' ≤ 20 → zct H2 r2 j' = ((eD s a b v (cntP (hB s a v) 20) (cntP (hB s b v) j') : Nat) : Int) := by
  intro d
  induction d with
  | zero =>
    intro f i p r H1 h1 h2 h3 ec ep hr
    obtain ⟨f, rfl⟩ : ∃ f', f = f' + 1 := ⟨f - 1, by omega⟩
    obtain rfl : i = 20 := by omega
    refine ⟨H1, p, r, fun Q => ?_, ec, ep, hr⟩
    rw [fEdition_changesTo_l5]
    simp only [yjn]
    rw [if_neg (by omega)]
  | succ d ih =>
    intro f i p r H1 h1 h2 h3 ec ep hr
    obtain ⟨f, rfl⟩ : ∃ f', f = f' + 1 := ⟨f - 1, by omega⟩
    have I1 := I.ed ha hka ec ep
    obtain ⟨⟨m0, m1, m2, m3, m4⟩, ⟨a0, -⟩, w, ⟨g1, g2, g3, g4, g5, g6, g7, g8⟩, -⟩ := (I1.to ha).2.2.2.1 hka
    obtain ⟨e7, e8, e9⟩ := id ep
    have rr : r = A a + 2 ∨ r = A a + 3 := by omega
    have pr : p = A a + 2 ∨ p = A a + 3 := by omega
    have tr : ztg H1 r = 30 ∧ zln H1 r = 21 := by
      rcases rr with rfl | rfl
      · exact ⟨g3, g4⟩
      · exact ⟨g5, g6⟩
    have tp : ztg H1 p = 30 ∧ zln H1 p = 21 := by
      rcases pr with rfl | rfl
      · exact ⟨g3, g4⟩
      · exact ⟨g5, g6⟩
    have ca := cntP_le (P := hB s a v) i
    have i1 : zadd (i : Int) 1 = ((i + 1 : Nat) : Int) := by rw [zadd_e (by omega) (by omega)]; omega
    by_cases g : hB s a v i = true
    · obtain ⟨M, -, bo, -⟩ := I1.eb ha hka hv (show i < 20 by omega) g
      have bpos := bo.1.1
      have ei : cntP (hB s a v) (i + 1) = cntP (hB s a v) i + 1 := by show _ + (if hB s a v i = true then 1 else 0) = _; rw [if_pos g]
      -- the rows change places
      obtain ⟨H2, e2⟩ : ∃ H2, H2 = zwr (zwr H1 (A a) 7 (r : Int)) (A a) 8 (p : Int) := ⟨_, rfl⟩
      have ec2 : Ech A a H H2 := ec.tr ⟨by rw [e2]; exact (zst.rf.wr _ _ _).wr _ _ _, by rw [e2]; rfl, by rw [e2]; rfl, fun q k q1 q2 q3 => by rw [e2, zct_wr, if_neg (fun w => q3 ⟨w.1, Or.inr w.2⟩), zct_wr, if_neg (fun w => q3 ⟨w.1, Or.inl w.2⟩)]⟩
      have c7 : zct H2 (A a) 7 = (r : Int) := by rw [e2, zct_wr, if_neg (by omega), zct_wr, if_pos ⟨rfl, rfl⟩]
      have c8 : zct H2 (A a) 8 = (p : Int) := by rw [e2, zct_wr, if_pos ⟨rfl, rfl⟩]
      have oq : ∀ q k, q ≠ A a → zct H2 q k = zct H1 q k := fun q k h => by rw [e2, zct_wr, if_neg (fun w => h w.1), zct_wr, if_neg (fun w => h w.1)]
      have tg2 : ∀ q, ztg H2 q = ztg H1 q ∧ zln H2 q = zln H1 q := fun q => by rw [e2]; exact ⟨rfl, rfl⟩
      have hr2 : ∀ j', j' ≤ 20 → zct H2 r j' = ((eD s a b v (cntP (hB s a v) i) (cntP (hB s b v) j') : Nat) : Int) := fun j' hj' => by rw [oq _ _ (by omega)]; exact hr j' hj'
      have r0 : zct H2 r 0 = ((cntP (hB s a v) i : Nat) : Int) := by
        rw [hr2 0 (by omega)]
        exact congrArg (fun n : Nat => (n : Int)) (edi0 (c := alike s) (f := fun i => (edL s a v).getD i 0) (g := fun i => (edL s b v).getD i 0))
      obtain ⟨H3, e3⟩ : ∃ H3, H3 = zwr H2 p 0 ((cntP (hB s a v) i + 1 : Nat) : Int) := ⟨_, rfl⟩
      have ec3 : Ech A a H H3 := by rw [e3]; exact ec2.wr pr
      have ep3 : EPr A a H3 r p := ⟨by rw [e3, zct_wr, if_neg (by omega)]; exact c7, by rw [e3, zct_wr, if_neg (by omega)]; exact c8, by omega⟩
      obtain ⟨H4, q1, q2, q3, q4⟩ := fill_l I ha hka hb hkb hv (show i < 20 by omega) g 20 zFU 0 H3 rfl (by rw [zFU_e]; omega) (by omega) ec3 ep3 (fun j' hj' => by rw [e3, zct_wr, if_neg (by omega)]; exact hr2 j' hj') (fun j' hj' => by
        obtain rfl : j' = 0 := by omega
        rw [e3, zct_wr, if_pos ⟨rfl, rfl⟩]
        exact congrArg (fun n : Nat => (n : Int)) (edi0 (c := alike s) (f := fun i => (edL s a v).getD i 0) (g := fun i => (edL s b v).getD i 0)).symm)
      obtain ⟨H5, p5, r5, j1, j2⟩ := ih f (i + 1) r p H4 (by omega) (by omega) (by omega) q2 q3 (by rw [ei]; exact q4)
      refine ⟨H5, p5, r5, fun Q => ?_, j2⟩
      rw [← j1 Q]
      have z1 : zadd ((cntP (hB s a v) i : Nat) : Int) 1 = ((cntP (hB s a v) i + 1 : Nat) : Int) := by rw [zadd_e (by omega) (by omega)]; omega
      have jb : 0 ≤ (0 : Int) ∧ (0 : Int) < ((21 : Nat) : Int) := by omega
      have q1' : fEdition_fillRow (A a) (B a (20 * v + i)) (A b) (v : Int) H2 = some ((), H4) := by
        unfold fEdition_fillRow
        simp only [ygr, yai, ysi, (tg2 _).1, (tg2 _).2, a0, zA2, if_true, c7, c8, Int.toNat_natCast, tr.1, tr.2, tp.1, tp.2, true_or, true_and, jb, show (0 : Int).toNat = 0 from rfl, r0, z1, ← e3]
        exact q1
      rw [fEdition_changesTo_l5]
      simp only [yjn, yvl, ygr, ypr, yck, show (i : Int) < 20 by omega, if_true, a0, zA2, e_barP I1 ha hka hv (show i < 20 by omega), ybd_s, g, show ¬ B a (20 * v + i) = 0 by omega, if_false, e7, e8, Int.toNat_natCast, ztg_wr, ← e2, (tg2 _).1, q1', i1]
    · have ei : cntP (hB s a v) (i + 1) = cntP (hB s a v) i := by show _ + (if hB s a v i = true then 1 else 0) = _; rw [if_neg g]; rfl
      obtain ⟨H5, p5, r5, j1, j2⟩ := ih f (i + 1) p r H1 (by omega) (by omega) (by omega) ec ep (by rw [ei]; exact hr)
      refine ⟨H5, p5, r5, fun Q => ?_, j2⟩
      rw [← j1 Q, fEdition_changesTo_l5]
      simp only [yjn, yvl, yck, show (i : Int) < 20 by omega, if_true, a0, zA2, e_barP I1 ha hka hv (show i < 20 by omega), ybd_s, g, Bool.false_eq_true, if_false, if_true, i1]
theorem e_changesTo (I : IV X H s A B K ow) (ha : (a : Int) < s 0 2) (hka : s 3 a = 4) (hb : (b : Int) < s 0 2) (hkb : s 3 b = 4) (hv : v < 4) : ∃ H' p r, fEdition_changesTo (A a) (A b) (v : Int) H = some (((edV s a b v : Nat) : Int), H') ∧ Ech A a H H' ∧ EPr A a H' p r := by
  obtain ⟨⟨m0, m1, m2, m3, m4⟩, ⟨a0, -⟩, w, ⟨g1, g2, g3, g4, g5, g6, g7, g8⟩, -⟩ := (I.to ha).2.2.2.1 hka
  obtain ⟨p, r, e7, e8, e9⟩ : ∃ p r, EPr A a H p r := by
    rcases w with ⟨x1, x2⟩ | ⟨x1, x2⟩
    · exact ⟨A a + 2, A a + 3, x1, x2, Or.inl ⟨rfl, rfl⟩⟩
    · exact ⟨A a + 3, A a + 2, x1, x2, Or.inr ⟨rfl, rfl⟩⟩
  have rr : r = A a + 2 ∨ r = A a + 3 := by omega
  have tr : ztg H r = 30 ∧ zln H r = 21 := by
    rcases rr with rfl | rfl
    · exact ⟨g3, g4⟩
    · exact ⟨g5, g6⟩
  have ec1 : Ech A a H (zwr H r 0 0) := Ech.rf.wr rr
  have ep1 : EPr A a (zwr H r 0 0) p r := ⟨by rw [zct_wr, if_neg (by omega)]; exact e7, by rw [zct_wr, if_neg (by omega)]; exact e8, e9⟩
  obtain ⟨H2, q1, q2, q3, q4⟩ := init_l I ha hka hb hkb hv 20 zFU 0 (zwr H r 0 0) rfl (by rw [zFU_e]; omega) (by omega) ec1 ep1 (fun j' hj' => by
    obtain rfl : j' = 0 := by omega
    rw [zct_wr, if_pos ⟨rfl, rfl⟩]; rfl)
  obtain ⟨H3, p3, r3, j1, j2, j3, j4⟩ := outer_l I ha hka hb hkb hv 20 zFU 0 p r H2 rfl (by rw [zFU_e]; omega) (by omega) q2 q3 (fun j' hj' => by rw [q4 j' hj']; rfl)
  have I3 := I.ed ha hka j2 j3
  obtain ⟨-, ⟨a0', -⟩, -, ⟨g1', g2', g3', g4', g5', g6', g7', g8'⟩, -⟩ := (I3.to ha).2.2.2.1 hka
  have tr3 : ztg H3 r3 = 30 ∧ zln H3 r3 = 21 := by
    rcases (show r3 = A a + 2 ∨ r3 = A a + 3 by have := j3.2.2; omega) with rfl | rfl
    · exact ⟨g3', g4'⟩
    · exact ⟨g5', g6'⟩
  have jb : 0 ≤ (0 : Int) ∧ (0 : Int) < ((21 : Nat) : Int) := by omega
  have jb2 : 0 ≤ (20 : Int) ∧ (20 : Int) < ((21 : Nat) : Int) := by omega
  have q1' : ∀ Q, fEdition_changesTo_l1 zFU (A a) (A b) (v : Int) 0 (zwr H r 0 0) Q = Q (A a) (A b) (v : Int) H2 := q1
  have j1' : ∀ Q, fEdition_changesTo_l5 zFU (A a) (A b) (v : Int) 0 H2 Q = Q (A a) H3 := j1
  refine ⟨H3, p3, r3, ?_, j2, j3⟩
  unfold fEdition_changesTo
  simp only [ygr, yai, ysi, a0, zA2, if_true, e8, Int.toNat_natCast, tr.1, tr.2, true_or, true_and, jb, show (0 : Int).toNat = 0 from rfl, q1', j1', a0', j3.2.1, tr3.1, tr3.2, jb2, show (20 : Int).toNat = 20 from rfl, j4 20 (by omega)]
  unfold edV eD
  rw [edL_len, edL_len]
theorem Ech.fx (I : IV X H s A B K ow) (ha : (a : Int) < s 0 2) {H' : zHp} (h : Ech A a H H') : FrX X H H' := by
  have := (I.pos ha).1
  exact ⟨h.1, h.2.1, h.2.2.1, fun q _ h2 k => h.2.2.2 q k (by omega) (by omega) (by omega)⟩
/-- what a distance leaves as it was -/
def FrY (X : Nat) (A : Nat → Nat) (s : zSg) (H H' : zHp) : Prop := FrX X H H' ∧ ∀ x : Nat, (x : Int) < s 0 2 → s 3 x = 4 → ∀ k, k ≠ 7 → k ≠ 8 → zct H' (A x) k = zct H (A x) k
theorem FrY.rf : FrY X A s H H := ⟨FrX.rf, fun _ _ _ _ _ _ => rfl⟩
theorem FrY.tr {H1 H2 H3 : zHp} (a : FrY X A s H1 H2) (b : FrY X A s H2 H3) : FrY X A s H1 H3 := ⟨a.1.tr b.1, fun x h1 h2 k h3 h4 => (b.2 x h1 h2 k h3 h4).trans (a.2 x h1 h2 k h3 h4)⟩
theorem Ech.fy (I : IV X H s A B K ow) (ha : (a : Int) < s 0 2) (hka : s 3 a = 4) {H' : zHp} (h : Ech A a H H') : FrY X A s H H' := by
  obtain ⟨⟨m0, m1, m2, m3, m4⟩, -⟩ := (I.to ha).2.2.2.1 hka
  exact ⟨h.fx I ha, fun x h1 h2 k h3 h4 => h.2.2.2 _ k ((I.hd h1).1.ne m2 (Or.inl (by omega))) ((I.hd h1).1.ne m3 (Or.inl (by omega))) (by omega)⟩
/-- a distance is kept -/
theorem IV.memo (I : IV X H s A B K ow) (ha : (a : Int) < s 0 2) (hka : s 3 a = 4) (hba : b < a) : IV X (zwr H (A a + 4) b (edist s a b)) s A B K ow := by
  have hn := I.n
  obtain ⟨m, q, w, t, bb⟩ := (I.to ha).2.2.2.1 hka
  obtain ⟨m0, m1, m2, m3, m4⟩ := id m
  have h1 : zst H (zwr H (A a + 4) b (edist s a b)) := zst.rf.wr _ _ _
  have hx : ∀ q k, q ≠ A a + 4 → zct (zwr H (A a + 4) b (edist s a b)) q k = zct H q k := fun q k h => by rw [zct_wr, if_neg (fun w => h w.1)]
  have h4 : ∀ k, zct (zwr H (A a + 4) b (edist s a b)) (A a + 4) k = if k = b then edist s a b else zct H (A a + 4) k := fun k => by
    rw [zct_wr]
    by_cases e : k = b
    · rw [if_pos ⟨rfl, e⟩, if_pos e]
    · rw [if_neg (fun w => e w.2), if_neg e]
  generalize zwr H (A a + 4) b (edist s a b) = H' at *
  refine I.ch (gs := []) (t := a) h1 ?_ ?_ zfs.rf (fun u _ _ => zts.rf) rfl rfl rfl rfl rfl rfl rfl (fun _ _ _ => rfl) (fun _ _ => rfl) ?_ (fun _ => ?_) I.2.2.2.2.1 rfl rfl rfl rfl rfl rfl rfl rfl rfl rfl (Or.inl rfl) (by omega)
  · intro o k ho _
    have := m4.1
    exact hx _ _ (by omega)
  · refine zfd.of fun q k hq hp => hx q k (fun e => hp ?_)
    rw [e]; exact ⟨m4.1, by rw [m4.2.2]⟩
  · refine ⟨fun w => by omega, fun w => by omega, fun w => by omega, fun _ => ?_, fun w => by omega⟩
    have kt : ∀ q, q ≤ znx H → ztg H' q = ztg H q ∧ zln H' q = zln H q := fun q hq => h1.2.2 q hq
    unfold TOe
    rw [(kt _ m0.2.1).1, (kt _ m1.2.1).1, (kt _ m1.2.1).2, (kt _ m2.2.1).1, (kt _ m2.2.1).2, (kt _ m3.2.1).1, (kt _ m3.2.1).2, (kt _ m4.2.1).1, (kt _ m4.2.1).2]
    have hA : ∀ k, zct H' (A a) k = zct H (A a) k := fun k => hx _ _ (by omega)
    have hA1 : ∀ k, zct H' (A a + 1) k = zct H (A a + 1) k := fun k => hx _ _ (by omega)
    simp only [hA, hA1]
    refine ⟨⟨m0.fr h1 (fun _ _ => rfl), m1.fr h1 (fun _ _ => rfl), m2.fr h1 (fun _ _ => rfl), m3.fr h1 (fun _ _ => rfl), m4.fr h1 (fun _ _ => rfl)⟩, q, w, t, fun j hj => ?_⟩
    obtain ⟨b1, b2⟩ := bb j hj
    refine ⟨b1, fun w => ?_⟩
    obtain ⟨bo, bv⟩ := b2 w
    have n0 : ∀ k, zct H' (B a j) k = zct H (B a j) k := fun k => hx _ _ (bo.1.ne m4 (Or.inl (by omega)))
    have n1 : ∀ k, zct H' (B a j + 1) k = zct H (B a j + 1) k := fun k => hx _ _ (bo.2.1.ne m4 (Or.inl (by omega)))
    exact ⟨bo.fc h1 (n0 0) (fun _ _ => rfl), bv.fc n0 n1 rfl (fun _ _ => rfl) (fun _ _ => rfl) (fun _ _ => rfl)⟩
  · obtain ⟨e1, e2⟩ := (I.2.2.1 a ha).2 hka
    refine ⟨by rw [hx _ _ (by omega)]; exact e1, fun j hj => ?_⟩
    rw [h4]
    by_cases c : j = b
    · rw [if_pos c, c]; exact Or.inr rfl
    · rw [if_neg c]; exact e2 j hj
def edS4 (s : zSg) (a b : Nat) : Nat → Nat
  | 0 => 0
  | v + 1 => edS4 s a b v + edV s a b v
theorem edS4_e {s : zSg} {a b : Nat} : ((edS4 s a b 4 : Nat) : Int) = edist s a b := by
  show ((0 + edV s a b 0 + edV s a b 1 + edV s a b 2 + edV s a b 3 : Nat) : Int) = ((edV s a b 0 + edV s a b 1 + edV s a b 2 + edV s a b 3 : Nat) : Int)
  omega
theorem edS4_le {s : zSg} {a b : Nat} : ∀ v, edS4 s a b v ≤ 40 * v
  | 0 => Nat.le_refl _
  | v + 1 => by
    have := edS4_le (s := s) (a := a) (b := b) v
    have := edV_le (s := s) (a := a) (b := b) (v := v)
    show edS4 s a b v + edV s a b v ≤ _
    omega
theorem dist_l (ha : (a : Int) < s 0 2) (hka : s 3 a = 4) (hb : (b : Int) < s 0 2) (hkb : s 3 b = 4) : ∀ (d f v : Nat) (H : zHp), 4 - v = d → d < f → v ≤ 4 → IV X H s A B K ow → ∃ H', (∀ Q, fEdition_distanceTo_l7 f (A a) (A b) ((edS4 s a b v : Nat) : Int) (v : Int) H Q = Q (A a) (A b) (edist s a b) H') ∧ FrY X A s H H' ∧ IV X H' s A B K ow := by
  intro d
  induction d with
  | zero =>
    intro f v H h1 h2 h3 I
    obtain ⟨f, rfl⟩ : ∃ f', f = f' + 1 := ⟨f - 1, by omega⟩
    obtain rfl : v = 4 := by omega
    refine ⟨H, fun Q => ?_, FrY.rf, I⟩
    rw [fEdition_distanceTo_l7, if_neg (by omega), edS4_e]
  | succ d ih =>
    intro f v H h1 h2 h3 I
    obtain ⟨f, rfl⟩ : ∃ f', f = f' + 1 := ⟨f - 1, by omega⟩
    obtain ⟨⟨m0, -⟩, ⟨a0, -⟩, -⟩ := (I.to ha).2.2.2.1 hka
    obtain ⟨H1, p, r, q1, q2, q3⟩ := e_changesTo (v := v) I ha hka hb hkb (by omega)
    obtain ⟨H2, j1, j2, j3⟩ := ih f (v + 1) H1 (by omega) (by omega) (by omega) (I.ed ha hka q2 q3)
    have l1 := edS4_le (s := s) (a := a) (b := b) v
    have l2 := edV_le (s := s) (a := a) (b := b) (v := v)
    have e1 : zadd ((edS4 s a b v : Nat) : Int) ((edV s a b v : Nat) : Int) = ((edS4 s a b (v + 1) : Nat) : Int) := by
      rw [zadd_e (by omega) (by omega)]
      show _ = ((edS4 s a b v + edV s a b v : Nat) : Int)
      omega
    have e2 : zadd (v : Int) 1 = ((v + 1 : Nat) : Int) := by rw [zadd_e (by omega) (by omega)]; omega
    refine ⟨H2, fun Q => ?_, (q2.fy I ha hka).tr j2, j3⟩
    rw [← j1 Q, fEdition_distanceTo_l7, if_pos (by omega)]
    simp only [yck, a0, zA2, if_true, q1, ybd_s, yvl, e1, e2]
/-- the distance as the later edition keeps it -/
theorem e_dist1 (I : IV X H s A B K ow) (ha : (a : Int) < s 0 2) (hka : s 3 a = 4) (hb : (b : Int) < s 0 2) (hkb : s 3 b = 4) (hba : b < a) : ∃ H', (if zct H (A a + 4) b = -1 then fEdition_distanceTo_l7 zFU (A a) (A b) 0 0 H (fun (x34 : Nat) (x35 : Nat) (x36 : Int) (s37 : zHp) =>
         ygr 2 6 x34 s37 fun p38 =>
         ygi 2 1 x35 s37 fun v39 =>
         ysi p38 v39 x36 s37 fun s40 =>
         ygr 2 6 x34 s40 fun p18 =>
       ygi 2 1 x35 s40 fun v19 =>
       yai p18 v19 s40 fun v20 =>
       some (v20, s40)) else some (zct H (A a + 4) b, H)) = some (edist s a b, H') ∧ FrY X A s H H' ∧ IV X H' s A B K ow := by
  by_cases g : zct H (A a + 4) b = -1
  · rw [if_pos g]
    obtain ⟨H1, j1, j2, I1⟩ := dist_l ha hka hb hkb 4 zFU 0 H rfl (by rw [zFU_e]; omega) (by omega) I
    obtain ⟨⟨m0, -, -, -, m4⟩, ⟨a0, -, -, -, -, -, a6⟩, -, ⟨-, -, -, -, -, -, g7, g8⟩, -⟩ := (I1.to ha).2.2.2.1 hka
    obtain ⟨⟨n0, -⟩, ⟨b0, -, b1, -⟩, -⟩ := (I1.to hb).2.2.2.1 hkb
    have I2 := I1.memo ha hka hba
    have jb : 0 ≤ (b : Int) ∧ (b : Int) < ((a : Nat) : Int) := by omega
    have px := m4.1
    have j1' : ∀ Q, fEdition_distanceTo_l7 zFU (A a) (A b) 0 0 H Q = Q (A a) (A b) (edist s a b) H1 := j1
    obtain ⟨H2, e2⟩ : ∃ H2, H2 = zwr H1 (A a + 4) b (edist s a b) := ⟨_, rfl⟩
    rw [← e2] at I2
    obtain ⟨-, ⟨a0', -, -, -, -, -, a6'⟩, -, ⟨-, -, -, -, -, -, g7', g8'⟩, -⟩ := (I2.to ha).2.2.2.1 hka
    obtain ⟨-, ⟨b0', -, b1', -⟩, -⟩ := (I2.to hb).2.2.2.1 hkb
    have c2 : zct H2 (A a + 4) b = edist s a b := by rw [e2, zct_wr, if_pos ⟨rfl, rfl⟩]
    refine ⟨H2, ?_, j2.tr (by rw [e2]; exact ⟨⟨zst.rf.wr _ _ _, rfl, rfl, fun q _ h2 k => by rw [zct_wr, if_neg (by omega)]⟩, fun x h1 h2 k h3 h4 => by rw [zct_wr, if_neg (fun w => (I1.hd h1).1.ne m4 (Or.inl (by omega)) w.1)]⟩), I2⟩
    rw [j1']
    simp only [ygr, ygi, ysi, yai, a0, zA2, if_true, a6, Int.toNat_natCast, b0, b1, g7, g8, true_or, true_and, jb, and_self, ← e2, a0', a6', b0', b1', g7', g8', c2]
  · rw [if_neg g]
    obtain ⟨-, e2⟩ := (I.2.2.1 a ha).2 hka
    rcases e2 b hba with w | w
    · exact absurd w g
    · exact ⟨H, by rw [w], FrY.rf, I⟩
theorem e_distanceTo (I : IV X H s A B K ow) (ha : (a : Int) < s 0 2) (hka : s 3 a = 4) (hb : (b : Int) < s 0 2) (hkb : s 3 b = 4) : ∃ H', fEdition_distanceTo (A a) (A b) H = some (edist s a b, H') ∧ FrY X A s H H' ∧ IV X H' s A B K ow := by
  obtain ⟨-, ⟨a0, -, a1, -, -, -, a6⟩, -, ⟨-, -, -, -, -, -, g7, g8⟩, -⟩ := (I.to ha).2.2.2.1 hka
  obtain ⟨-, ⟨b0, -, b1, -, -, -, b6⟩, -, ⟨-, -, -, -, -, -, f7, f8⟩, -⟩ := (I.to hb).2.2.2.1 hkb
  unfold fEdition_distanceTo
  rcases Nat.lt_trichotomy a b with h | h | h
  · obtain ⟨H', q1, q2, q3⟩ := e_dist1 I hb hkb ha hka h
    have jb : 0 ≤ (a : Int) ∧ (a : Int) < ((b : Nat) : Int) := by omega
    refine ⟨H', ?_, q2, q3⟩
    rw [edist_sym, ← q1]
    simp only [yjn, ygi, yln, a0, b0, zA2, if_true, a1, b1, show (a : Int) < (b : Int) by omega, show ¬ (a : Int) < 0 by omega, if_false, f7, f8, Nat.reduceLeDiff, and_self, jb]
    simp only [ygr, yai, b0, zA2, if_true, b6, Int.toNat_natCast, f7, f8, Nat.reduceLeDiff, and_self, show (a : Int) < (b : Int) by omega, true_or, true_and, jb]
  · subst h
    refine ⟨H, ?_, FrY.rf, I⟩
    rw [edist_self]
    simp only [yjn, ygi, ygr, yln, a0, zA2, if_true, a1, show ¬ (a : Int) < (a : Int) by omega, if_false, show ¬ (a : Int) < 0 by omega, a6, Int.toNat_natCast, g7, g8, Nat.reduceLeDiff, and_self]
  · obtain ⟨H', q1, q2, q3⟩ := e_dist1 I ha hka hb hkb h
    have jb : 0 ≤ (b : Int) ∧ (b : Int) < ((a : Nat) : Int) := by omega
    refine ⟨H', ?_, q2, q3⟩
    rw [← q1]
    simp only [yjn, ygi, yln, a0, b0, zA2, if_true, a1, b1, show ¬ (a : Int) < (b : Int) by omega, show ¬ (b : Int) < 0 by omega, if_false, g7, g8, Nat.reduceLeDiff, and_self, jb]
    simp only [ygr, yai, a0, zA2, if_true, a6, Int.toNat_natCast, g7, g8, Nat.reduceLeDiff, and_self, show (b : Int) < (a : Int) by omega, true_or, true_and, jb]
end CHANGES3
