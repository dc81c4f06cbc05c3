section EDITION3
variable {X : Nat} {s : zSg} {A : Nat → Nat} {B : Nat → Nat → Nat} {K : Nat → Nat} {n N0 : Nat}
theorem EHp.up {H0 H : zHp} {ow0 ow : Nat → Nat × Nat} {Sc c c' : Nat} {pc : Int} (h : EHp X H0 H ow0 ow n N0 Sc pc c) (hc : c ≤ c') : EHp X H0 H ow0 ow n N0 Sc pc c' := by
  obtain ⟨a, ⟨b1, b2⟩, d, e⟩ := h
  exact ⟨a, ⟨b1, by omega⟩, by omega, e⟩
theorem edition_p {H0 : zHp} {ow0 : Nat → Nat × Nat} {Sc : Nat} {pc sc : Int} (hn : s 0 2 = (n : Int)) (h59 : n ≤ 59) (hX : X + 99 ≤ N0) {t : Nat} (ht : t < n) (hk : s 3 t = 3) {N : Nat} (hN : s 6 t = (N : Int)) :
    ∀ (d f1 f2 b c : Nat) (H1 : zHp) (sA : zSg) (ow : Nat → Nat × Nat) (Bn : Nat → Nat), N - b = d → d < f1 → d < f2 → b ≤ N → IV X H1 s A B K ow → EHp X H0 H1 ow0 ow n N0 Sc pc c → EB X H1 sA ow Bn n N0 → ERf s sA n sc pc →
    ∃ (H2 : zHp) (sB : zSg) (ow2 : Nat → Nat × Nat) (Bn2 : Nat → Nat), fEdition_takePlate_l3 f1 (N0 + 1) (A t) (b : Int) H1 = some ((), H2) ∧ (∀ (y : Int) Q, gM_edition_l4 f2 (n : Int) y (t : Int) (s 6 (s 4 t).toNat) (b : Int) sA Q = Q (n : Int) y sB) ∧ IV X H2 s A B K ow2 ∧ EHp X H0 H2 ow0 ow2 n N0 Sc pc (c + d) ∧ EB X H2 sB ow2 Bn2 n N0 ∧ ERf s sB n sc pc := by
  intro d
  induction d with
  | zero =>
    intro f1 f2 b c H1 sA ow Bn h1 h2 h3 h4 I eh eb er
    obtain ⟨f1, rfl⟩ : ∃ f', f1 = f' + 1 := ⟨f1 - 1, by omega⟩
    obtain ⟨f2, rfl⟩ : ∃ f', f2 = f' + 1 := ⟨f2 - 1, by omega⟩
    obtain rfl : b = N := by omega
    obtain ⟨⟨m0, m1, m2⟩, ⟨a0, a1, a2, a3, a4, a5, a6⟩, ⟨l1, l2, l3, l4⟩, -, tb⟩ := (I.to (by omega : (t : Int) < s 0 2)).2.2.1 hk
    refine ⟨H1, sA, ow, Bn, ?_, fun y Q => ?_, I, eh, eb, er⟩
    · rw [hN, Int.toNat_natCast] at l4
      rw [fEdition_takePlate_l3]
      simp only [yjn, ygr, yln, a0, zA6, if_true, a5, Int.toNat_natCast, l3, l4, Nat.reduceLeDiff, and_self]
      rw [if_neg (by omega)]
    · rw [gM_edition_l4]
      simp only [yrd_n (show t < 60 by omega), (er.2.2.1 t (by omega)).2.2.2, hN]
      rw [if_neg (by omega)]
  | succ d ih =>
    intro f1 f2 b c H1 sA ow Bn h1 h2 h3 h4 I eh eb er
    obtain ⟨f1, rfl⟩ : ∃ f', f1 = f' + 1 := ⟨f1 - 1, by omega⟩
    obtain ⟨f2, rfl⟩ : ∃ f', f2 = f' + 1 := ⟨f2 - 1, by omega⟩
    obtain ⟨H2, sB, ow2, Bn2, q1, q2, q3, q4, q5, q6⟩ := edition1 I hn h59 hX eh eb er ht hk (b := b) (by omega)
    obtain ⟨H3, sC, ow3, Bn3, j1, j2, j3, j4, j5, j6⟩ := ih f1 f2 (b + 1) (c + 1) H2 sB ow2 Bn2 (by omega) (by omega) (by omega) (by omega) q3 q4 q6 q5
    exact ⟨H3, sC, ow3, Bn3, (q1 f1).trans j1, fun y Q => (q2 f2 y Q).trans (j2 y Q), j3, j4.up (by omega), j5, j6⟩
theorem edition_l {H0 : zHp} {ow0 : Nat → Nat × Nat} {Sc : Nat} {sc : Int} {P : Nat} (hn : s 0 2 = (n : Int)) (h59 : n ≤ 59) (hX : X + 99 ≤ N0) (hP : s 0 24 = (P : Int)) :
    ∀ (d f1 f2 k : Nat) (H1 : zHp) (sA : zSg) (ow : Nat → Nat × Nat) (Bn : Nat → Nat), P - k = d → d < f1 → d < f2 → k ≤ P → IV X H1 s A B K ow → EHp X H0 H1 ow0 ow n N0 Sc (P : Int) (8 * k) → EB X H1 sA ow Bn n N0 → ERf s sA n sc (P : Int) →
    ∃ (H2 : zHp) (sB : zSg) (ow2 : Nat → Nat × Nat) (Bn2 : Nat → Nat), (∀ Q, fH_edition_l4 f1 X (N0 + 1) (k : Int) H1 Q = Q X (N0 + 1) H2) ∧ (∀ Q, gM_edition_l3 f2 (n : Int) (k : Int) sA Q = Q (n : Int) sB) ∧ IV X H2 s A B K ow2 ∧ EHp X H0 H2 ow0 ow2 n N0 Sc (P : Int) (8 * P) ∧ EB X H2 sB ow2 Bn2 n N0 ∧ ERf s sB n sc (P : Int) := by
  intro d
  induction d with
  | zero =>
    intro f1 f2 k H1 sA ow Bn h1 h2 h3 h4 I eh eb er
    obtain ⟨f1, rfl⟩ : ∃ f', f1 = f' + 1 := ⟨f1 - 1, by omega⟩
    obtain ⟨f2, rfl⟩ : ∃ f', f2 = f' + 1 := ⟨f2 - 1, by omega⟩
    obtain rfl : k = P := by omega
    have F := I.1
    have g7 : zct H1 X 7 = s 0 24 := I.2.1.2.1.1
    refine ⟨H1, sA, ow, Bn, fun Q => ?_, fun Q => ?_, I, eh, eb, er⟩
    · rw [fH_edition_l4]
      simp only [ygi, ft0 F, zA10, if_true, g7, hP]
      rw [if_neg (by omega)]
    · rw [gM_edition_l3, er.2.1 24 (by omega), hP, if_neg (by omega)]
  | succ d ih =>
    intro f1 f2 k H1 sA ow Bn h1 h2 h3 h4 I eh eb er
    obtain ⟨f1, rfl⟩ : ∃ f', f1 = f' + 1 := ⟨f1 - 1, by omega⟩
    obtain ⟨f2, rfl⟩ : ∃ f', f2 = f' + 1 := ⟨f2 - 1, by omega⟩
    have F := I.1
    obtain ⟨g7, g8, g9, g10⟩ := I.2.1.2.1
    have g7 : zct H1 X 7 = s 0 24 := g7
    obtain ⟨g11, g12⟩ := g10 k (by omega)
    have g11 : zct H1 (X + 3) k = ((A (s 25 k).toNat : Nat) : Int) := g11
    obtain ⟨w1, w2⟩ := I.2.2.2.2.1.2.2.2 k (by omega)
    obtain ⟨t, et⟩ : ∃ t : Nat, s 25 k = (t : Int) := ⟨(s 25 k).toNat, by omega⟩
    rw [et, Int.toNat_natCast] at g11 w2
    have ht : t < n := by omega
    have ht' : (t : Int) < s 0 2 := by omega
    obtain ⟨p0, p1, p2, p3, p4, p5, p6, p7⟩ := I.plate ht' w2
    obtain ⟨⟨m0, m1, m2⟩, ⟨a0, a1, a2, a3, a4, a5, a6⟩, -⟩ := (I.to ht').2.2.1 w2
    obtain ⟨-, ⟨pa0, pa1, pa2, pa3, pa4, pa5, pa6, pa7⟩, -⟩ := (I.to p1).2.1 p2
    obtain ⟨⟨q1, q2⟩, q3, ⟨q4, q5⟩, q6, -⟩ := (I.st p1).2.2.1 p2
    have hs6 := ((I.st (t := (s 4 (s 4 t).toNat).toNat) (by omega)).2.1 q3).2.1
    obtain ⟨N, eN⟩ : ∃ N : Nat, s 6 t = (N : Int) := ⟨(s 6 t).toNat, by omega⟩
    obtain ⟨H2, sB, ow2, Bn2, j1, j2, j3, j4, j5, j6⟩ := edition_p (H0 := H0) (ow0 := ow0) (Sc := Sc) (pc := (P : Int)) (sc := sc) hn h59 hX ht w2 eN N zFU zFU 0 (8 * k) H1 sA ow Bn (by omega) (by rw [zFU_e]; omega) (by rw [zFU_e]; omega) (by omega) I eh eb er
    obtain ⟨H3, sC, ow3, Bn3, i1, i2, i3⟩ := ih f1 f2 (k + 1) H2 sB ow2 Bn2 (by omega) (by omega) (by omega) (by omega) j3 (j4.up (by omega)) j5 j6
    have ek : zadd (k : Int) 1 = ((k + 1 : Nat) : Int) := by rw [zadd_e (by omega) (by omega)]; omega
    have kb : 0 ≤ (k : Int) ∧ (k : Int) < ((12 : Nat) : Int) := by omega
    have pos := m0.1
    have j1' : fEdition_takePlate_l3 zFU (N0 + 1) (A t) 0 H1 = some ((), H2) := j1
    refine ⟨H3, sC, ow3, Bn3, fun Q => ?_, fun Q => ?_, i3⟩
    · rw [← i1 Q, fH_edition_l4]
      unfold fEdition_takePlate
      have g1 := eh.2.2.2.2.1.1
      simp only [ygi, ygr, yar, yck, ft0 F, zA10, if_true, g7, hP, fp0_6 F, ft3 F, fl3 F, Nat.reduceLeDiff, and_self, kb, g11, Int.toNat_natCast, show ¬ A t = 0 by omega, if_false, g1, zA2, a0, zA6, a3, pa0, zA5, pa4, e_within, ybd_s, i01, show (0 ≤ s 5 (s 4 t).toNat ∧ s 5 (s 4 t).toNat ≤ 3) by omega, not_true, j1', yvl, ek]
      rw [if_pos (by omega), if_neg (show ¬ (1 : Int) = 0 by omega)]
      rfl
    · rw [← i2 Q, gM_edition_l3, er.2.1 24 (by omega), hP, if_pos (by omega)]
      have y25 : sA 25 k = (t : Int) := by rw [er.1 25 (by omega) (by omega) (by omega) (by omega) (by omega) (by omega) (by omega) (by omega) (by omega), et]
      have y4 : sA 4 t = (((s 4 t).toNat : Nat) : Int) := by rw [(er.2.2.1 t (by omega)).2.1, p0]
      have y6 : sA 6 (s 4 t).toNat = s 6 (s 4 t).toNat := (er.2.2.1 _ (by omega)).2.2.2
      have j2' := fun Q => j2 (k : Int) Q
      simp only [yrd_n (show k < 12 by omega), y25, yrd_n (show t < 60 by omega), y4, yrd_n (show (s 4 t).toNat < 60 by omega), y6]
      refine (j2' _).trans ?_
      simp only [yvl, ek]
/-! the new edition's cells -/
def ed1 (H : zHp) (n : Nat) : zHp := zwr (zwr (zwr (zal H 3 12 fun _ => 0) (znx H + 1) 0 4) (znx H + 1) 1 (n : Int)) (znx H + 1) 4 0
def ed2 (H : zHp) (n : Nat) : zHp := zwr (zal (ed1 H n) 36 80 fun _ => 0) (znx H + 1) 5 ((znx (ed1 H n) + 1 : Nat) : Int)
def ed3 (H : zHp) (n : Nat) : zHp := zwr (zal (ed2 H n) 30 21 fun _ => 0) (znx H + 1) 7 ((znx (ed2 H n) + 1 : Nat) : Int)
def ed4 (H : zHp) (n : Nat) : zHp := zwr (zal (ed3 H n) 30 21 fun _ => 0) (znx H + 1) 8 ((znx (ed3 H n) + 1 : Nat) : Int)
def ed5 (H : zHp) (n Sc : Nat) (pc : Int) : zHp := zwr (zwr (zwr (zwr (zwr (ed4 H n) (znx H + 1) 9 0) (znx H + 1) 10 (-1)) (znx H + 1) 11 0) (znx H + 1) 2 (Sc : Int)) (znx H + 1) 3 pc
def ed6 (H : zHp) (n Sc : Nat) (pc : Int) : zHp := zwr (zal (ed5 H n Sc pc) 30 n fun _ => 0) (znx H + 1) 6 ((znx (ed5 H n Sc pc) + 1 : Nat) : Int)
def ed7 (H : zHp) (n Sc : Nat) (pc : Int) : zHp := zfil (ed6 H n Sc pc) (znx H + 5) 0 n (-1)
section ED
variable {H : zHp} {Sc : Nat} {pc : Int}
theorem ed_x1 : znx (ed1 H n) = znx H + 1 := rfl
theorem ed_x2 : znx (ed2 H n) = znx H + 2 := rfl
theorem ed_x3 : znx (ed3 H n) = znx H + 3 := rfl
theorem ed_x4 : znx (ed4 H n) = znx H + 4 := rfl
theorem ed_x5 : znx (ed5 H n Sc pc) = znx H + 4 := rfl
theorem ed_x6 : znx (ed6 H n Sc pc) = znx H + 5 := rfl
theorem ed_t0 : ztg (zal H 3 12 fun _ => 0) (znx H + 1) = 3 := by rw [ztg_al, if_pos rfl]
theorem ed_t2 : ztg (zal (ed1 H n) 36 80 fun _ => 0) (znx H + 1) = 3 := by rw [ztg_al, ed_x1, if_neg (by omega)]; exact ed_t0
theorem ed_t3 : ztg (zal (ed2 H n) 30 21 fun _ => 0) (znx H + 1) = 3 := by rw [ztg_al, ed_x2, if_neg (by omega)]; exact ed_t2
theorem ed_t4 : ztg (zal (ed3 H n) 30 21 fun _ => 0) (znx H + 1) = 3 := by rw [ztg_al, ed_x3, if_neg (by omega)]; exact ed_t3
theorem ed_t4' : ztg (ed4 H n) (znx H + 1) = 3 := ed_t4
theorem ed_t6 : ztg (zal (ed5 H n Sc pc) 30 n fun _ => 0) (znx H + 1) = 3 := by rw [ztg_al, ed_x5, if_neg (by omega)]; exact ed_t4
theorem ed_t6' : ztg (ed6 H n Sc pc) (znx H + 1) = 3 := ed_t6
theorem ed_g : ztg (ed7 H n Sc pc) (znx H + 1) = 3 ∧ ztg (ed7 H n Sc pc) (znx H + 2) = 36 ∧ zln (ed7 H n Sc pc) (znx H + 2) = 80 ∧ ztg (ed7 H n Sc pc) (znx H + 3) = 30 ∧ zln (ed7 H n Sc pc) (znx H + 3) = 21 ∧ ztg (ed7 H n Sc pc) (znx H + 4) = 30 ∧ zln (ed7 H n Sc pc) (znx H + 4) = 21 ∧ ztg (ed7 H n Sc pc) (znx H + 5) = 30 ∧ zln (ed7 H n Sc pc) (znx H + 5) = n := by
  have a2 : ztg (zal (ed1 H n) 36 80 fun _ => 0) (znx H + 2) = 36 ∧ zln (zal (ed1 H n) 36 80 fun _ => 0) (znx H + 2) = 80 := by rw [ztg_al, zln_al, ed_x1, if_pos (by omega), if_pos (by omega)]; exact ⟨rfl, rfl⟩
  have a3 : ztg (zal (ed2 H n) 30 21 fun _ => 0) (znx H + 3) = 30 ∧ zln (zal (ed2 H n) 30 21 fun _ => 0) (znx H + 3) = 21 := by rw [ztg_al, zln_al, ed_x2, if_pos (by omega), if_pos (by omega)]; exact ⟨rfl, rfl⟩
  have a4 : ztg (zal (ed3 H n) 30 21 fun _ => 0) (znx H + 4) = 30 ∧ zln (zal (ed3 H n) 30 21 fun _ => 0) (znx H + 4) = 21 := by rw [ztg_al, zln_al, ed_x3, if_pos (by omega), if_pos (by omega)]; exact ⟨rfl, rfl⟩
  have a5 : ztg (zal (ed5 H n Sc pc) 30 n fun _ => 0) (znx H + 5) = 30 ∧ zln (zal (ed5 H n Sc pc) 30 n fun _ => 0) (znx H + 5) = n := by rw [ztg_al, zln_al, ed_x5, if_pos (by omega), if_pos (by omega)]; exact ⟨rfl, rfl⟩
  have b2 : ∀ q, q ≤ znx H + 2 → ztg (zal (ed2 H n) 30 21 fun _ => 0) q = ztg (zal (ed1 H n) 36 80 fun _ => 0) q ∧ zln (zal (ed2 H n) 30 21 fun _ => 0) q = zln (zal (ed1 H n) 36 80 fun _ => 0) q := fun q hq => by rw [ztg_al, zln_al, ed_x2, if_neg (by omega), if_neg (by omega)]; exact ⟨rfl, rfl⟩
  have b3 : ∀ q, q ≤ znx H + 3 → ztg (zal (ed3 H n) 30 21 fun _ => 0) q = ztg (zal (ed2 H n) 30 21 fun _ => 0) q ∧ zln (zal (ed3 H n) 30 21 fun _ => 0) q = zln (zal (ed2 H n) 30 21 fun _ => 0) q := fun q hq => by rw [ztg_al, zln_al, ed_x3, if_neg (by omega), if_neg (by omega)]; exact ⟨rfl, rfl⟩
  have b5 : ∀ q, q ≤ znx H + 4 → ztg (zal (ed5 H n Sc pc) 30 n fun _ => 0) q = ztg (zal (ed3 H n) 30 21 fun _ => 0) q ∧ zln (zal (ed5 H n Sc pc) 30 n fun _ => 0) q = zln (zal (ed3 H n) 30 21 fun _ => 0) q := fun q hq => by rw [ztg_al, zln_al, ed_x5, if_neg (by omega), if_neg (by omega)]; exact ⟨rfl, rfl⟩
  refine ⟨ed_t6, ?_, ?_, ?_, ?_, ?_, ?_, a5.1, a5.2⟩
  · exact (b5 _ (by omega)).1.trans ((b3 _ (by omega)).1.trans ((b2 _ (by omega)).1.trans a2.1))
  · exact (b5 _ (by omega)).2.trans ((b3 _ (by omega)).2.trans ((b2 _ (by omega)).2.trans a2.2))
  · exact (b5 _ (by omega)).1.trans ((b3 _ (by omega)).1.trans a3.1)
  · exact (b5 _ (by omega)).2.trans ((b3 _ (by omega)).2.trans a3.2)
  · exact (b5 _ (by omega)).1.trans a4.1
  · exact (b5 _ (by omega)).2.trans a4.2
theorem ed_run (h59 : n ≤ 59) : fEdition_init (znx H + 1) (n : Int) Sc pc (zal H 3 12 fun _ => 0) = some ((), ed7 H n Sc pc) := by
  have em : zmax 0 (n : Int) = (n : Int) := by unfold zmax; split <;> omega
  have eA : zwr (zwr (zwr (zal H 3 12 fun _ => 0) (znx H + 1) 0 4) (znx H + 1) 1 (n : Int)) (znx H + 1) 4 0 = ed1 H n := rfl
  have eB : zwr (zal (ed1 H n) 36 80 fun _ => 0) (znx H + 1) 5 ((znx (ed1 H n) + 1 : Nat) : Int) = ed2 H n := rfl
  have eC : zwr (zal (ed2 H n) 30 21 fun _ => 0) (znx H + 1) 7 ((znx (ed2 H n) + 1 : Nat) : Int) = ed3 H n := rfl
  have eD : zwr (zal (ed3 H n) 30 21 fun _ => 0) (znx H + 1) 8 ((znx (ed3 H n) + 1 : Nat) : Int) = ed4 H n := rfl
  have eE : zwr (zwr (zwr (zwr (zwr (ed4 H n) (znx H + 1) 9 0) (znx H + 1) 10 (-1)) (znx H + 1) 11 0) (znx H + 1) 2 (Sc : Int)) (znx H + 1) 3 pc = ed5 H n Sc pc := rfl
  have eF : zwr (zal (ed5 H n Sc pc) 30 n fun _ => 0) (znx H + 1) 6 ((znx (ed5 H n Sc pc) + 1 : Nat) : Int) = ed6 H n Sc pc := rfl
  have f6 : zct (ed6 H n Sc pc) (znx H + 1) 6 = ((znx H + 5 : Nat) : Int) := by
    unfold ed6
    rw [zct_wr, if_pos ⟨rfl, rfl⟩]
    rfl
  have fl : fJArrays_fill (znx H + 5) (-1) (ed6 H n Sc pc) = some ((), ed7 H n Sc pc) := e_fill (by omega) ed_g.2.2.2.2.2.2.2.1 ed_g.2.2.2.2.2.2.2.2
  unfold fEdition_init fThing_init
  simp only [yn0, yna, ypi, ypr, ypz, ygr, ybd_s, show 0 < znx H + 1 by omega, if_true, ed_t0, ztg_wr, show zisA 20 3 = true from rfl, zA2, eA, show ((0 : Int) ≤ 80 ∧ (80 : Int) ≤ 100000) by omega, show ((0 : Int) ≤ 21 ∧ (21 : Int) ≤ 100000) by omega, and_self, show (80 : Int).toNat = 80 from rfl, show (21 : Int).toNat = 21 from rfl, ed_t2, eB, ed_t3, eC, ed_t4, eD, ed_t4', true_or, eE, em, show (0 ≤ (n : Int) ∧ (n : Int) ≤ 100000) by omega, Int.toNat_natCast, ed_t6, eF, ed_t6', f6, fl]
theorem ed_st : zst H (ed7 H n Sc pc) := by
  have s1 : zst H (ed1 H n) := (((zst.rf.al _ _ _).wr _ _ _).wr _ _ _).wr _ _ _
  have s2 : zst H (ed2 H n) := (s1.al _ _ _).wr _ _ _
  have s3 : zst H (ed3 H n) := (s2.al _ _ _).wr _ _ _
  have s4 : zst H (ed4 H n) := (s3.al _ _ _).wr _ _ _
  have s5 : zst H (ed5 H n Sc pc) := ((((s4.wr _ _ _).wr _ _ _).wr _ _ _).wr _ _ _).wr _ _ _
  have s6 : zst H (ed6 H n Sc pc) := (s5.al _ _ _).wr _ _ _
  exact s6.fil _ _ _ _
theorem ed_old {q k : Nat} (hq : q ≤ znx H) : zct (ed7 H n Sc pc) q k = zct H q k := by
  unfold ed7
  rw [zct_fil, if_neg (by omega)]
  unfold ed6
  rw [zct_wr, if_neg (by omega), zct_al, ed_x5, if_neg (by omega)]
  unfold ed5
  rw [zct_wr, if_neg (by omega), zct_wr, if_neg (by omega), zct_wr, if_neg (by omega), zct_wr, if_neg (by omega), zct_wr, if_neg (by omega)]
  unfold ed4
  rw [zct_wr, if_neg (by omega), zct_al, ed_x3, if_neg (by omega)]
  unfold ed3
  rw [zct_wr, if_neg (by omega), zct_al, ed_x2, if_neg (by omega)]
  unfold ed2
  rw [zct_wr, if_neg (by omega), zct_al, ed_x1, if_neg (by omega)]
  unfold ed1
  rw [zct_wr, if_neg (by omega), zct_wr, if_neg (by omega), zct_wr, if_neg (by omega), zct_al, if_neg (by omega)]
theorem ed_b {j : Nat} : zct (ed7 H n Sc pc) (znx H + 2) j = 0 := by
  unfold ed7
  rw [zct_fil, if_neg (by omega)]
  unfold ed6
  rw [zct_wr, if_neg (by omega), zct_al, ed_x5, if_neg (by omega)]
  unfold ed5
  rw [zct_wr, if_neg (by omega), zct_wr, if_neg (by omega), zct_wr, if_neg (by omega), zct_wr, if_neg (by omega), zct_wr, if_neg (by omega)]
  unfold ed4
  rw [zct_wr, if_neg (by omega), zct_al, ed_x3, if_neg (by omega)]
  unfold ed3
  rw [zct_wr, if_neg (by omega), zct_al, ed_x2, if_neg (by omega)]
  unfold ed2
  rw [zct_wr, if_neg (by omega), zct_al, ed_x1, if_pos (by omega)]
theorem ed_a : zct (ed7 H n Sc pc) (znx H + 1) 0 = 4 ∧ zct (ed7 H n Sc pc) (znx H + 1) 1 = (n : Int) ∧ zct (ed7 H n Sc pc) (znx H + 1) 2 = (Sc : Int) ∧ zct (ed7 H n Sc pc) (znx H + 1) 3 = pc ∧ zct (ed7 H n Sc pc) (znx H + 1) 4 = 0 ∧ zct (ed7 H n Sc pc) (znx H + 1) 5 = ((znx H + 2 : Nat) : Int) ∧ zct (ed7 H n Sc pc) (znx H + 1) 6 = ((znx H + 5 : Nat) : Int) ∧ zct (ed7 H n Sc pc) (znx H + 1) 7 = ((znx H + 3 : Nat) : Int) ∧ zct (ed7 H n Sc pc) (znx H + 1) 8 = ((znx H + 4 : Nat) : Int) := by
  have e : ∀ k, zct (ed7 H n Sc pc) (znx H + 1) k = if k = 6 then ((znx H + 5 : Nat) : Int) else if k = 3 then pc else if k = 2 then (Sc : Int) else if k = 11 then 0 else if k = 10 then -1 else if k = 9 then 0 else if k = 8 then ((znx H + 4 : Nat) : Int) else if k = 7 then ((znx H + 3 : Nat) : Int) else if k = 5 then ((znx H + 2 : Nat) : Int) else if k = 4 then 0 else if k = 1 then (n : Int) else if k = 0 then 4 else 0 := fun k => by
    unfold ed7
    rw [zct_fil, if_neg (by omega)]
    unfold ed6
    rw [zct_wr, zct_al, ed_x5, if_neg (show ¬ znx H + 1 = znx H + 4 + 1 by omega)]
    unfold ed5
    rw [zct_wr, zct_wr, zct_wr, zct_wr, zct_wr]
    unfold ed4
    rw [zct_wr, zct_al, ed_x3, if_neg (show ¬ znx H + 1 = znx H + 3 + 1 by omega)]
    unfold ed3
    rw [zct_wr, zct_al, ed_x2, if_neg (show ¬ znx H + 1 = znx H + 2 + 1 by omega)]
    unfold ed2
    rw [zct_wr, zct_al, ed_x1, if_neg (show ¬ znx H + 1 = znx H + 1 + 1 by omega)]
    unfold ed1
    rw [zct_wr, zct_wr, zct_wr, zct_al, if_pos rfl]
    simp only [true_and]
  refine ⟨?_, ?_, ?_, ?_, ?_, ?_, ?_, ?_, ?_⟩ <;> rw [e] <;> rfl
end ED
end EDITION3
