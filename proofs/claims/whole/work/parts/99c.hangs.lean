/-! THE TREE: the class's side -/
section HANGS
variable {X : Nat} {s : zSg} {A : Nat → Nat} {B : Nat → Nat → Nat} {K : Nat → Nat} {ow : Nat → Nat × Nat} {n sc : Nat}
def Ek (s : zSg) (sc k : Nat) : Prop := s 3 k = 4 ∧ s 4 k = (sc : Int)
def sT (T : Nat → Bool) (k : Nat) : Int := if T k = true then 1 else 0
def Tm (T : Nat → Bool) (x : Nat) : Nat → Bool := fun o => if o = x then false else T o
def Tp (T : Nat → Bool) (x : Nat) : Nat → Bool := fun o => if o = x then true else T o
/-- on which an edition would hang in a tree, and how far from it -/
def IsB (s : zSg) (n : Nat) (T : Nat → Bool) (k : Nat) (h g : Int) : Prop := (h = -1 ∧ ∀ o, o < n → T o = false) ∨ ∃ o : Nat, h = (o : Int) ∧ o < n ∧ T o = true ∧ g = edist s k o ∧ ∀ o', o' < n → T o' = true → g < edist s k o' ∨ (g = edist s k o' ∧ o ≤ o')
theorem IV.ed9 {H : zHp} {a c : Nat} {v : Int} (I : IV X H s A B K ow) (ha : (a : Int) < s 0 2) (hk : s 3 a = 4) (hc : c = 9 ∨ c = 10 ∨ c = 11) : IV X (zwr H (A a) c v) s A B K ow := by
  have hn := I.n
  obtain ⟨m, q, w, t, bb⟩ := (I.to ha).2.2.2.1 hk
  obtain ⟨m0, m1, m2, m3, m4⟩ := id m
  have h1 : zst H (zwr H (A a) c v) := zst.rf.wr _ _ _
  have hx : ∀ q k, ¬ (q = A a ∧ k = c) → zct (zwr H (A a) c v) q k = zct H q k := fun q k h => by rw [zct_wr, if_neg h]
  generalize zwr H (A a) c v = H' at *
  refine I.ch (gs := []) (t := a) h1 ?_ ?_ zfs.rf (fun u _ _ => zts.rf) rfl rfl rfl rfl rfl rfl rfl (fun _ _ _ => rfl) (fun _ _ => rfl) ?_ (fun _ => ?_) I.2.2.2.2.1 rfl rfl rfl rfl rfl rfl rfl rfl rfl rfl (Or.inl rfl) (by omega)
  · intro o k ho _
    have := m0.1
    exact hx _ _ (by omega)
  · refine zfd.of fun q k hq hp => hx q k (fun e => hp ?_)
    rw [e.1]; exact ⟨m0.1, by rw [m0.2.2]⟩
  · refine ⟨fun w => by omega, fun w => by omega, fun w => by omega, fun _ => ?_, fun w => by omega⟩
    have kt : ∀ q, q ≤ znx H → ztg H' q = ztg H q ∧ zln H' q = zln H q := fun q hq => h1.2.2 q hq
    unfold TOe
    rw [(kt _ m0.2.1).1, (kt _ m1.2.1).1, (kt _ m1.2.1).2, (kt _ m2.2.1).1, (kt _ m2.2.1).2, (kt _ m3.2.1).1, (kt _ m3.2.1).2, (kt _ m4.2.1).1, (kt _ m4.2.1).2]
    rw [hx _ 0 (by omega), hx _ 1 (by omega), hx _ 2 (by omega), hx _ 3 (by omega), hx _ 5 (by omega), hx _ 6 (by omega), hx _ 7 (by omega), hx _ 8 (by omega)]
    refine ⟨⟨m0.fr h1 (fun _ _ => rfl), m1.fr h1 (fun _ _ => rfl), m2.fr h1 (fun _ _ => rfl), m3.fr h1 (fun _ _ => rfl), m4.fr h1 (fun _ _ => rfl)⟩, q, w, t, fun j hj => ?_⟩
    obtain ⟨b1, b2⟩ := bb j hj
    rw [hx _ j (by omega)]
    refine ⟨b1, fun w => ?_⟩
    obtain ⟨bo, bv⟩ := b2 w
    have n0 : ∀ k, zct H' (B a j) k = zct H (B a j) k := fun k => hx _ _ (fun e => bo.1.ne m0 (Or.inl (by omega)) e.1)
    have n1 : ∀ k, zct H' (B a j + 1) k = zct H (B a j + 1) k := fun k => hx _ _ (fun e => bo.2.1.ne m0 (Or.inl (by omega)) e.1)
    exact ⟨bo.fc h1 (n0 0) (fun _ _ => rfl), bv.fc n0 n1 rfl (fun _ _ => rfl) (fun _ _ => rfl) (fun _ _ => rfl)⟩
  · obtain ⟨e1, e2⟩ := (I.2.2.1 a ha).2 hk
    refine ⟨by rw [hx _ 4 (by omega)]; exact e1, fun j hj => by rw [hx _ j (by omega)]; exact e2 j hj⟩
theorem IV.pp {H : zHp} (I : IV X H s A B K ow) {x k : Nat} (hx : (x : Int) < s 0 2) (hk : (k : Int) < s 0 2) (h : x ≠ k) : A x ≠ A k := fun e => h ((I.inj hx hk).mp e)
theorem e_mayHang {H : zHp} {k x : Nat} {T : Nat → Bool} (I : IV X H s A B K ow) (hn : s 0 2 = (n : Int)) (hk : k < n) (hk4 : s 3 k = 4) (hx : x < n) (hx4 : s 3 x = 4) : ∃ H', fEdition_mayHangOn (A k) (A x) H = some ((), H') ∧ IV X H' s A B K ow ∧ FrX X H H' ∧ (∀ y, y < n → s 3 y = 4 → (zct H' (A y) 9 = zct H (A y) 9 ∧ (y ≠ k → zct H' (A y) 10 = zct H (A y) 10 ∧ zct H' (A y) 11 = zct H (A y) 11))) ∧
    (T x = true → IsB s n (Tm T x) k (zct H (A k) 10) (zct H (A k) 11) → IsB s n T k (zct H' (A k) 10) (zct H' (A k) 11)) := by
  have hk' : (k : Int) < s 0 2 := by omega
  have hx' : (x : Int) < s 0 2 := by omega
  obtain ⟨H1, q1, ⟨q2, q2'⟩, I1⟩ := e_distanceTo I hk' hk4 hx' hx4
  obtain ⟨-, ⟨a0, -⟩, -⟩ := (I.to hk').2.2.2.1 hk4
  obtain ⟨⟨m0, -⟩, ⟨a0', -⟩, -⟩ := (I1.to hk').2.2.2.1 hk4
  obtain ⟨-, ⟨b0, -, b1, -⟩, -⟩ := (I1.to hx').2.2.2.1 hx4
  have c10 := q2' k hk' hk4 10 (by omega) (by omega)
  have c11 := q2' k hk' hk4 11 (by omega) (by omega)
  have pos := m0.1
  obtain ⟨H2, e2⟩ : ∃ H2, H2 = zwr (zwr H1 (A k) 10 (x : Int)) (A k) 11 (edist s k x) := ⟨_, rfl⟩
  have I2 : IV X H2 s A B K ow := by rw [e2]; exact (I1.ed9 hk' hk4 (by omega)).ed9 hk' hk4 (by omega)
  have f2 : FrX X H1 H2 := by rw [e2]; exact ⟨(zst.rf.wr _ _ _).wr _ _ _, rfl, rfl, fun q _ h2 i => by rw [zct_wr, if_neg (by omega), zct_wr, if_neg (by omega)]⟩
  have v10 : zct H2 (A k) 10 = (x : Int) := by rw [e2, zct_wr, if_neg (by omega), zct_wr, if_pos ⟨rfl, rfl⟩]
  have v11 : zct H2 (A k) 11 = edist s k x := by rw [e2, zct_wr, if_pos ⟨rfl, rfl⟩]
  have o2 : ∀ y, y < n → s 3 y = 4 → zct H2 (A y) 9 = zct H (A y) 9 ∧ (y ≠ k → zct H2 (A y) 10 = zct H (A y) 10 ∧ zct H2 (A y) 11 = zct H (A y) 11) := fun y hy h4 => by
    rw [e2]
    refine ⟨?_, fun hne => ?_⟩
    · rw [zct_wr, if_neg (by omega), zct_wr, if_neg (by omega)]
      exact q2' y (by omega) h4 9 (by omega) (by omega)
    · have := I1.pp (x := y) (k := k) (by omega) hk' hne
      rw [zct_wr, if_neg (fun w => this w.1), zct_wr, if_neg (fun w => this w.1), zct_wr, if_neg (fun w => this w.1), zct_wr, if_neg (fun w => this w.1)]
      exact ⟨q2' y (by omega) h4 10 (by omega) (by omega), q2' y (by omega) h4 11 (by omega) (by omega)⟩
  have o1 : ∀ y, y < n → s 3 y = 4 → zct H1 (A y) 9 = zct H (A y) 9 ∧ (y ≠ k → zct H1 (A y) 10 = zct H (A y) 10 ∧ zct H1 (A y) 11 = zct H (A y) 11) := fun y hy h4 => ⟨q2' y (by omega) h4 9 (by omega) (by omega), fun _ => ⟨q2' y (by omega) h4 10 (by omega) (by omega), q2' y (by omega) h4 11 (by omega) (by omega)⟩⟩
  have run : fEdition_mayHangOn (A k) (A x) H = if zct H (A k) 10 = -1 then some ((), H2) else if edist s k x < zct H (A k) 11 then some ((), H2) else if edist s k x = zct H (A k) 11 then (if (x : Int) < zct H (A k) 10 then some ((), H2) else some ((), H1)) else some ((), H1) := by
    unfold fEdition_mayHangOn
    simp only [yjn, yck, ygi, ypi, a0, zA2, if_true, q1, ybd_s, a0', c10, c11, b0, b1, ztg_wr, ← e2]
  have set : T x = true → IsB s n (Tm T x) k (zct H (A k) 10) (zct H (A k) 11) → (zct H (A k) 10 = -1 ∨ edist s k x < zct H (A k) 11 ∨ (edist s k x = zct H (A k) 11 ∧ (x : Int) < zct H (A k) 10)) → IsB s n T k (zct H2 (A k) 10) (zct H2 (A k) 11) := fun tx hb hc => by
    rw [v10, v11]
    refine Or.inr ⟨x, rfl, hx, tx, rfl, fun o' ho' to' => ?_⟩
    by_cases e : o' = x
    · rw [e]; exact Or.inr ⟨rfl, Nat.le_refl _⟩
    · have tm : Tm T x o' = true := by show (if o' = x then false else T o') = true; rw [if_neg e]; exact to'
      rcases hb with ⟨h1, h2⟩ | ⟨o, h1, h2, h3, h4, h5⟩
      · have := h2 o' ho'; rw [tm] at this; cases this
      · have h5 := h5 o' ho' tm
        rcases hc with c | c | ⟨c1, c2⟩
        · omega
        · left; omega
        · rcases h5 with h5 | ⟨h5, h6⟩
          · left; omega
          · right; exact ⟨by omega, by omega⟩
  have keep : T x = true → IsB s n (Tm T x) k (zct H (A k) 10) (zct H (A k) 11) → ¬ zct H (A k) 10 = -1 → ¬ edist s k x < zct H (A k) 11 → ¬ (edist s k x = zct H (A k) 11 ∧ (x : Int) < zct H (A k) 10) → IsB s n T k (zct H1 (A k) 10) (zct H1 (A k) 11) := fun tx hb n1 n2 n3 => by
    rw [c10, c11]
    rcases hb with ⟨h1, h2⟩ | ⟨o, h1, h2, h3, h4, h5⟩
    · exact absurd h1 n1
    · refine Or.inr ⟨o, h1, h2, ?_, h4, fun o' ho' to' => ?_⟩
      · by_cases e : o = x
        · rw [e]; exact tx
        · have : (if o = x then false else T o) = true := h3
          rw [if_neg e] at this; exact this
      · by_cases e : o' = x
        · rw [e]
          by_cases e2 : edist s k x = zct H (A k) 11
          · right; exact ⟨e2.symm, by omega⟩
          · left; omega
        · have tm : Tm T x o' = true := by show (if o' = x then false else T o') = true; rw [if_neg e]; exact to'
          exact h5 o' ho' tm
  rw [run]
  by_cases g1 : zct H (A k) 10 = -1
  · rw [if_pos g1]
    exact ⟨H2, rfl, I2, q2.tr f2, o2, fun tx hb => set tx hb (Or.inl g1)⟩
  · rw [if_neg g1]
    by_cases g2 : edist s k x < zct H (A k) 11
    · rw [if_pos g2]
      exact ⟨H2, rfl, I2, q2.tr f2, o2, fun tx hb => set tx hb (Or.inr (Or.inl g2))⟩
    · rw [if_neg g2]
      by_cases g3 : edist s k x = zct H (A k) 11
      · rw [if_pos g3]
        by_cases g4 : (x : Int) < zct H (A k) 10
        · rw [if_pos g4]
          exact ⟨H2, rfl, I2, q2.tr f2, o2, fun tx hb => set tx hb (Or.inr (Or.inr ⟨g3, g4⟩))⟩
        · rw [if_neg g4]
          exact ⟨H1, rfl, I1, q2, o1, fun tx hb => keep tx hb g1 g2 (fun w => g4 w.2)⟩
      · rw [if_neg g3]
        exact ⟨H1, rfl, I1, q2, o1, fun tx hb => keep tx hb g1 g2 (fun w => g3 w.1)⟩
/-- is thing k an edition of the score, as the class asks -/
theorem e_isE {H : zHp} (I : IV X H s A B K ow) (hn : s 0 2 = (n : Int)) (hsc : sc < n) {k : Nat} (hk : k < n) : zct H X 4 = (n : Int) ∧ fH_editionAt X (k : Int) H = some (if s 3 k = 4 then A k else 0, H) ∧ (s 3 k = 4 → ztg H (A k) = 3 ∧ ¬ A k = 0 ∧ ((zct H (A k) 2).toNat = A sc ↔ s 4 k = (sc : Int))) := by
  have q1 : zct H X 4 = s 0 2 := I.2.1.2.2.2.2.2.2.2.2.2.1
  have hk' : (k : Int) < s 0 2 := by omega
  refine ⟨by rw [q1, hn], ?_, fun h4 => ?_⟩
  · rw [e_editionAt I, Int.toNat_natCast]
    by_cases g : s 3 k = 4
    · rw [if_pos g, if_pos ⟨by omega, g⟩]
    · rw [if_neg g, if_neg (fun w => g w.2)]
  · obtain ⟨⟨m0, -⟩, ⟨a0, -, -, a2, -⟩, -⟩ := (I.to hk').2.2.2.1 h4
    have s4 := ((I.st hk').2.2.2.2.1 h4).1
    have := m0.1
    refine ⟨a0, by omega, ?_⟩
    rw [a2, Int.toNat_natCast]
    have ij := I.inj (u := (s 4 k).toNat) (v := sc) (by omega) (by omega)
    exact ij.trans ⟨fun e => by omega, fun e => by omega⟩
theorem hang_l {x : Nat} {T : Nat → Bool} {rd : Int} (hn : s 0 2 = (n : Int)) (hsc : sc < n) (hx : x < n) (hx4 : s 3 x = 4) : ∀ (d f k : Nat) (H : zHp), n - k = d → d < f → k ≤ n → IV X H s A B K ow → (∀ j, j < n → Ek s sc j → zct H (A j) 9 = sT T j) →
    ∃ H', (∀ Q, fH_growTree_l9 f X (A sc) (A x) rd (k : Int) H Q = Q X (A sc) rd H') ∧ IV X H' s A B K ow ∧ FrX X H H' ∧ (∀ j, j < n → Ek s sc j → zct H' (A j) 9 = sT T j) ∧ (∀ j, j < n → Ek s sc j → (j < k ∨ T j = true) → zct H' (A j) 10 = zct H (A j) 10 ∧ zct H' (A j) 11 = zct H (A j) 11) ∧
      ∀ j, j < n → Ek s sc j → k ≤ j → T j = false → T x = true → IsB s n (Tm T x) j (zct H (A j) 10) (zct H (A j) 11) → IsB s n T j (zct H' (A j) 10) (zct H' (A j) 11) := by
  intro d
  induction d with
  | zero =>
    intro f k H h1 h2 h3 I ct
    obtain ⟨f, rfl⟩ : ∃ f', f = f' + 1 := ⟨f - 1, by omega⟩
    have F0 := I.1
    have q1 : zct H X 4 = s 0 2 := I.2.1.2.2.2.2.2.2.2.2.2.1
    refine ⟨H, fun Q => ?_, I, FrX.rf, ct, fun _ _ _ _ => ⟨rfl, rfl⟩, fun j a1 _ a3 => absurd a3 (by omega)⟩
    rw [fH_growTree_l9]
    simp only [yjn, ygi, ft0 F0, zA10, if_true, q1, hn]
    rw [if_neg (by omega)]
  | succ d ih =>
    intro f k H h1 h2 h3 I ct
    obtain ⟨f, rfl⟩ : ∃ f', f = f' + 1 := ⟨f - 1, by omega⟩
    have F0 := I.1
    have hk : k < n := by omega
    obtain ⟨e1, e2, e3⟩ := e_isE I hn hsc hk
    have n60 := I.n
    have ek : zadd (k : Int) 1 = ((k + 1 : Nat) : Int) := by rw [zadd_e (by omega) (by omega)]; omega
    have kn : (k : Int) < (n : Int) := by omega
    have x1 : n - (k + 1) = d := by omega
    have x2 : d < f := by omega
    have x3 : k + 1 ≤ n := by omega
    have skip : ¬ (Ek s sc k ∧ T k = false) → (∀ Q, fH_growTree_l9 (f + 1) X (A sc) (A x) rd (k : Int) H Q = fH_growTree_l9 f X (A sc) (A x) rd ((k + 1 : Nat) : Int) H Q) → ∃ H', (∀ Q, fH_growTree_l9 (f + 1) X (A sc) (A x) rd (k : Int) H Q = Q X (A sc) rd H') ∧ IV X H' s A B K ow ∧ FrX X H H' ∧ (∀ j, j < n → Ek s sc j → zct H' (A j) 9 = sT T j) ∧ (∀ j, j < n → Ek s sc j → (j < k ∨ T j = true) → zct H' (A j) 10 = zct H (A j) 10 ∧ zct H' (A j) 11 = zct H (A j) 11) ∧ ∀ j, j < n → Ek s sc j → k ≤ j → T j = false → T x = true → IsB s n (Tm T x) j (zct H (A j) 10) (zct H (A j) 11) → IsB s n T j (zct H' (A j) 10) (zct H' (A j) 11) := fun hne hrun => by
      obtain ⟨H', j1, j2, j3, j4, j5, j6⟩ := ih f (k + 1) H x1 x2 x3 I ct
      exact ⟨H', fun Q => (hrun Q).trans (j1 Q), j2, j3, j4, fun j a1 a2 a3 => j5 j a1 a2 (a3.imp (fun h => by omega) id), fun j a1 a2 a3 a4 a5 a6 => by
        by_cases c : j = k
        · rw [c] at a2 a4; exact absurd ⟨a2, a4⟩ hne
        · exact j6 j a1 a2 (by omega) a4 a5 a6⟩
    by_cases g : s 3 k = 4
    · obtain ⟨t1, t2, t3⟩ := e3 g
      by_cases g2 : s 4 k = (sc : Int)
      · have ekk : Ek s sc k := ⟨g, g2⟩
        by_cases g3 : T k = true
        · refine skip (fun w => by rw [g3] at w; cases w.2) fun Q => ?_
          have c9 : zct H (A k) 9 = 1 := by rw [ct k hk ekk]; exact if_pos g3
          rw [fH_growTree_l9]
          simp only [yjn, yvl, yck, ygi, ygr, ft0 F0, zA10, if_true, e1, kn, e2, ybd_s, if_pos g, t2, if_false, t1, zA2, t3.mpr g2, c9, show ¬ (1 : Int) = 0 by decide, ek]
        · have g3 : T k = false := by simpa using g3
          have c9 : zct H (A k) 9 = 0 := by rw [ct k hk ekk]; exact if_neg (by rw [g3]; decide)
          obtain ⟨H1, q1, q2, q3, q4, q5⟩ := e_mayHang (T := T) I hn hk g hx hx4
          obtain ⟨H', j1, j2, j3, j4, j5, j6⟩ := ih f (k + 1) H1 x1 x2 x3 q2 (fun j a1 a2 => by rw [(q4 j a1 a2.1).1]; exact ct j a1 a2)
          refine ⟨H', fun Q => ?_, j2, q3.tr j3, j4, fun j a1 a2 a3 => ?_, fun j a1 a2 a3 a4 a5 a6 => ?_⟩
          · rw [← j1 Q, fH_growTree_l9]
            simp only [yjn, yvl, yck, ygi, ygr, ft0 F0, zA10, if_true, e1, kn, e2, ybd_s, if_pos g, t2, if_false, t1, zA2, t3.mpr g2, c9, q1, ek]
          · have hne : j ≠ k := by
              rcases a3 with a3 | a3
              · omega
              · rintro rfl; rw [g3] at a3; cases a3
            obtain ⟨y1, y2⟩ := j5 j a1 a2 (a3.imp (fun h => by omega) id)
            obtain ⟨z1, z2⟩ := (q4 j a1 a2.1).2 hne
            rw [y1, y2, z1, z2]
            exact ⟨rfl, rfl⟩
          · by_cases c : j = k
            · subst c
              obtain ⟨y1, y2⟩ := j5 j a1 a2 (Or.inl (by omega))
              rw [y1, y2]
              exact q5 a5 a6
            · obtain ⟨z1, z2⟩ := (q4 j a1 a2.1).2 c
              exact j6 j a1 a2 (by omega) a4 a5 (by rw [z1, z2]; exact a6)
      · refine skip (fun w => g2 w.1.2) fun Q => ?_
        have : ¬ (zct H (A k) 2).toNat = A sc := fun e => g2 (t3.mp e)
        rw [fH_growTree_l9]
        simp only [yjn, yvl, yck, ygi, ygr, ft0 F0, zA10, if_true, e1, kn, e2, ybd_s, if_pos g, t2, if_false, t1, zA2, this, ek]
    · refine skip (fun w => g w.1.1) fun Q => ?_
      rw [fH_growTree_l9]
      simp only [yjn, yvl, yck, ygi, ft0 F0, zA10, if_true, e1, kn, e2, ybd_s, if_neg g, ek]
theorem near_l {H : zHp} {T : Nat → Bool} (I : IV X H s A B K ow) (hn : s 0 2 = (n : Int)) (hsc : sc < n) (ct : ∀ j, j < n → Ek s sc j → zct H (A j) 9 = sT T j) : ∀ (d f k p : Nat), n - k = d → d < f → k ≤ n → ((p = 0 ∧ ∀ j, j < k → Ek s sc j → T j = true) ∨ ∃ b, b < k ∧ Ek s sc b ∧ T b = false ∧ p = A b ∧ ∀ j, j < k → Ek s sc j → T j = false → zct H (A b) 11 < zct H (A j) 11 ∨ (zct H (A b) 11 = zct H (A j) 11 ∧ b ≤ j)) →
    ∃ p', fH_nearestToTree_l1 f X (A sc) p (k : Int) H = some (p', H) ∧ ((p' = 0 ∧ ∀ j, j < n → Ek s sc j → T j = true) ∨ ∃ b, b < n ∧ Ek s sc b ∧ T b = false ∧ p' = A b ∧ ∀ j, j < n → Ek s sc j → T j = false → zct H (A b) 11 < zct H (A j) 11 ∨ (zct H (A b) 11 = zct H (A j) 11 ∧ b ≤ j)) := by
  intro d
  induction d with
  | zero =>
    intro f k p h1 h2 h3 hp
    obtain ⟨f, rfl⟩ : ∃ f', f = f' + 1 := ⟨f - 1, by omega⟩
    have F0 := I.1
    have q1 : zct H X 4 = s 0 2 := I.2.1.2.2.2.2.2.2.2.2.2.1
    obtain rfl : k = n := by omega
    refine ⟨p, ?_, hp⟩
    rw [fH_nearestToTree_l1]
    simp only [yjn, ygi, ft0 F0, zA10, if_true, q1, hn]
    rw [if_neg (by omega)]
  | succ d ih =>
    intro f k p h1 h2 h3
    obtain ⟨f, rfl⟩ : ∃ f', f = f' + 1 := ⟨f - 1, by omega⟩
    have F0 := I.1
    have hk : k < n := by omega
    obtain ⟨e1, e2, e3⟩ := e_isE I hn hsc hk
    have n60 := I.n
    have ek : zadd (k : Int) 1 = ((k + 1 : Nat) : Int) := by rw [zadd_e (by omega) (by omega)]; omega
    have kn : (k : Int) < (n : Int) := by omega
    have x1 : n - (k + 1) = d := by omega
    have x2 : d < f := by omega
    have x3 : k + 1 ≤ n := by omega
    intro hp
    have up : ¬ (Ek s sc k ∧ T k = false) → ((p = 0 ∧ ∀ j, j < k + 1 → Ek s sc j → T j = true) ∨ ∃ b, b < k + 1 ∧ Ek s sc b ∧ T b = false ∧ p = A b ∧ ∀ j, j < k + 1 → Ek s sc j → T j = false → zct H (A b) 11 < zct H (A j) 11 ∨ (zct H (A b) 11 = zct H (A j) 11 ∧ b ≤ j)) := fun hne => by
      rcases hp with ⟨p0, p1⟩ | ⟨b, p1, p2, p3, p4, p5⟩
      · refine Or.inl ⟨p0, fun j a1 a2 => ?_⟩
        by_cases c : j = k
        · rw [c] at a2 ⊢
          by_cases g : T k = true
          · exact g
          · exact absurd ⟨a2, by simpa using g⟩ hne
        · exact p1 j (by omega) a2
      · refine Or.inr ⟨b, by omega, p2, p3, p4, fun j a1 a2 a3 => ?_⟩
        by_cases c : j = k
        · rw [c] at a2 a3; exact absurd ⟨a2, a3⟩ hne
        · exact p5 j (by omega) a2 a3
    by_cases g : s 3 k = 4
    · obtain ⟨t1, t2, t3⟩ := e3 g
      by_cases g2 : s 4 k = (sc : Int)
      · have ekk : Ek s sc k := ⟨g, g2⟩
        by_cases g3 : T k = true
        · obtain ⟨p', j1, j2⟩ := ih f (k + 1) p x1 x2 x3 (up (fun w => by rw [g3] at w; cases w.2))
          refine ⟨p', ?_, j2⟩
          have c9 : zct H (A k) 9 = 1 := by rw [ct k hk ekk]; exact if_pos g3
          have one0 : ¬ (1 : Int) = 0 := by decide
          rw [← j1, fH_nearestToTree_l1]
          simp only [yjn, yvl, yck, ygi, ygr, ft0 F0, zA10, if_true, e1, kn, e2, ybd_s, if_pos g, t2, if_false, t1, zA2, t3.mpr g2, c9, one0, ek]
        · have g3 : T k = false := by simpa using g3
          have c9 : zct H (A k) 9 = 0 := by rw [ct k hk ekk]; exact if_neg (by rw [g3]; decide)
          clear up
          rcases hp with ⟨p0, p1⟩ | ⟨b, p1, p2, p3, p4, p5⟩
          · obtain ⟨p', j1, j2⟩ := ih f (k + 1) (A k) x1 x2 x3 (Or.inr ⟨k, by omega, ekk, g3, rfl, fun j a1 a2 a3 => by
              by_cases c : j = k
              · rw [c]; exact Or.inr ⟨rfl, Nat.le_refl _⟩
              · have := p1 j (by omega) a2; rw [a3] at this; cases this⟩)
            refine ⟨p', ?_, j2⟩
            rw [← j1, fH_nearestToTree_l1]
            simp only [yjn, yvl, yck, ygi, ygr, ft0 F0, zA10, if_true, e1, kn, e2, ybd_s, if_pos g, t2, if_false, t1, zA2, t3.mpr g2, c9, p0, ek]
          · have pb := e_isE I hn hsc (k := b) (by omega)
            obtain ⟨b1, b2, -⟩ := pb.2.2 p2.1
            have run : fH_nearestToTree_l1 (f + 1) X (A sc) p (k : Int) H = if zct H (A k) 11 < zct H (A b) 11 then fH_nearestToTree_l1 f X (A sc) (A k) ((k + 1 : Nat) : Int) H else fH_nearestToTree_l1 f X (A sc) (A b) ((k + 1 : Nat) : Int) H := by
              rw [fH_nearestToTree_l1]
              simp only [yjn, yvl, yck, ygi, ygr, ft0 F0, zA10, if_true, e1, kn, e2, ybd_s, if_pos g, t2, if_false, t1, zA2, t3.mpr g2, c9, p4, b2, b1, ek]
            rw [run]
            by_cases g4 : zct H (A k) 11 < zct H (A b) 11
            · rw [if_pos g4]
              exact ih f (k + 1) (A k) x1 x2 x3 (Or.inr ⟨k, by omega, ekk, g3, rfl, fun j a1 a2 a3 => by
                by_cases c : j = k
                · rw [c]; exact Or.inr ⟨rfl, Nat.le_refl _⟩
                · have := p5 j (by omega) a2 a3; omega⟩)
            · rw [if_neg g4]
              exact ih f (k + 1) (A b) x1 x2 x3 (Or.inr ⟨b, by omega, p2, p3, rfl, fun j a1 a2 a3 => by
                by_cases c : j = k
                · rw [c]; omega
                · exact p5 j (by omega) a2 a3⟩)
      · obtain ⟨p', j1, j2⟩ := ih f (k + 1) p x1 x2 x3 (up (fun w => g2 w.1.2))
        refine ⟨p', ?_, j2⟩
        have : ¬ (zct H (A k) 2).toNat = A sc := fun e => g2 (t3.mp e)
        rw [← j1, fH_nearestToTree_l1]
        simp only [yjn, yvl, yck, ygi, ygr, ft0 F0, zA10, if_true, e1, kn, e2, ybd_s, if_pos g, t2, if_false, t1, zA2, this, ek]
    · obtain ⟨p', j1, j2⟩ := ih f (k + 1) p x1 x2 x3 (up (fun w => g w.1.1))
      refine ⟨p', ?_, j2⟩
      rw [← j1, fH_nearestToTree_l1]
      simp only [yjn, yvl, yck, ygi, ft0 F0, zA10, if_true, e1, kn, e2, ybd_s, if_neg g, ek]
end HANGS
