section HANGS3
variable {X : Nat} {s : zSg} {A : Nat → Nat} {B : Nat → Nat → Nat} {K : Nat → Nat} {ow : Nat → Nat × Nat} {n sc : Nat}
def vB (s : zSg) (sc : Nat) (T : Nat → Bool) (j : Nat) : Bool := decide (s 3 j = 4) && decide (s 4 j = (sc : Int)) && !(T j)
theorem vB_iff {T : Nat → Bool} {j : Nat} : vB s sc T j = true ↔ Ek s sc j ∧ T j = false := by
  unfold vB Ek
  rw [Bool.and_eq_true, Bool.and_eq_true, decide_eq_true_eq, decide_eq_true_eq, Bool.not_eq_true']
theorem cntP_pos {P : Nat → Bool} {k : Nat} (hk : P k = true) {N : Nat} (h : k < N) : 0 < cntP P N := by
  have := cntP_mono (P := P) (k := k + 1) (N - (k + 1))
  rw [show k + 1 + (N - (k + 1)) = N by omega] at this
  have e : cntP P (k + 1) = cntP P k + 1 := by show _ + (if P k = true then 1 else 0) = _; rw [if_pos hk]
  omega
theorem cntP_flip {P P' : Nat → Bool} {b : Nat} (hb : P b = true) (hb' : P' b = false) (h : ∀ j, j ≠ b → P' j = P j) : ∀ N, cntP P N = cntP P' N + (if b < N then 1 else 0)
  | 0 => by rw [if_neg (by omega)]; rfl
  | N + 1 => by
    have := cntP_flip hb hb' h N
    show cntP P N + (if P N = true then 1 else 0) = cntP P' N + (if P' N = true then 1 else 0) + _
    by_cases c : N = b
    · subst c
      rw [if_neg (Nat.lt_irrefl _)] at this
      rw [hb, hb', if_pos rfl, if_neg (show ¬ false = true by decide), if_pos (Nat.lt_succ_self _), this]
    · rw [h N c, this]
      by_cases c2 : b < N
      · rw [if_pos c2, if_pos (show b < N + 1 by omega)]; omega
      · rw [if_neg c2, if_neg (show ¬ b < N + 1 by omega)]; omega
theorem both_l (hn : s 0 2 = (n : Int)) (hsc : sc < n) {e : Nat} (he : e < n) (hee : Ek s sc e) : ∀ (c f1 f2 rd x : Nat) (H : zHp) (s1 : zSg) (T : Nat → Bool) (R : Nat → Int), cntP (vB s sc T) n = c → T e = false → n < f1 + rd → c < f2 → rd + c ≤ n → IV X H s A B K ow → (∀ j, j < n → Ek s sc j → zct H (A j) 9 = sT T j) → x < n → Ek s sc x → T x = true → (∀ o, T o = true → o < n ∧ Ek s sc o) → (∀ j, j < n → Ek s sc j → T j = false → IsB s n (Tm T x) j (zct H (A j) 10) (zct H (A j) 11)) → zq R s s1 → (∀ k, k < n → R k = sT T k) →
    ∃ (H' : zHp) (s2 : zSg) (r : Int), fH_growTree_l8 f1 X (A sc) (A x) (rd : Int) H = some ((), H') ∧ gM_hangs_l10 f2 (e : Int) s1 = some (r, s2) ∧ IV X H' s A B K ow ∧ FrX X H H' ∧ zfs [11] s s2 ∧ zct H' (A e) 10 = r := by
  intro c
  induction c with
  | zero =>
    intro f1 f2 rd x H s1 T R hc hT
    have := cntP_pos (vB_iff.mpr ⟨hee, hT⟩) he
    omega
  | succ c ih =>
    intro f1 f2 rd x H s1 T R hc hTe h1 h2 h3 I ct hx hxe hTx hT hb z hR
    have n60 := I.n
    obtain ⟨f1, rfl⟩ : ∃ f', f1 = f' + 1 := ⟨f1 - 1, by omega⟩
    obtain ⟨f2, rfl⟩ : ∃ f', f2 = f' + 1 := ⟨f2 - 1, by omega⟩
    have F0 := I.1
    have q1 : zct H X 4 = s 0 2 := I.2.1.2.2.2.2.2.2.2.2.2.1
    have xp := (e_isE I hn hsc hx).2.2 hxe.1
    have er : zadd (rd : Int) 1 = ((rd + 1 : Nat) : Int) := by rw [zadd_e (by omega) (by omega)]; omega
    have crd : (rd : Int) < (n : Int) := by omega
    obtain ⟨H1, j1, j2, j3, j4, j5, j6⟩ := hang_l (T := T) (rd := (rd : Int)) hn hsc hx hxe.1 n zFU 0 H (by omega) (by rw [zFU_e]; omega) (by omega) I ct
    have j1' : ∀ Q, fH_growTree_l9 zFU X (A sc) (A x) (rd : Int) 0 H Q = Q X (A sc) (rd : Int) H1 := j1
    have F1 := j2.1
    obtain ⟨p, k1, k2⟩ := near_l j2 hn hsc j4 n zFU 0 0 (by omega) (by rw [zFU_e]; omega) (by omega) (Or.inl ⟨rfl, fun j h => absurd h (by omega)⟩)
    have k1' : fH_nearestToTree X (A sc) H1 = some (p, H1) := k1
    obtain ⟨b, b1, b2, b3, b4, b5⟩ : ∃ b, b < n ∧ Ek s sc b ∧ T b = false ∧ p = A b ∧ ∀ j, j < n → Ek s sc j → T j = false → zct H1 (A b) 11 < zct H1 (A j) 11 ∨ (zct H1 (A b) 11 = zct H1 (A j) 11 ∧ b ≤ j) := by
      rcases k2 with ⟨-, k3⟩ | k3
      · have := k3 e he hee; rw [hTe] at this; cases this
      · exact k3
    clear k2
    have isb : ∀ j, j < n → Ek s sc j → T j = false → ∃ o : Nat, zct H1 (A j) 10 = (o : Int) ∧ o < n ∧ T o = true ∧ zct H1 (A j) 11 = edist s j o ∧ ∀ o', o' < n → T o' = true → zct H1 (A j) 11 < edist s j o' ∨ (zct H1 (A j) 11 = edist s j o' ∧ o ≤ o') := fun j a1 a2 a3 => by
      rcases j6 j a1 a2 (Nat.zero_le _) a3 hTx (hb j a1 a2 a3) with ⟨-, w⟩ | w
      · have := w x hx; rw [hTx] at this; cases this
      · exact w
    obtain ⟨best, on, least, s2, m1, m2, m3⟩ := m_pairs_l (T := T) (e := e) I hn he hee hT hR n zFU 0 (-1) (-1) 0 s1 (by omega) (by rw [zFU_e]; omega) (by omega) z (Or.inl ⟨rfl, fun t' o' _ _ _ _ _ w => by omega⟩)
    have m1' : ∀ Q, gM_hangs_l11 zFU (e : Int) (-1) (-1) 0 0 s1 Q = Q (e : Int) best on s2 := m1
    obtain ⟨bb, bp, r1, r2, r3, r4, r5, r6, r7, r8, -, r10⟩ : ∃ b p : Nat, best = (b : Int) ∧ on = (p : Int) ∧ b < n ∧ p < n ∧ Ek s sc b ∧ T b = false ∧ T p = true ∧ least = edist s b p ∧ (b < n ∨ (b = n ∧ p < 0)) ∧ ∀ t' o', t' < n → o' < n → Ek s sc t' → T t' = false → T o' = true → (t' < n ∨ (t' = n ∧ o' < 0)) → least < edist s t' o' ∨ (least = edist s t' o' ∧ (b < t' ∨ (b = t' ∧ p ≤ o'))) := by
      rcases m3 with ⟨-, w⟩ | w
      · exact absurd (Or.inl he) (w e x he hx hee hTe hTx)
      · exact w
    clear m3
    -- the same pair
    obtain ⟨o, o1, o2, o3, o4, o5⟩ := isb b b1 b2 b3
    obtain ⟨oB, w1, w2, w3, w4, w5⟩ := isb bb r3 r5 r6
    have c1 := r10 b o b1 o2 b2 b3 o3 (Or.inl b1)
    have c2 := b5 bb r3 r5 r6
    have c3 := w5 bp r4 r7
    have eb : bb = b := by omega
    subst eb
    have eo : bp = o := by
      have : oB = o := by omega
      subst this
      have := o5 bp r4 r7
      omega
    subst eo
    clear c1 c2 c3 w1 w2 w3 w4 w5 isb
    have bpp := (e_isE j2 hn hsc b1).2.2 b2.1
    have bpos := (j2.pos (t := bb) (by omega)).1
    obtain ⟨H2, e2⟩ : ∃ H2, H2 = zwr H1 (A bb) 9 1 := ⟨_, rfl⟩
    have I2 : IV X H2 s A B K ow := by rw [e2]; exact j2.ed9 (by omega) b2.1 (by omega)
    have f2' : FrX X H1 H2 := by rw [e2]; exact ⟨zst.rf.wr _ _ _, rfl, rfl, fun q _ h2 i => by rw [zct_wr, if_neg (by omega)]⟩
    have ct2 : ∀ j, j < n → Ek s sc j → zct H2 (A j) 9 = sT (Tp T bb) j := fun j a1 a2 => by
      rw [e2, zct_wr]
      show _ = if (if j = bb then true else T j) = true then (1 : Int) else 0
      by_cases c : j = bb
      · rw [if_pos ⟨by rw [c], rfl⟩, if_pos c, if_pos rfl]
      · rw [if_neg (fun w => j2.pp (by omega) (by omega) c w.1), if_neg c]
        exact j4 j a1 a2
    have c10 : ∀ j, zct H2 (A j) 10 = zct H1 (A j) 10 ∧ zct H2 (A j) 11 = zct H1 (A j) 11 := fun j => by rw [e2, zct_wr, if_neg (by omega), zct_wr, if_neg (by omega)]; exact ⟨rfl, rfl⟩
    obtain ⟨s3, e3⟩ : ∃ s3, s3 = zup s2 36 bb 1 := ⟨_, rfl⟩
    have z3 : zfs [11] s s3 := by rw [e3]; exact m2.1.up (by omega) rfl
    have r36 : ∀ k, s3 36 k = if k = bb then 1 else R k := fun k => by rw [e3, zup_r, m2.2]
    have bb60 : bb < 60 := by omega
    have wz : ∀ g : zSg → Option (Int × zSg), ywz 60 36 best 1 s2 g = g s3 := fun g => by
      unfold ywz
      rw [r1, if_pos ⟨Or.inr rfl, by omega, by omega⟩, Int.toNat_natCast, e3]
    have runc : ∀ H', fH_growTree_l8 f1 X (A sc) (A bb) ((rd + 1 : Nat) : Int) H2 = some ((), H') → fH_growTree_l8 (f1 + 1) X (A sc) (A x) (rd : Int) H = some ((), H') := fun H' hr => by
      rw [← hr, fH_growTree_l8]
      simp only [ygi, ft0 F0, zA10, if_true, q1, hn, crd, xp.2.1, if_false, j1', yck, ft0 F1, k1', ybd_s, yjn, yvl, b4, bpp.2.1, ypz, bpp.1, zA2, true_and, or_true, ← e2, er]
    by_cases ce : bb = e
    · obtain ⟨H3, i1, i2, i3, i4⟩ := grow_c (L0 := 0) hn hsc (n - (rd + 1)) f1 (rd + 1) (A bb) H2 (Tp T bb) (Nat.le_refl _) (by omega) (by omega) I2 ct2 (Or.inr ⟨bb, b1, b2, rfl⟩)
      refine ⟨H3, s3, (bp : Int), runc H3 i1, ?_, i2, (j3.tr f2').tr i3, z3, ?_⟩
      · rw [gM_hangs_l10, m1', wz, r1, if_pos (by omega), r2]
      · rw [i4 e he hee (by show (if e = bb then true else T e) = true; rw [if_pos ce.symm]), (c10 e).1, ← ce]
        exact o1
    · have cnt : cntP (vB s sc (Tp T bb)) n = c := by
        have fl := cntP_flip (P := vB s sc T) (P' := vB s sc (Tp T bb)) (b := bb) (vB_iff.mpr ⟨b2, b3⟩) (by
          unfold vB Tp
          rw [if_pos rfl]
          simp) (fun j hj => by
          unfold vB Tp
          rw [if_neg hj]) n
        rw [if_pos b1] at fl
        omega
      obtain ⟨H3, s4, r, i1, i2, i3, i4, i5⟩ := ih f1 f2 (rd + 1) bb H2 s3 (Tp T bb) (s3 36) cnt (by show (if e = bb then true else T e) = false; rw [if_neg (fun w => ce w.symm)]; exact hTe) (by omega) (by omega) (by omega) I2 ct2 b1 b2 (by show (if bb = bb then true else T bb) = true; rw [if_pos rfl]) (fun o ho => by
          have ho' : (if o = bb then true else T o) = true := ho
          by_cases c : o = bb
          · rw [c]; exact ⟨b1, b2⟩
          · rw [if_neg c] at ho'; exact hT o ho') (fun j a1 a2 a3 => by
          have hj : (if j = bb then true else T j) = false := a3
          have cj : j ≠ bb := fun w => by rw [if_pos w] at hj; cases hj
          rw [if_neg cj] at hj
          have em : Tm (Tp T bb) bb = T := funext fun o => by
            show (if o = bb then false else if o = bb then true else T o) = T o
            by_cases c : o = bb
            · rw [if_pos c, c, b3]
            · rw [if_neg c, if_neg c]
          rw [em, (c10 j).1, (c10 j).2]
          exact j6 j a1 a2 (Nat.zero_le _) hj hTx (hb j a1 a2 hj)) ⟨z3, rfl⟩ (fun k hk => by
          rw [r36]
          show _ = if (if k = bb then true else T k) = true then (1 : Int) else 0
          by_cases c : k = bb
          · rw [if_pos c, if_pos c, if_pos rfl]
          · rw [if_neg c, if_neg c]; exact hR k hk)
      refine ⟨H3, s4, r, runc H3 i1, ?_, i3, (j3.tr f2').tr i4, i5⟩
      rw [gM_hangs_l10, m1', wz, r1, if_neg (by omega)]
      exact i2
/-- the class's start: all editions of the score are made ready, the first is in the tree -/
def T0s (s : zSg) (A : Nat → Nat) (sc k lat : Nat) (H : zHp) : Prop := (lat = 0 ∧ ∀ j, j < k → ¬ Ek s sc j) ∨ ∃ r, r < k ∧ Ek s sc r ∧ (∀ j, j < r → ¬ Ek s sc j) ∧ lat = A r ∧ ∀ j, j < k → Ek s sc j → zct H (A j) 9 = (if j = r then 1 else 0) ∧ zct H (A j) 10 = -1
theorem tree0_l (hn : s 0 2 = (n : Int)) (hsc : sc < n) : ∀ (d f k lat : Nat) (H : zHp), n - k = d → d < f → k ≤ n → IV X H s A B K ow → T0s s A sc k lat H → ∃ H' lat', (∀ Q, fH_growTree_l1 f X (A sc) lat (k : Int) H Q = Q X (A sc) lat' H') ∧ IV X H' s A B K ow ∧ FrX X H H' ∧ T0s s A sc n lat' H' := by
  intro d
  induction d with
  | zero =>
    intro f k lat H h1 h2 h3 I
    obtain ⟨f, rfl⟩ : ∃ f', f = f' + 1 := ⟨f - 1, by omega⟩
    obtain rfl : k = n := by omega
    have F0 := I.1
    have q1 : zct H X 4 = s 0 2 := I.2.1.2.2.2.2.2.2.2.2.2.1
    have c : ¬ (k : Int) < (k : Int) := by omega
    intro ts
    refine ⟨H, lat, fun Q => ?_, I, FrX.rf, ts⟩
    rw [fH_growTree_l1]
    simp only [yjn, ygi, ft0 F0, zA10, if_true, q1, hn]
    rw [if_neg c]
  | succ d ih =>
    intro f k lat H h1 h2 h3 I
    obtain ⟨f, rfl⟩ : ∃ f', f = f' + 1 := ⟨f - 1, by omega⟩
    have F0 := I.1
    have n60 := I.n
    have hk : k < n := by omega
    obtain ⟨e1, e2, e3⟩ := e_isE I hn hsc hk
    have ek : zadd (k : Int) 1 = ((k + 1 : Nat) : Int) := by rw [zadd_e (by omega) (by omega)]; omega
    have kn : (k : Int) < (n : Int) := by omega
    have x1 : n - (k + 1) = d := by omega
    have x2 : d < f := by omega
    have x3 : k + 1 ≤ n := by omega
    intro ts
    have skip : ¬ Ek s sc k → (∀ Q, fH_growTree_l1 (f + 1) X (A sc) lat (k : Int) H Q = fH_growTree_l1 f X (A sc) lat ((k + 1 : Nat) : Int) H Q) → ∃ H' lat', (∀ Q, fH_growTree_l1 (f + 1) X (A sc) lat (k : Int) H Q = Q X (A sc) lat' H') ∧ IV X H' s A B K ow ∧ FrX X H H' ∧ T0s s A sc n lat' H' := fun hne hrun => by
      have ts2 : T0s s A sc (k + 1) lat H := by
        rcases ts with ⟨a1, a2⟩ | ⟨r, a1, a2, a3, a4, a5⟩
        · refine Or.inl ⟨a1, fun j hj => ?_⟩
          by_cases c : j = k
          · rw [c]; exact hne
          · exact a2 j (by omega)
        · refine Or.inr ⟨r, by omega, a2, a3, a4, fun j hj hj2 => ?_⟩
          by_cases c : j = k
          · rw [c] at hj2; exact absurd hj2 hne
          · exact a5 j (by omega) hj2
      obtain ⟨H', lat', i1, i2⟩ := ih f (k + 1) lat H x1 x2 x3 I ts2
      exact ⟨H', lat', fun Q => (hrun Q).trans (i1 Q), i2⟩
    by_cases g : s 3 k = 4
    · obtain ⟨t1, t2, t3⟩ := e3 g
      have kpos := (I.pos (t := k) (by omega)).1
      by_cases g2 : s 4 k = (sc : Int)
      · have mk : ∀ v : Int, IV X (zwr (zwr H (A k) 9 v) (A k) 10 (-1)) s A B K ow := fun v => (I.ed9 (by omega) g (by omega)).ed9 (by omega) g (by omega)
        have fr : ∀ v : Int, FrX X H (zwr (zwr H (A k) 9 v) (A k) 10 (-1)) := fun v => ⟨(zst.rf.wr _ _ _).wr _ _ _, rfl, rfl, fun q _ h2 i => by rw [zct_wr, if_neg (by omega), zct_wr, if_neg (by omega)]⟩
        have v9 : ∀ v : Int, zct (zwr (zwr H (A k) 9 v) (A k) 10 (-1)) (A k) 9 = v := fun v => by rw [zct_wr, if_neg (by omega), zct_wr, if_pos ⟨rfl, rfl⟩]
        have v10 : ∀ v : Int, zct (zwr (zwr H (A k) 9 v) (A k) 10 (-1)) (A k) 10 = -1 := fun v => by rw [zct_wr, if_pos ⟨rfl, rfl⟩]
        have vo : ∀ (v : Int) j i, j < n → j ≠ k → zct (zwr (zwr H (A k) 9 v) (A k) 10 (-1)) (A j) i = zct H (A j) i := fun v j i hj hne => by
          have := I.pp (x := j) (k := k) (by omega) (by omega) hne
          rw [zct_wr, if_neg (fun w => this w.1), zct_wr, if_neg (fun w => this w.1)]
        clear skip
        by_cases c0 : lat = 0
        · have none : ∀ j, j < k → ¬ Ek s sc j := by
            rcases ts with ⟨a1, a2⟩ | ⟨r, a1, a2, a3, a4, a5⟩
            · exact a2
            · have := (e_isE I hn hsc (k := r) (by omega)).2.2 a2.1
              exact absurd (a4.symm.trans c0) this.2.1
          obtain ⟨H', lat', i1, i2, i3, i4⟩ := ih f (k + 1) (A k) (zwr (zwr H (A k) 9 1) (A k) 10 (-1)) x1 x2 x3 (mk 1) (Or.inr ⟨k, Nat.lt_succ_self k, ⟨g, g2⟩, none, rfl, fun j hj hj2 => by
            by_cases c : j = k
            · rw [c, v9, v10, if_pos rfl]; exact ⟨rfl, rfl⟩
            · exact absurd hj2 (none j (by clear ts; omega))⟩)
          refine ⟨H', lat', fun Q => ?_, i2, (fr 1).tr i3, i4⟩
          have one0 : ¬ (1 : Int) = 0 := by decide
          rw [← i1 Q, fH_growTree_l1]
          simp only [yjn, yvl, yck, ygi, ygr, ypi, ypz, ft0 F0, zA10, if_true, e1, kn, e2, ybd_s, if_pos g, t2, if_false, t1, zA2, t3.mpr g2, c0, or_true, true_and, ztg_wr, v9, one0, ek]
        · have ⟨r, a1, a2, a3, a4, a5⟩ : ∃ r, r < k ∧ Ek s sc r ∧ (∀ j, j < r → ¬ Ek s sc j) ∧ lat = A r ∧ ∀ j, j < k → Ek s sc j → zct H (A j) 9 = (if j = r then 1 else 0) ∧ zct H (A j) 10 = -1 := by
            rcases ts with ⟨a1, a2⟩ | w
            · exact absurd a1 c0
            · exact w
          obtain ⟨H', lat', i1, i2, i3, i4⟩ := ih f (k + 1) lat (zwr (zwr H (A k) 9 0) (A k) 10 (-1)) x1 x2 x3 (mk 0) (Or.inr ⟨r, by clear ts; omega, a2, a3, a4, fun j hj hj2 => by
            by_cases c : j = k
            · rw [c, v9, v10, if_neg (by clear ts; omega)]; exact ⟨rfl, rfl⟩
            · rw [vo 0 j 9 (by clear ts; omega) c, vo 0 j 10 (by clear ts; omega) c]
              exact a5 j (by clear ts; omega) hj2⟩)
          refine ⟨H', lat', fun Q => ?_, i2, (fr 0).tr i3, i4⟩
          rw [← i1 Q, fH_growTree_l1]
          simp only [yjn, yvl, yck, ygi, ygr, ypi, ypz, ft0 F0, zA10, if_true, e1, kn, e2, ybd_s, if_pos g, t2, if_false, t1, zA2, t3.mpr g2, c0, true_or, true_and, ztg_wr, v9, ek]
      · refine skip (fun w => g2 w.2) fun Q => ?_
        have : ¬ (zct H (A k) 2).toNat = A sc := fun e => g2 (t3.mp e)
        rw [fH_growTree_l1]
        simp only [yjn, yvl, yck, ygi, ygr, ft0 F0, zA10, if_true, e1, kn, e2, ybd_s, if_pos g, t2, if_false, t1, zA2, this, ek]
    · refine skip (fun w => g w.1) fun Q => ?_
      rw [fH_growTree_l1]
      simp only [yjn, yvl, yck, ygi, ft0 F0, zA10, if_true, e1, kn, e2, ybd_s, if_neg g, ek]
theorem m_root_l {H : zHp} {e r : Nat} (I : IV X H s A B K ow) (hn : s 0 2 = (n : Int)) (he : e < n) (hee : Ek s sc e) (hr : r < n) (hre : Ek s sc r) (no : ∀ j, j < r → ¬ Ek s sc j) : ∀ (d f k : Nat), r - k = d → d < f → k ≤ r → ∀ Q, gM_hangs_l3 f (e : Int) (k : Int) s Q = Q (e : Int) (r : Int) s := by
  have n60 := I.n
  have e60 : e < 60 := by omega
  intro d
  induction d with
  | zero =>
    intro f k h1 h2 h3 Q
    obtain ⟨f, rfl⟩ : ∃ f', f = f' + 1 := ⟨f - 1, by omega⟩
    obtain rfl : k = r := by omega
    have k60 : k < 60 := by omega
    rw [gM_hangs_l3]
    simp only [yjn, yrd_n k60, yrd_n e60, hre.1, hre.2, hee.2, if_true]
  | succ d ih =>
    intro f k h1 h2 h3 Q
    obtain ⟨f, rfl⟩ : ∃ f', f = f' + 1 := ⟨f - 1, by omega⟩
    have k60 : k < 60 := by omega
    have ek : zadd (k : Int) 1 = ((k + 1 : Nat) : Int) := by rw [zadd_e (by omega) (by omega)]; omega
    have nk := no k (by omega)
    rw [← ih f (k + 1) (by omega) (by omega) (by omega) Q, gM_hangs_l3]
    by_cases g : s 3 k = 4
    · have g2 : ¬ s 4 k = (sc : Int) := fun w => nk ⟨g, w⟩
      simp only [yjn, yvl, yrd_n k60, yrd_n e60, g, if_true, hee.2, g2, if_false, ek]
    · simp only [yjn, yvl, yrd_n k60, g, if_false, ek]
theorem m_mark_l {e r : Nat} (hn : s 0 2 = (n : Int)) (n60 : n ≤ 60) (hr : r < n) : ∀ (d f k : Nat) (s1 : zSg), n - k = d → d < f → k ≤ n → zfs [11] s s1 → (∀ j, j < k → s1 36 j = if j = r then 1 else 0) → ∃ s2, (∀ Q, gM_hangs_l7 f (e : Int) (r : Int) (k : Int) s1 Q = Q (e : Int) s2) ∧ zfs [11] s s2 ∧ ∀ j, j < n → s2 36 j = if j = r then 1 else 0 := by
  intro d
  induction d with
  | zero =>
    intro f k s1 h1 h2 h3 z hj
    obtain ⟨f, rfl⟩ : ∃ f', f = f' + 1 := ⟨f - 1, by omega⟩
    obtain rfl : k = n := by omega
    have e2 : s1 0 2 = (k : Int) := by rw [z 0 2 rfl, hn]
    refine ⟨s1, fun Q => ?_, z, hj⟩
    rw [gM_hangs_l7]
    simp only [yjn, e2]
    rw [if_neg (by omega)]
  | succ d ih =>
    intro f k s1 h1 h2 h3 z hj
    obtain ⟨f, rfl⟩ : ∃ f', f = f' + 1 := ⟨f - 1, by omega⟩
    have e2 : s1 0 2 = (n : Int) := by rw [z 0 2 rfl, hn]
    have ek : zadd (k : Int) 1 = ((k + 1 : Nat) : Int) := by rw [zadd_e (by omega) (by omega)]; omega
    have wz : ∀ (v : Int) (g : zSg → Option (Int × zSg)), (v = 0 ∨ v = 1) → ywz 60 36 (k : Int) v s1 g = g (zup s1 36 k v) := fun v g hv => by
      unfold ywz
      rw [if_pos ⟨hv, by omega, by omega⟩, Int.toNat_natCast]
    obtain ⟨s2, i1, i2⟩ := ih f (k + 1) (zup s1 36 k (if k = r then 1 else 0)) (by omega) (by omega) (by omega) (z.up (by omega) rfl) (fun j hjk => by
      rw [zup_r]
      dsimp only
      by_cases c : j = k
      · rw [if_pos c, c]
      · rw [if_neg c]; exact hj j (by omega))
    refine ⟨s2, fun Q => ?_, i2⟩
    rw [← i1 Q, gM_hangs_l7]
    by_cases c : k = r
    · subst c
      simp only [yjn, yvl, e2, show (k : Int) < (n : Int) by omega, if_true, wz 1 _ (Or.inr rfl), ek]
    · simp only [yjn, yvl, e2, show (k : Int) < (n : Int) by omega, if_true, show ¬ (k : Int) = (r : Int) by omega, if_false, c, wz 0 _ (Or.inl rfl), ek]
set_option maxRecDepth 100000 in
theorem k_hangs {H : zHp} (I : IV X H s A B K ow) {t : Int} : wX (fH_hangs X t H) fun x H' => wX (gM_hangs t s) fun y s' => y = x ∧ KD X H H' s' := by
  have F := I.1
  have hn := I.n
  unfold fH_hangs gM_hangs
  simp only [wX_s, wX_bd, wX_vl, wX_jn, wX_ite, wX_dv, wX_n0, wX_rb, wX_rc, wX_ry, wX_gi, wX_gr, wX_pi, wX_pz, wX_pr, wX_ai, wX_ab, wX_ar, wX_si, wX_sz, wX_sb, wX_sr, wX_ln, wX_nw, wX_na, wX_nm, wX_io, wX_ck, wX_cp, wX_cl, wX_ca, wX_sv, wX_sc, wX_rd, wX_wi, wX_wz, wX_wb, mi_isThing I, e_editionAt I, i01, ft0 F, zA10, true_and]
  by_cases h : 0 ≤ t ∧ t ≤ s 0 2 - 1
  · obtain ⟨e, rfl⟩ : ∃ e : Nat, t = (e : Int) := ⟨t.toNat, by omega⟩
    obtain ⟨n, en⟩ : ∃ n : Nat, s 0 2 = (n : Int) := ⟨(s 0 2).toNat, by omega⟩
    have he : e < n := by omega
    have hp := I.pos (t := e) (by omega)
    have hb0 : 0 ≤ (e : Int) ∧ (e : Int) < ((60 : Nat) : Int) := by omega
    simp only [h, and_self, true_and, if_true, not_true, if_false, hb0, Int.toNat_natCast]
    by_cases hk : s 3 e = 4
    · obtain ⟨-, ⟨a0, -, -, a2, -⟩, -⟩ := (I.to (t := e) (by omega)).2.2.2.1 hk
      have s4 := ((I.st (t := e) (by omega)).2.2.2.2.1 hk).1
      obtain ⟨sc, esc⟩ : ∃ sc : Nat, s 4 e = (sc : Int) := ⟨(s 4 e).toNat, by omega⟩
      have hsc : sc < n := by omega
      have hee : Ek s sc e := ⟨hk, esc⟩
      rw [esc, Int.toNat_natCast] at a2
      obtain ⟨H1, lat, q1, I1, f1, t1⟩ := tree0_l (X := X) (A := A) (B := B) (K := K) (ow := ow) en hsc n zFU 0 0 H (by omega) (by rw [zFU_e]; omega) (by omega) I (Or.inl ⟨rfl, fun j h => absurd h (by omega)⟩)
      have q1' : ∀ Q, fH_growTree_l1 zFU X (A sc) 0 0 H Q = Q X (A sc) lat H1 := q1
      obtain ⟨r, r1, r2, r3, r4, r5⟩ : ∃ r, r < n ∧ Ek s sc r ∧ (∀ j, j < r → ¬ Ek s sc j) ∧ lat = A r ∧ ∀ j, j < n → Ek s sc j → zct H1 (A j) 9 = (if j = r then 1 else 0) ∧ zct H1 (A j) 10 = -1 := by
        rcases t1 with ⟨-, w⟩ | w
        · exact absurd hee (w e he)
        · exact w
      have mr := m_root_l I en he hee r1 r2 r3 r zFU 0 (by omega) (by rw [zFU_e]; omega) (by omega)
      have mr' : ∀ Q, gM_hangs_l3 zFU (e : Int) 0 s Q = Q (e : Int) (r : Int) s := mr
      have eT : ∀ j, sT (fun o => decide (o = r)) j = if j = r then 1 else 0 := fun j => by
        unfold sT
        by_cases c : j = r
        · rw [if_pos c, if_pos (decide_eq_true c)]
        · rw [if_neg c, if_neg (fun w => c (of_decide_eq_true w))]
      have ct : ∀ j, j < n → Ek s sc j → zct H1 (A j) 9 = sT (fun o => decide (o = r)) j := fun j a1 a2 => by rw [eT]; exact (r5 j a1 a2).1
      simp only [hk, if_true, if_false, show ¬ A e = 0 by omega, a0, zA2, a2, Int.toNat_natCast, true_and, mr']
      by_cases c : r = e
      · obtain ⟨H2, i1, i2, i3, i4⟩ := grow_c (L0 := 0) en hsc n zFU 0 (A r) H1 (fun o => decide (o = r)) (by omega) (by rw [zFU_e]; omega) (by omega) I1 ct (Or.inr ⟨r, r1, r2, rfl⟩)
        have gt : fH_growTree X (A sc) H = some ((), H2) := by
          unfold fH_growTree
          rw [q1', r4]
          exact i1
        obtain ⟨-, ⟨b0, -⟩, -⟩ := (i2.to (t := e) (by omega)).2.2.2.1 hk
        have v := (i4 e he hee (by rw [c]; exact decide_eq_true rfl)).trans (r5 e he hee).2
        simp only [gt, wX_s, b0, zA2, true_and, v, c, if_true]
        (first | exact (KD.fx2 (f1.tr i3) i2 zfs.rf) | exact ⟨trivial, (KD.fx2 (f1.tr i3) i2 zfs.rf)⟩ | exact ⟨rfl, (KD.fx2 (f1.tr i3) i2 zfs.rf)⟩ | (refine ⟨by omega, ?_⟩; exact (KD.fx2 (f1.tr i3) i2 zfs.rf)))
      · obtain ⟨s2, m1, m2, m3⟩ := m_mark_l (e := e) en (by omega) r1 n zFU 0 s (by omega) (by rw [zFU_e]; omega) (by omega) zfs.rf (fun j h => absurd h (by omega))
        have m1' : ∀ Q, gM_hangs_l7 zFU (e : Int) (r : Int) 0 s Q = Q (e : Int) s2 := m1
        have cl := cntP_le (P := vB s sc (fun o => decide (o = r))) n
        obtain ⟨H3, s3, v, i1, i2, i3, i4, i5, i6⟩ := both_l (X := X) (A := A) (B := B) (K := K) (ow := ow) en hsc he hee _ zFU zFU 0 r H1 s2 (fun o => decide (o = r)) (s2 36) rfl (decide_eq_false (fun w => c w.symm)) (by rw [zFU_e]; omega) (by rw [zFU_e]; omega) (by omega) I1 ct r1 r2 (decide_eq_true rfl) (fun o ho => by rw [of_decide_eq_true ho]; exact ⟨r1, r2⟩) (fun j a1 a2 a3 => by
          rw [(r5 j a1 a2).2]
          refine Or.inl ⟨rfl, fun o _ => ?_⟩
          show (if o = r then false else decide (o = r)) = false
          by_cases c : o = r
          · rw [if_pos c]
          · rw [if_neg c]; exact decide_eq_false c) ⟨m2, rfl⟩ (fun k hk => by rw [m3 k hk, eT])
        have i1' : fH_growTree_l8 zFU X (A sc) (A r) 0 H1 = some ((), H3) := i1
        have gt : fH_growTree X (A sc) H = some ((), H3) := by
          unfold fH_growTree
          rw [q1', r4]
          exact i1'
        obtain ⟨-, ⟨b0, -⟩, -⟩ := (i3.to (t := e) (by omega)).2.2.2.1 hk
        simp only [gt, wX_s, b0, zA2, true_and, show ¬ (r : Int) = (e : Int) by omega, if_false, m1', i2, i6]
        (first | exact (KD.fx2 (f1.tr i4) i3 i5) | exact ⟨trivial, (KD.fx2 (f1.tr i4) i3 i5)⟩ | exact ⟨rfl, (KD.fx2 (f1.tr i4) i3 i5)⟩ | (refine ⟨by omega, ?_⟩; exact (KD.fx2 (f1.tr i4) i3 i5)))
    · simp only [hk, if_false, if_true]
      (first | exact KD.rf I | exact ⟨trivial, KD.rf I⟩ | exact ⟨rfl, KD.rf I⟩)
  · simp only [h, false_and, if_false, if_true, not_false_iff]
    (first | exact KD.rf I | exact ⟨trivial, KD.rf I⟩ | exact ⟨rfl, KD.rf I⟩)
end HANGS3
