/-! THE TREE: the reference's side, and both -/
section HANGS2
variable {X : Nat} {s : zSg} {A : Nat → Nat} {B : Nat → Nat → Nat} {K : Nat → Nat} {ow : Nat → Nat × Nat} {n sc : Nat}
theorem grow_c {L0 : Nat} (hn : s 0 2 = (n : Int)) (hsc : sc < n) : ∀ (d f : Nat) (rd L : Nat) (H : zHp) (T : Nat → Bool), n - rd ≤ d → d < f → rd ≤ n → IV X H s A B K ow → (∀ j, j < n → Ek s sc j → zct H (A j) 9 = sT T j) → (L = 0 ∨ ∃ x, x < n ∧ Ek s sc x ∧ L = A x) → ∃ H', fH_growTree_l8 f X (A sc) L (rd : Int) H = some ((), H') ∧ IV X H' s A B K ow ∧ FrX X H H' ∧ ∀ j, j < n → Ek s sc j → T j = true → zct H' (A j) 10 = zct H (A j) 10 := by
  intro d
  induction d with
  | zero =>
    intro f rd L H T h1 h2 h3 I ct hL
    obtain ⟨f, rfl⟩ : ∃ f', f = f' + 1 := ⟨f - 1, by clear hL; omega⟩
    have F0 := I.1
    have q1 : zct H X 4 = s 0 2 := I.2.1.2.2.2.2.2.2.2.2.2.1
    have c : ¬ (rd : Int) < (n : Int) := by clear hL; omega
    refine ⟨H, ?_, I, FrX.rf, fun _ _ _ _ => rfl⟩
    rw [fH_growTree_l8]
    simp only [ygi, ft0 F0, zA10, if_true, q1, hn]
    rw [if_neg c]
  | succ d ih =>
    intro f rd L H T h1 h2 h3 I ct hL
    obtain ⟨f, rfl⟩ : ∃ f', f = f' + 1 := ⟨f - 1, by clear hL; omega⟩
    have F0 := I.1
    have q1 : zct H X 4 = s 0 2 := I.2.1.2.2.2.2.2.2.2.2.2.1
    by_cases c : rd < n
    · have c' : (rd : Int) < (n : Int) := by clear hL; omega
      rcases hL with hL | ⟨x, x1, x2, x3⟩
      · refine ⟨H, ?_, I, FrX.rf, fun _ _ _ _ => rfl⟩
        rw [fH_growTree_l8]
        simp only [ygi, ft0 F0, zA10, if_true, q1, hn, c', hL]
      · have n60 := I.n
        have xp := (e_isE I hn hsc x1).2.2 x2.1
        have er : zadd (rd : Int) 1 = ((rd + 1 : Nat) : Int) := by rw [zadd_e (by omega) (by omega)]; omega
        obtain ⟨H1, j1, j2, j3, j4, j5, -⟩ := hang_l (T := T) (rd := (rd : Int)) hn hsc x1 x2.1 n zFU 0 H (by omega) (by rw [zFU_e]; omega) (by omega) I ct
        obtain ⟨p, k1, k2⟩ := near_l j2 hn hsc j4 n zFU 0 0 (by omega) (by rw [zFU_e]; omega) (by omega) (Or.inl ⟨rfl, fun j h => absurd h (by omega)⟩)
        have j1' : ∀ Q, fH_growTree_l9 zFU X (A sc) (A x) (rd : Int) 0 H Q = Q X (A sc) (rd : Int) H1 := j1
        have k1' : fH_nearestToTree X (A sc) H1 = some (p, H1) := k1
        have F1 := j2.1
        have y1 : n - (rd + 1) ≤ d := by clear k2; omega
        have y2 : d < f := by clear k2; omega
        have y3 : rd + 1 ≤ n := by clear k2; omega
        have xz := xp.2.1
        rcases k2 with ⟨p0, -⟩ | ⟨b, b1, b2, b3, b4, -⟩
        · obtain ⟨H2, i1, i2, i3, i4⟩ := ih f (rd + 1) p H1 T y1 y2 y3 j2 j4 (Or.inl p0)
          refine ⟨H2, ?_, i2, j3.tr i3, fun j a1 a2 a3 => by rw [i4 j a1 a2 a3, (j5 j a1 a2 (Or.inr a3)).1]⟩
          rw [← i1, fH_growTree_l8]
          simp only [ygi, ft0 F0, zA10, if_true, q1, hn, c', x3, xz, if_false, j1', yck, ft0 F1, k1', ybd_s, yjn, yvl, p0, er]
        · have bp := (e_isE j2 hn hsc b1).2.2 b2.1
          obtain ⟨H2, e2⟩ : ∃ H2, H2 = zwr H1 (A b) 9 1 := ⟨_, rfl⟩
          have I2 : IV X H2 s A B K ow := by rw [e2]; exact j2.ed9 (by omega) b2.1 (by omega)
          have bpos := (j2.pos (t := b) (by omega)).1
          have f2 : FrX X H1 H2 := by rw [e2]; exact ⟨zst.rf.wr _ _ _, rfl, rfl, fun q _ h2 i => by rw [zct_wr, if_neg (by omega)]⟩
          have ct2 : ∀ j, j < n → Ek s sc j → zct H2 (A j) 9 = sT (Tp T b) j := fun j a1 a2 => by
            rw [e2, zct_wr]
            show _ = if (if j = b then true else T j) = true then (1 : Int) else 0
            by_cases c : j = b
            · rw [if_pos ⟨by rw [c], rfl⟩, if_pos c, if_pos rfl]
            · rw [if_neg (fun w => j2.pp (by omega) (by omega) c w.1), if_neg c]
              exact j4 j a1 a2
          obtain ⟨H3, i1, i2, i3, i4⟩ := ih f (rd + 1) (A b) H2 (Tp T b) y1 y2 y3 I2 ct2 (Or.inr ⟨b, b1, b2, rfl⟩)
          refine ⟨H3, ?_, i2, (j3.tr f2).tr i3, fun j a1 a2 a3 => ?_⟩
          · rw [← i1, fH_growTree_l8]
            simp only [ygi, ft0 F0, zA10, if_true, q1, hn, c', x3, xz, if_false, j1', yck, ft0 F1, k1', ybd_s, yjn, yvl, b4, bp.2.1, ypz, bp.1, zA2, true_and, or_true, ← e2, er]
          · rw [i4 j a1 a2 (by show (if j = b then true else T j) = true; rw [a3]; split <;> rfl), e2, zct_wr, if_neg (by omega), (j5 j a1 a2 (Or.inr a3)).1]
    · have c' : ¬ (rd : Int) < (n : Int) := by clear hL; omega
      refine ⟨H, ?_, I, FrX.rf, fun _ _ _ _ => rfl⟩
      rw [fH_growTree_l8]
      simp only [ygi, ft0 F0, zA10, if_true, q1, hn]
      rw [if_neg c']
/-- the nearest pair among those looked at: ahead of thing t, and of thing t those ahead of o -/
def RI (s : zSg) (n sc : Nat) (T : Nat → Bool) (t o : Nat) (best on least : Int) : Prop := (best = -1 ∧ ∀ t' o', t' < n → o' < n → Ek s sc t' → T t' = false → T o' = true → ¬ (t' < t ∨ (t' = t ∧ o' < o))) ∨ ∃ b p : Nat, best = (b : Int) ∧ on = (p : Int) ∧ b < n ∧ p < n ∧ Ek s sc b ∧ T b = false ∧ T p = true ∧ least = edist s b p ∧ (b < t ∨ (b = t ∧ p < o)) ∧
  ∀ t' o', t' < n → o' < n → Ek s sc t' → T t' = false → T o' = true → (t' < t ∨ (t' = t ∧ o' < o)) → least < edist s t' o' ∨ (least = edist s t' o' ∧ (b < t' ∨ (b = t' ∧ p ≤ o')))
theorem m_scan_l {H : zHp} {T : Nat → Bool} {e t : Nat} {R : Nat → Int} (I : IV X H s A B K ow) (hn : s 0 2 = (n : Int)) (ht : t < n) (hte : Ek s sc t) (htT : T t = false) (hT : ∀ o, T o = true → o < n ∧ Ek s sc o) (hR : ∀ k, k < n → R k = sT T k) : ∀ (d f o : Nat) (best on least : Int) (s1 : zSg), n - o = d → d < f → o ≤ n → zq R s s1 → RI s n sc T t o best on least → ∃ best' on' least' s2, (∀ Q, gM_hangs_l13 f (e : Int) best on least (t : Int) (o : Int) s1 Q = Q (e : Int) best' on' least' (t : Int) s2) ∧ zq R s s2 ∧ RI s n sc T t n best' on' least' := by
  intro d
  induction d with
  | zero =>
    intro f o best on least s1 h1 h2 h3 z
    obtain ⟨f, rfl⟩ : ∃ f', f = f' + 1 := ⟨f - 1, by omega⟩
    obtain rfl : o = n := by omega
    have e2 : s1 0 2 = (o : Int) := by rw [z.1 0 2 rfl, hn]
    have c : ¬ (o : Int) < (o : Int) := by omega
    intro ri
    refine ⟨best, on, least, s1, fun Q => ?_, z, ri⟩
    rw [gM_hangs_l13]
    simp only [yjn, e2]
    rw [if_neg c]
  | succ d ih =>
    intro f o best on least s1 h1 h2 h3 z
    obtain ⟨f, rfl⟩ : ∃ f', f = f' + 1 := ⟨f - 1, by omega⟩
    have n60 := I.n
    have ho : o < n := by omega
    have e2 : s1 0 2 = (n : Int) := by rw [z.1 0 2 rfl, hn]
    have e36 : s1 36 o = sT T o := by rw [z.2]; exact hR o ho
    have eo : zadd (o : Int) 1 = ((o + 1 : Nat) : Int) := by rw [zadd_e (by omega) (by omega)]; omega
    have o60 : o < 60 := by omega
    have on' : (o : Int) < (n : Int) := by omega
    have y1 : n - (o + 1) = d := by omega
    have y2 : d < f := by omega
    have y3 : o + 1 ≤ n := by omega
    intro ri
    by_cases g : T o = true
    · have v1 : sT T o = 1 := if_pos g
      obtain ⟨o1, o2⟩ := hT o g
      obtain ⟨s2, q1, q2⟩ := m_distance (a := t) (b := o) I z (by omega) hte.1 (by omega)
      have run : ∀ Q, gM_hangs_l13 (f + 1) (e : Int) best on least (t : Int) (o : Int) s1 Q = if best < 0 then gM_hangs_l13 f (e : Int) (t : Int) (o : Int) (edist s t o) (t : Int) ((o + 1 : Nat) : Int) s2 Q else if edist s t o < least then gM_hangs_l13 f (e : Int) (t : Int) (o : Int) (edist s t o) (t : Int) ((o + 1 : Nat) : Int) s2 Q else gM_hangs_l13 f (e : Int) best on least (t : Int) ((o + 1 : Nat) : Int) s2 Q := fun Q => by
        have one0 : ¬ (1 : Int) = 0 := by decide
        rw [gM_hangs_l13]
        simp only [yjn, yvl, e2, on', if_true, yrd_n o60, e36, v1, one0, if_false, q1, ybd_s, eo]
      have new : (best < 0 ∨ edist s t o < least) → RI s n sc T t (o + 1) (t : Int) (o : Int) (edist s t o) := fun hc => by
        refine Or.inr ⟨t, o, rfl, rfl, ht, ho, hte, htT, g, rfl, Or.inr ⟨rfl, by omega⟩, fun t' o' a1 a2 a3 a4 a5 a6 => ?_⟩
        by_cases c : t' = t ∧ o' = o
        · rw [c.1, c.2]; exact Or.inr ⟨rfl, Or.inr ⟨rfl, Nat.le_refl _⟩⟩
        · rcases ri with ⟨r1, r2⟩ | ⟨b, p, r1, r2, r3, r4, r5, r6, r7, r8, r9, r10⟩
          · exact absurd (by omega) (r2 t' o' a1 a2 a3 a4 a5)
          · have := r10 t' o' a1 a2 a3 a4 a5 (by omega)
            omega
      have old : ¬ best < 0 → ¬ edist s t o < least → RI s n sc T t (o + 1) best on least := fun c1 c2 => by
        rcases ri with ⟨r1, r2⟩ | ⟨b, p, r1, r2, r3, r4, r5, r6, r7, r8, r9, r10⟩
        · omega
        · refine Or.inr ⟨b, p, r1, r2, r3, r4, r5, r6, r7, r8, by omega, fun t' o' a1 a2 a3 a4 a5 a6 => ?_⟩
          by_cases c : t' = t ∧ o' = o
          · rw [c.1, c.2]; omega
          · exact r10 t' o' a1 a2 a3 a4 a5 (by omega)
      clear ri
      by_cases c1 : best < 0
      · obtain ⟨b', n', l', s3, i1, i2⟩ := ih f (o + 1) (t : Int) (o : Int) (edist s t o) s2 y1 y2 y3 q2 (new (Or.inl c1))
        exact ⟨b', n', l', s3, fun Q => by rw [run Q, if_pos c1]; exact i1 Q, i2⟩
      · by_cases c2 : edist s t o < least
        · obtain ⟨b', n', l', s3, i1, i2⟩ := ih f (o + 1) (t : Int) (o : Int) (edist s t o) s2 y1 y2 y3 q2 (new (Or.inr c2))
          exact ⟨b', n', l', s3, fun Q => by rw [run Q, if_neg c1, if_pos c2]; exact i1 Q, i2⟩
        · obtain ⟨b', n', l', s3, i1, i2⟩ := ih f (o + 1) best on least s2 y1 y2 y3 q2 (old c1 c2)
          exact ⟨b', n', l', s3, fun Q => by rw [run Q, if_neg c1, if_neg c2]; exact i1 Q, i2⟩
    · have v0 : sT T o = 0 := if_neg g
      have old : RI s n sc T t (o + 1) best on least := by
        rcases ri with ⟨r1, r2⟩ | ⟨b, p, r1, r2, r3, r4, r5, r6, r7, r8, r9, r10⟩
        · refine Or.inl ⟨r1, fun t' o' a1 a2 a3 a4 a5 a6 => ?_⟩
          by_cases c : t' = t ∧ o' = o
          · rw [c.2] at a5; exact g a5
          · exact r2 t' o' a1 a2 a3 a4 a5 (by omega)
        · refine Or.inr ⟨b, p, r1, r2, r3, r4, r5, r6, r7, r8, by omega, fun t' o' a1 a2 a3 a4 a5 a6 => ?_⟩
          by_cases c : t' = t ∧ o' = o
          · rw [c.2] at a5; exact absurd a5 g
          · exact r10 t' o' a1 a2 a3 a4 a5 (by omega)
      clear ri
      obtain ⟨b', n', l', s3, i1, i2⟩ := ih f (o + 1) best on least s1 y1 y2 y3 z old
      refine ⟨b', n', l', s3, fun Q => ?_, i2⟩
      rw [← i1 Q, gM_hangs_l13]
      simp only [yjn, yvl, e2, on', if_true, yrd_n o60, e36, v0, eo]
theorem m_pairs_l {H : zHp} {T : Nat → Bool} {e : Nat} {R : Nat → Int} (I : IV X H s A B K ow) (hn : s 0 2 = (n : Int)) (he : e < n) (hee : Ek s sc e) (hT : ∀ o, T o = true → o < n ∧ Ek s sc o) (hR : ∀ k, k < n → R k = sT T k) : ∀ (d f t : Nat) (best on least : Int) (s1 : zSg), n - t = d → d < f → t ≤ n → zq R s s1 → RI s n sc T t 0 best on least → ∃ best' on' least' s2, (∀ Q, gM_hangs_l11 f (e : Int) best on least (t : Int) s1 Q = Q (e : Int) best' on' s2) ∧ zq R s s2 ∧ RI s n sc T n 0 best' on' least' := by
  intro d
  induction d with
  | zero =>
    intro f t best on least s1 h1 h2 h3 z
    obtain ⟨f, rfl⟩ : ∃ f', f = f' + 1 := ⟨f - 1, by omega⟩
    obtain rfl : t = n := by omega
    have e2 : s1 0 2 = (t : Int) := by rw [z.1 0 2 rfl, hn]
    have c : ¬ (t : Int) < (t : Int) := by omega
    intro ri
    refine ⟨best, on, least, s1, fun Q => ?_, z, ri⟩
    rw [gM_hangs_l11]
    simp only [yjn, e2]
    rw [if_neg c]
  | succ d ih =>
    intro f t best on least s1 h1 h2 h3 z
    obtain ⟨f, rfl⟩ : ∃ f', f = f' + 1 := ⟨f - 1, by omega⟩
    have n60 := I.n
    have ht : t < n := by omega
    have e2 : s1 0 2 = (n : Int) := by rw [z.1 0 2 rfl, hn]
    have e36 : s1 36 t = sT T t := by rw [z.2]; exact hR t ht
    have e3 : s1 3 t = s 3 t := z.1 3 t rfl
    have e4 : s1 4 t = s 4 t := z.1 4 t rfl
    have e4e : s1 4 e = (sc : Int) := by rw [z.1 4 e rfl]; exact hee.2
    have et : zadd (t : Int) 1 = ((t + 1 : Nat) : Int) := by rw [zadd_e (by omega) (by omega)]; omega
    have t60 : t < 60 := by omega
    have e60 : e < 60 := by omega
    have tn' : (t : Int) < (n : Int) := by omega
    have y1 : n - (t + 1) = d := by omega
    have y2 : d < f := by omega
    have y3 : t + 1 ≤ n := by omega
    intro ri
    have skip : ¬ (Ek s sc t ∧ T t = false) → (∀ Q, gM_hangs_l11 (f + 1) (e : Int) best on least (t : Int) s1 Q = gM_hangs_l11 f (e : Int) best on least ((t + 1 : Nat) : Int) s1 Q) → ∃ best' on' least' s2, (∀ Q, gM_hangs_l11 (f + 1) (e : Int) best on least (t : Int) s1 Q = Q (e : Int) best' on' s2) ∧ zq R s s2 ∧ RI s n sc T n 0 best' on' least' := fun hne hrun => by
      have old : RI s n sc T (t + 1) 0 best on least := by
        rcases ri with ⟨r1, r2⟩ | ⟨b, p, r1, r2, r3, r4, r5, r6, r7, r8, r9, r10⟩
        · refine Or.inl ⟨r1, fun t' o' a1 a2 a3 a4 a5 a6 => ?_⟩
          by_cases c : t' = t
          · rw [c] at a3 a4; exact hne ⟨a3, a4⟩
          · exact r2 t' o' a1 a2 a3 a4 a5 (by omega)
        · refine Or.inr ⟨b, p, r1, r2, r3, r4, r5, r6, r7, r8, by omega, fun t' o' a1 a2 a3 a4 a5 a6 => ?_⟩
          by_cases c : t' = t
          · rw [c] at a3 a4; exact absurd ⟨a3, a4⟩ hne
          · exact r10 t' o' a1 a2 a3 a4 a5 (by omega)
      obtain ⟨b', n', l', s3, i1, i2⟩ := ih f (t + 1) best on least s1 y1 y2 y3 z old
      exact ⟨b', n', l', s3, fun Q => (hrun Q).trans (i1 Q), i2⟩
    by_cases g : s 3 t = 4
    · by_cases g2 : s 4 t = (sc : Int)
      · by_cases g3 : T t = true
        · have v1 : sT T t = 1 := if_pos g3
          refine skip (fun w => by rw [g3] at w; cases w.2) fun Q => ?_
          have one0 : ¬ (1 : Int) = 0 := by decide
          rw [gM_hangs_l11]
          simp only [yjn, yvl, e2, tn', if_true, yrd_n t60, yrd_n e60, e3, g, e4, g2, e4e, e36, v1, one0, if_false, et]
        · have g3 : T t = false := by simpa using g3
          have v0 : sT T t = 0 := if_neg (by rw [g3]; decide)
          clear skip
          obtain ⟨b1, n1, l1, s2, q1, q2, q3⟩ := m_scan_l (e := e) I hn ht ⟨g, g2⟩ g3 hT hR n zFU 0 best on least s1 (by clear ri; omega) (by clear ri; rw [zFU_e]; omega) (by clear ri; omega) z ri
          have q1' : ∀ Q, gM_hangs_l13 zFU (e : Int) best on least (t : Int) 0 s1 Q = Q (e : Int) b1 n1 l1 (t : Int) s2 := q1
          have nx : RI s n sc T (t + 1) 0 b1 n1 l1 := by
            clear ri
            rcases q3 with ⟨r1, r2⟩ | ⟨b, p, r1, r2, r3, r4, r5, r6, r7, r8, r9, r10⟩
            · exact Or.inl ⟨r1, fun t' o' a1 a2 a3 a4 a5 a6 => r2 t' o' a1 a2 a3 a4 a5 (by omega)⟩
            · exact Or.inr ⟨b, p, r1, r2, r3, r4, r5, r6, r7, r8, by omega, fun t' o' a1 a2 a3 a4 a5 a6 => r10 t' o' a1 a2 a3 a4 a5 (by omega)⟩
          obtain ⟨b', n', l', s3, i1, i2⟩ := ih f (t + 1) b1 n1 l1 s2 y1 y2 y3 q2 nx
          refine ⟨b', n', l', s3, fun Q => ?_, i2⟩
          rw [← i1 Q, gM_hangs_l11]
          simp only [yjn, yvl, e2, tn', if_true, yrd_n t60, yrd_n e60, e3, g, e4, g2, e4e, e36, v0, q1', et]
      · refine skip (fun w => g2 w.1.2) fun Q => ?_
        rw [gM_hangs_l11]
        simp only [yjn, yvl, e2, tn', if_true, yrd_n t60, yrd_n e60, e3, g, e4, g2, e4e, if_false, et]
    · refine skip (fun w => g w.1.1) fun Q => ?_
      rw [gM_hangs_l11]
      simp only [yjn, yvl, e2, tn', if_true, yrd_n t60, e3, g, if_false, et]
end HANGS2
