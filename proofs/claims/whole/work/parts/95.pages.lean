section FILL2
variable {X : Nat} {s : zSg} {A : Nat → Nat} {B : Nat → Nat → Nat} {K : Nat → Nat} {ow : Nat → Nat × Nat} {n ln : Nat} {w wh : Int}
/-- from bar b on, the best is known on both sides -/
def FIn (X : Nat) (H : zHp) (sA : zSg) (n ln b k : Nat) : Prop := (∀ e i, b ≤ e → e < n → i < ln → (b < e ∨ i < k) → zct H (X + 8) (4 * e + i) = sA 40 (4 * e + i) ∧ zct H (X + 9) (4 * e + i) = sA 41 (4 * e + i) ∧ (0 ≤ sA 40 (4 * e + i) ∧ sA 40 (4 * e + i) ≤ 11000 * ((n : Int) - e)) ∧ 1 ≤ sA 41 (4 * e + i) ∧ sA 41 (4 * e + i) ≤ (n : Int) - e) ∧ ∀ i, i < 4 → sA 40 (4 * n + i) = 0
theorem line_l (n20 : n ≤ 20) (hw : 5 ≤ w ∧ w ≤ 99) (hl : ln ≤ 4) {b k : Nat} (hk : k < ln) (hb : b < n) :
    ∀ (d f1 f2 e : Nat) (u best : Int) (H : zHp) (sA : zSg), n + 1 - e = d → d < f1 → d < f2 → b < e → e ≤ n + 1 → IV X H s A B K ow → zfs [11] s sA → zct H (X + 4) 0 = (n : Int) → MSd X H sA w n → FIn X H sA n ln b k → (0 ≤ u ∧ u ≤ w) →
    ((best = -1 ∧ e = b + 1 ∧ u = 0 ∧ zct H (X + 9) (4 * b + k) = 0) ∨ ((0 ≤ best ∧ best ≤ 11000 * ((n : Int) - b)) ∧ zct H (X + 8) (4 * b + k) = best ∧ (1 ≤ sA 41 (4 * b + k) ∧ sA 41 (4 * b + k) ≤ (n : Int) - b) ∧ zct H (X + 9) (4 * b + k) = sA 41 (4 * b + k))) →
    ∃ (H' : zHp) (sB : zSg) (best' : Int), fLayout_fillLine_l1 f1 (X + 4) (b : Int) (k : Int) w (ln : Int) ((4 * b + k : Nat) : Int) u (e : Int) H = some ((), H') ∧ (∀ Q, gM_pages_l18 f2 w (ln : Int) wh (n : Int) (b : Int) (k : Int) best u ((e - 1 : Nat) : Int) sA Q = Q w (ln : Int) wh (n : Int) (b : Int) (k : Int) best' sB) ∧ IV X H' s A B K ow ∧ zfs [11] s sB ∧ FrX X H H' ∧
      (∀ q i, ¬ (q = X + 8 ∧ i = 4 * b + k) → ¬ (q = X + 9 ∧ i = 4 * b + k) → zct H' q i = zct H q i) ∧ (∀ r i, ¬ (r = 41 ∧ i = 4 * b + k) → sB r i = sA r i) ∧ (0 ≤ best' ∧ best' ≤ 11000 * ((n : Int) - b)) ∧ zct H' (X + 8) (4 * b + k) = best' ∧ (1 ≤ sB 41 (4 * b + k) ∧ sB 41 (4 * b + k) ≤ (n : Int) - b) ∧ zct H' (X + 9) (4 * b + k) = sB 41 (4 * b + k) := by
  intro d
  induction d with
  | zero =>
    intro f1 f2 e u best H sA h1 h2 h3 h4 h5 I z hc ms fi hu hr
    obtain ⟨f1, rfl⟩ : ∃ f', f1 = f' + 1 := ⟨f1 - 1, by omega⟩
    obtain ⟨f2, rfl⟩ : ∃ f', f2 = f' + 1 := ⟨f2 - 1, by omega⟩
    have F0 := I.1
    rcases hr with hr | ⟨r1, r2, r3, r4⟩
    · omega
    · refine ⟨H, sA, best, ?_, fun Q => ?_, I, z, FrX.rf, fun _ _ _ _ => rfl, fun _ _ _ => rfl, r1, r2, r3, r4⟩
      · rw [fLayout_fillLine_l1]
        simp only [yjn, ygi, ft4 F0, zA4, if_true, hc]
        rw [if_pos (by omega)]
      · rw [gM_pages_l18]
        simp only [yjn]
        rw [if_neg (by omega)]
  | succ d ih =>
    intro f1 f2 e u best H sA h1 h2 h3 h4 h5 I z hc ms fi hu hr
    obtain ⟨f1, rfl⟩ : ∃ f', f1 = f' + 1 := ⟨f1 - 1, by omega⟩
    obtain ⟨f2, rfl⟩ : ∃ f', f2 = f' + 1 := ⟨f2 - 1, by omega⟩
    have F0 := I.1
    obtain ⟨⟨a1, a2, a3⟩, ⟨a4, a5⟩, -⟩ := ms (e - 1) (by omega)
    by_cases g : w < u + sA 37 (e - 1)
    · -- the line is full
      rcases hr with ⟨r1, r2, r3, r4⟩ | ⟨r1, r2, r3, r4⟩
      · omega
      · refine ⟨H, sA, best, ?_, fun Q => ?_, I, z, FrX.rf, fun _ _ _ _ => rfl, fun _ _ _ => rfl, r1, r2, r3, r4⟩
        · have e1 : zsub (e : Int) 1 = ((e - 1 : Nat) : Int) := by rw [zsub_e (by omega) (by omega)]; omega
          have hb1 : 0 ≤ ((e - 1 : Nat) : Int) ∧ ((e - 1 : Nat) : Int) < ((20 : Nat) : Int) := by omega
          have e2 : zadd u (sA 37 (e - 1)) = u + sA 37 (e - 1) := zadd_e (by omega) (by omega)
          rw [fLayout_fillLine_l1]
          simp only [yjn, yvl, ygi, ygr, yai, ft4 F0, zA4, if_true, hc, fp4_1 F0, ft5 F0, fl5 F0, e1, hb1, true_or, true_and, and_self, Int.toNat_natCast, a1, e2]
          rw [if_neg (by omega), if_pos g]
        · have e2 : zadd u (sA 37 (e - 1)) = u + sA 37 (e - 1) := zadd_e (by omega) (by omega)
          rw [gM_pages_l18]
          simp only [yjn, yrd_n (show e - 1 < 20 by omega), e2]
          rw [if_pos (by omega), if_pos g]
    · have pb : pgB k ln < ln := by unfold pgB; split <;> omega
      have cst : e < n → zct H (X + 8) (4 * e + pgB k ln) = sA 40 (4 * e + pgB k ln) ∧ 0 ≤ sA 40 (4 * e + pgB k ln) ∧ sA 40 (4 * e + pgB k ln) ≤ 11000 * ((n : Int) - e) := fun he => by
        obtain ⟨x1, -, x3, -⟩ := fi.1 e (pgB k ln) (by omega) he pb (Or.inl h4)
        exact ⟨x1, x3⟩
      have cz : e = n → sA 40 (4 * e + pgB k ln) = 0 := fun he => by rw [he]; exact fi.2 _ (by omega)
      have cb : 0 ≤ sA 40 (4 * e + pgB k ln) ∧ sA 40 (4 * e + pgB k ln) ≤ 220000 := by
        by_cases c : e < n
        · have := cst c; omega
        · have := cz (by omega); omega
      have sq := sq99 (d := w - (u + sA 37 (e - 1))) (by omega) (by omega)
      have s1 := fl_c (X := X) (H := H) (n := n) (b := b) (k := k) (ln := ln) (e := e) (w := w) (u := u) F0 n20 hc hw hk hl hb h4 (by omega) (by omega) (by rw [a1]; omega) (by
        by_cases c : e < n
        · have := cst c; left; rw [this.1]; omega
        · right; omega) f1
      have s2 := fl_m (sA := sA) (n := n) (b := b) (k := k) (ln := ln) (e := e) (w := w) (u := u) (wh := wh) (best := best) n20 hw hk hl hb h4 (by omega) (by omega) (by omega) cb cz f2
      have hal : lnC w (u + zct H (X + 5) (e - 1)) n k ln e (zct H (X + 7) (e - 1)) (zct H (X + 6) e) (zct H (X + 8) (4 * e + pgB k ln)) = lnC w (u + sA 37 (e - 1)) n k ln e (sA 38 (e - 1)) (sA 39 e) (sA 40 (4 * e + pgB k ln)) := by
        unfold lnC
        by_cases c : e < n
        · rw [if_pos c, if_pos c, a1, a3, (ms e c).1.2.1, (cst c).1]
        · rw [if_neg c, if_neg c]
      have alb : 0 ≤ lnC w (u + sA 37 (e - 1)) n k ln e (sA 38 (e - 1)) (sA 39 e) (sA 40 (4 * e + pgB k ln)) ∧ lnC w (u + sA 37 (e - 1)) n k ln e (sA 38 (e - 1)) (sA 39 e) (sA 40 (4 * e + pgB k ln)) ≤ 11000 * ((n : Int) - b) := by
        unfold lnC
        by_cases c : e < n
        · have := cst c
          rw [if_pos c]
          split <;> omega
        · rw [if_neg c]; omega
      rw [hal, a1] at s1
      generalize lnC w (u + sA 37 (e - 1)) n k ln e (sA 38 (e - 1)) (sA 39 e) (sA 40 (4 * e + pgB k ln)) = al at *
      have cond : (zct H (X + 9) (4 * b + k) = 0 ∨ al ≤ zct H (X + 8) (4 * b + k)) ↔ (best < 0 ∨ al ≤ best) := by
        rcases hr with ⟨r1, r2, r3, r4⟩ | ⟨r1, r2, r3, r4⟩
        · exact ⟨fun _ => Or.inl (by omega), fun _ => Or.inl r4⟩
        · rw [r2, r4]
          omega
      by_cases c : best < 0 ∨ al ≤ best
      · rw [if_pos (cond.mpr c)] at s1
        have s2 := fun Q => (s2 Q).trans (if_pos c)
        obtain ⟨H2, e2⟩ : ∃ H2, H2 = zwr (zwr H (X + 8) (4 * b + k) al) (X + 9) (4 * b + k) ((e - b : Nat) : Int) := ⟨_, rfl⟩
        obtain ⟨sA2, e3⟩ : ∃ sA2, sA2 = zup sA 41 (4 * b + k) ((e - b : Nat) : Int) := ⟨_, rfl⟩
        rw [← e2] at s1
        have s2 : ∀ Q, gM_pages_l18 (f2 + 1) w (ln : Int) wh (n : Int) (b : Int) (k : Int) best u ((e - 1 : Nat) : Int) sA Q = gM_pages_l18 f2 w (ln : Int) wh (n : Int) (b : Int) (k : Int) al (u + sA 37 (e - 1)) ((e : Nat) : Int) sA2 Q := fun Q => by rw [e3]; exact s2 Q
        have I2 : IV X H2 s A B K ow := by rw [e2]; exact (I.w11 (o := 8) (by omega) rfl).w11 (o := 9) (by omega) rfl
        have z2 : zfs [11] s sA2 := by rw [e3]; exact z.up (by omega) rfl
        have fr2 : FrX X H H2 := by rw [e2]; exact (FrX.rf.wr (by omega)).wr (by omega)
        have o2 : ∀ q i, ¬ (q = X + 8 ∧ i = 4 * b + k) → ¬ (q = X + 9 ∧ i = 4 * b + k) → zct H2 q i = zct H q i := fun q i x1 x2 => by rw [e2, zct_wr, if_neg x2, zct_wr, if_neg x1]
        have v8 : zct H2 (X + 8) (4 * b + k) = al := by rw [e2, zct_wr, if_neg (by omega), zct_wr, if_pos ⟨rfl, rfl⟩]
        have v9 : zct H2 (X + 9) (4 * b + k) = ((e - b : Nat) : Int) := by rw [e2, zct_wr, if_pos ⟨rfl, rfl⟩]
        have so : ∀ r i, ¬ (r = 41 ∧ i = 4 * b + k) → sA2 r i = sA r i := fun r i x => by rw [e3]; simp [zup, x]
        have sv : sA2 41 (4 * b + k) = ((e - b : Nat) : Int) := by rw [e3]; simp [zup]
        have ms2 : MSd X H2 sA2 w n := fun j hj => by
          rw [o2 _ _ (by omega) (by omega), o2 _ _ (by omega) (by omega), o2 _ _ (by omega) (by omega), so _ _ (by omega), so _ _ (by omega), so _ _ (by omega)]
          exact ms j hj
        have fi2 : FIn X H2 sA2 n ln b k := by
          refine ⟨fun e' i x1 x2 x3 x4 => ?_, fun i hi => ?_⟩
          · rw [o2 _ _ (by omega) (by omega), o2 _ _ (by omega) (by omega), so _ _ (by omega), so _ _ (by omega)]
            exact fi.1 e' i x1 x2 x3 x4
          · rw [so _ _ (by omega)]; exact fi.2 i hi
        have e37 : sA2 37 (e - 1) = sA 37 (e - 1) := so _ _ (by omega)
        obtain ⟨H3, s3, best', j1, j2, j3, j4, j5, j6, j7, j8⟩ := ih f1 f2 (e + 1) (u + sA 37 (e - 1)) al H2 sA2 (by omega) (by omega) (by omega) (by omega) (by omega) I2 z2 (by rw [o2 _ _ (by omega) (by omega)]; exact hc) ms2 fi2 (by omega) (Or.inr ⟨alb, v8, by rw [sv]; omega, by rw [v9, sv]⟩)
        rw [Nat.add_sub_cancel] at j2
        exact ⟨H3, s3, best', s1.trans j1, fun Q => (s2 Q).trans (j2 Q), j3, j4, fr2.tr j5, fun q i x1 x2 => by rw [j6 q i x1 x2, o2 q i x1 x2], fun r i x => by rw [j7 r i x, so r i x], j8⟩
      · rw [if_neg (fun w => c (cond.mp w))] at s1
        have s2 := fun Q => (s2 Q).trans (if_neg c)
        have hr2 : (0 ≤ best ∧ best ≤ 11000 * ((n : Int) - b)) ∧ zct H (X + 8) (4 * b + k) = best ∧ (1 ≤ sA 41 (4 * b + k) ∧ sA 41 (4 * b + k) ≤ (n : Int) - b) ∧ zct H (X + 9) (4 * b + k) = sA 41 (4 * b + k) := by
          rcases hr with ⟨r1, -⟩ | r
          · omega
          · exact r
        obtain ⟨H3, s3, best', j1, j2, j3⟩ := ih f1 f2 (e + 1) (u + sA 37 (e - 1)) best H sA (by omega) (by omega) (by omega) (by omega) (by omega) I z hc ms fi (by omega) (Or.inr hr2)
        rw [Nat.add_sub_cancel] at j2
        exact ⟨H3, s3, best', s1.trans j1, fun Q => (s2 Q).trans (j2 Q), j3⟩
end FILL2
