/-! ACTS -/
def btL : List Int := [10, 11, 12, 20, 0, 0, 0, 30, 0, 0, 0, 40, 50, 0, 0, 61, 60, 0, 0, 0, 70, 0, 80, 0]
def kaL : List Int := [0, 0, 1, 0, 0, 2, 1, 0]
def bt (k a : Int) : Int := btL.getD (3 * k + a).toNat 0
def ka (k : Int) : Int := kaL.getD k.toNat 0
def rso : Nat → Int → Int → Int
  | 0, o, _ => o
  | n + 1, o, a => if 0 < o ∧ bt o a = 0 then rso n (ka o) a else o
def zbO (a k : Int) : Int := bt (rso 4 k a) a
def zaO (a k : Int) : Int := ka (rso 4 k a)
/-- the class's fixed row of the bodies -/
def BK (X : Nat) (H : zHp) (E : Nat → Nat) : Prop := (E 14 < X ∧ E 14 ≤ znx H) ∧ (ztg H (E 14) = 40 ∧ zln H (E 14) = 24) ∧ ∀ i, i < 24 → zct H (E 14) i = btL.getD i 0
def LR (X : Nat) (H0 H : zHp) (s0 s : zSg) (c : Nat) : Prop := zst H0 H ∧ znx H = znx H0 ∧ zus H = zus H0 ∧ (∀ q k, ¬ (q = X ∧ k = 19) → q ≠ X + 36 → zct H q k = zct H0 q k) ∧ (∀ r j, r ≠ 77 → ¬ (r = 0 ∧ j = 76) → s r j = s0 r j) ∧ zct H X 19 = (c : Int) ∧ s 0 76 = (c : Int) ∧ c ≤ 100 ∧ ∀ i, i < 20 → i < c → zct H (X + 36) i = s 77 i
section ACT
variable {X : Nat} {H0 : zHp} {s0 : zSg} {E : Nat → Nat} {t a : Nat} {k : Int}
theorem EK.lr (h : EK X H0 E) {H : zHp} {s : zSg} {c : Nat} (L : LR X H0 H s0 s c) : EK X H E := by
  obtain ⟨⟨a1, a2⟩, ⟨b1, b2⟩, c0, c1, c2, c3, c4, c5, c6, c7⟩ := h
  obtain ⟨l1, l2, l3, l4, -⟩ := L
  have e := l1.2.2 _ a2
  refine ⟨⟨a1, by omega⟩, ⟨by rw [e.1]; exact b1, by rw [e.2]; exact b2⟩, ?_, ?_, ?_, ?_, ?_, ?_, ?_, ?_⟩
  all_goals
    rw [l4 _ _ (by omega) (by omega)]
    assumption
theorem BK.lr (h : BK X H0 E) {H : zHp} {s : zSg} {c : Nat} (L : LR X H0 H s0 s c) : BK X H E := by
  obtain ⟨⟨a1, a2⟩, ⟨b1, b2⟩, c0⟩ := h
  obtain ⟨l1, l2, l3, l4, -⟩ := L
  have e := l1.2.2 _ a2
  exact ⟨⟨a1, by omega⟩, ⟨by rw [e.1]; exact b1, by rw [e.2]; exact b2⟩, fun i hi => by rw [l4 _ _ (by omega) (by omega)]; exact c0 i hi⟩
theorem e_own {H : zHp} (h : BK X H E) {o w : Int} (ho : 0 ≤ o ∧ o ≤ 7) (hw : 0 ≤ w ∧ w ≤ 2) : fH_ownBody E o w H = some (bt o w, H) := by
  obtain ⟨-, ⟨b1, b2⟩, c0⟩ := h
  have e : zadd (zmul o 3) w = ((3 * o + w).toNat : Int) := by rw [zmul_e (by omega) (by omega), zadd_e (by omega) (by omega)]; omega
  unfold fH_ownBody
  simp only [yvl, yln, yai, e, b1, b2, Int.toNat_natCast, or_true, true_and]
  rw [if_neg (by omega), if_pos (by omega), if_pos (by omega), if_pos (by omega), c0 _ (by omega)]
  rfl
theorem e_above {H : zHp} (h : EK X H E) {o : Int} (ho : 0 ≤ o ∧ o ≤ 7) : fH_kindAbove E o H = some (ka o, H) := by
  obtain ⟨-, ⟨b1, b2⟩, c0, c1, c2, c3, c4, c5, c6, c7⟩ := h
  unfold fH_kindAbove
  simp only [e_within, ybd_s, i01, yai, b1, b2, or_true, true_and]
  by_cases h0 : o = 0
  · rw [if_pos (by omega), h0]; rfl
  · rw [if_neg (by omega), if_pos (by omega)]
    rcases (show o = 1 ∨ o = 2 ∨ o = 3 ∨ o = 4 ∨ o = 5 ∨ o = 6 ∨ o = 7 by omega) with rfl | rfl | rfl | rfl | rfl | rfl | rfl
    · exact congrArg (fun v => some (v, H)) c1
    · exact congrArg (fun v => some (v, H)) c2
    · exact congrArg (fun v => some (v, H)) c3
    · exact congrArg (fun v => some (v, H)) c4
    · exact congrArg (fun v => some (v, H)) c5
    · exact congrArg (fun v => some (v, H)) c6
    · exact congrArg (fun v => some (v, H)) c7
theorem ka_b {o : Int} (ho : 0 ≤ o ∧ o ≤ 7) : 0 ≤ ka o ∧ ka o ≤ 7 := by
  rcases (show o = 0 ∨ o = 1 ∨ o = 2 ∨ o = 3 ∨ o = 4 ∨ o = 5 ∨ o = 6 ∨ o = 7 by omega) with rfl | rfl | rfl | rfl | rfl | rfl | rfl | rfl <;> decide
theorem e_res {H : zHp} (h : EK X H E) (hb : BK X H E) {F : Nat → Nat → Int → Int → Int → Int → zHp → Option (Int × zHp)} {p q : Nat} {w x d : Int} (hw : 0 ≤ w ∧ w ≤ 2) {Q : Nat → Nat → Int → Int → Int → Int → zHp → Option (Int × zHp)} : ∀ (n f : Nat) (o st : Int), n < f → 0 ≤ st → st + n ≤ 7 → 0 ≤ o ∧ o ≤ 7 → ¬ (0 < rso n o w ∧ bt (rso n o w) w = 0) → fH_runBody_l2 E F f p q w x d o st H Q = Q p q w x d (rso n o w) H ∧ 0 ≤ rso n o w ∧ rso n o w ≤ 7 := by
  intro n
  induction n with
  | zero =>
    intro f o st h1 h2 h3 h4 h5
    obtain ⟨f, rfl⟩ : ∃ f', f = f' + 1 := ⟨f - 1, by omega⟩
    refine ⟨?_, h4⟩
    have h5' : ¬ (0 < o ∧ bt o w = 0) := h5
    rw [fH_runBody_l2, if_neg (by omega)]
    by_cases g : 0 < o
    · simp only [e_own hb h4 hw, ybd_s]
      rw [if_pos g, if_neg (fun w => h5' ⟨g, w⟩)]
      rfl
    · rw [if_neg g]; rfl
  | succ n ih =>
    intro f o st h1 h2 h3 h4 h5
    obtain ⟨f, rfl⟩ : ∃ f', f = f' + 1 := ⟨f - 1, by omega⟩
    rw [fH_runBody_l2, if_neg (by omega)]
    by_cases g : 0 < o ∧ bt o w = 0
    · have er : rso (n + 1) o w = rso n (ka o) w := if_pos g
      rw [er] at h5 ⊢
      have e : zadd st 1 = st + 1 := zadd_e (by omega) (by omega)
      simp only [e_own hb h4 hw, e_above h h4, ybd_s, yvl, e]
      rw [if_pos g.1, if_pos g.2]
      exact ih f (ka o) (st + 1) (by omega) (by omega) (by omega) (ka_b h4) h5
    · have er : rso (n + 1) o w = o := if_neg g
      rw [er]
      refine ⟨?_, h4⟩
      by_cases g1 : 0 < o
      · simp only [e_own hb h4 hw, ybd_s]
        rw [if_pos g1, if_neg (fun w => g ⟨g1, w⟩)]
      · rw [if_neg g1]
theorem rso_end : ∀ k : Fin 8, ∀ w : Fin 3, ¬ (0 < rso 4 ((k.val : Nat) : Int) ((w.val : Nat) : Int) ∧ bt (rso 4 ((k.val : Nat) : Int) ((w.val : Nat) : Int)) ((w.val : Nat) : Int) = 0) := by decide
theorem e_run (Fx : IFx X H0) (ek : EK X H0 E) (bk : BK X H0 E) {H : zHp} {s : zSg} {c : Nat} (L : LR X H0 H s0 s c) (hc : c + 1 ≤ 100) {w k : Int} (hw : 0 ≤ w ∧ w ≤ 2) (hk : 0 ≤ k ∧ k ≤ 7) : ∃ H' s', (∀ (f q : Nat) (x d : Int), 0 ≤ d → d ≤ 30 → fH_runBody E (f + 1) X q w k x d H = ybd (fH_answerOf E (fH_runBody E f) X (zbO w k) q (zaO w k) x (d + 1) H') fun v s => some (v, s)) ∧ gM_ran (zbO w k) s = some ((), s') ∧ LR X H0 H' s0 s' (c + 1) := by
  have ek' := ek.lr L
  have bk' := bk.lr L
  obtain ⟨l1, l2, l3, l4, l5, l6, l7, l8, l9⟩ := L
  have hX := Fx.2.1.1
  have en := rso_end ⟨k.toNat, by omega⟩ ⟨w.toNat, by omega⟩
  dsimp only at en
  rw [Int.toNat_of_nonneg hk.1, Int.toNat_of_nonneg hw.1] at en
  have tX : ztg H X = 11 := by rw [(l1.2.2 _ (by omega)).1]; exact ft0 Fx
  have t36 : ztg H (X + 36) = 30 := by rw [(l1.2.2 _ (by omega)).1]; exact ft36 Fx
  have n36 : zln H (X + 36) = 20 := by rw [(l1.2.2 _ (by omega)).2]; exact fl36 Fx
  have p18 : (zct H X 18).toNat = X + 36 := by rw [l4 _ _ (by omega) (by omega)]; exact fp0_18 Fx
  have ec : zadd (c : Int) 1 = ((c + 1 : Nat) : Int) := by rw [zadd_e (by omega) (by omega)]; omega
  obtain ⟨HT, hT⟩ : ∃ HT, HT = if c < 20 then zwr H (X + 36) c (zbO w k) else H := ⟨_, rfl⟩
  have sT : zst H HT := by
    rw [hT]; split
    · exact zst.rf.wr _ _ _
    · exact zst.rf
  have oT : ∀ q i, q ≠ X + 36 → zct HT q i = zct H q i := fun q i hq => by
    rw [hT]; split
    · rw [zct_wr, if_neg (fun w => hq w.1)]
    · rfl
  have r36 : ∀ i, zct HT (X + 36) i = if i = c ∧ c < 20 then zbO w k else zct H (X + 36) i := fun i => by
    rw [hT]
    by_cases g : c < 20
    · rw [if_pos g, zct_wr]
      by_cases e : i = c
      · rw [if_pos ⟨rfl, e⟩, if_pos ⟨e, g⟩]
      · rw [if_neg (fun w => e w.2), if_neg (fun w => e w.1)]
    · rw [if_neg g, if_neg (fun w => g w.2)]
  have xT : znx HT = znx H := by rw [hT]; split <;> rfl
  have uT : zus HT = zus H := by rw [hT]; split <;> rfl
  have ob : zct (zwr HT X 19 ((c + 1 : Nat) : Int)) X 19 = ((c + 1 : Nat) : Int) := by rw [zct_wr, if_pos ⟨rfl, rfl⟩]
  have oo : ∀ q i, ¬ (q = X ∧ i = 19) → zct (zwr HT X 19 ((c + 1 : Nat) : Int)) q i = zct HT q i := fun q i hq => by rw [zct_wr, if_neg hq]
  have L2 : ∀ s', (∀ r j, r ≠ 77 → ¬ (r = 0 ∧ j = 76) → s' r j = s r j) → s' 0 76 = ((c + 1 : Nat) : Int) → (∀ i, i < 20 → i < c + 1 → s' 77 i = if i = c then zbO w k else s 77 i) → LR X H0 (zwr HT X 19 ((c + 1 : Nat) : Int)) s0 s' (c + 1) := fun s' h1 h2 h3 => by
    refine ⟨(l1.tr sT).wr _ _ _, by show znx HT = _; omega, by show zus HT = _; omega, fun q i a1 a2 => ?_, fun r j a1 a2 => ?_, ob, h2, by omega, fun i a1 a2 => ?_⟩
    · rw [oo q i a1, oT q i a2]; exact l4 q i a1 a2
    · rw [h1 r j a1 a2]; exact l5 r j a1 a2
    · rw [oo _ _ (by omega), r36, h3 i a1 a2]
      by_cases e : i = c
      · rw [if_pos ⟨e, by omega⟩, if_pos e]
      · rw [if_neg (fun w => e w.1), if_neg e]
        exact l9 i a1 (by omega)
  have ek2 : EK X (zwr HT X 19 ((c + 1 : Nat) : Int)) E := by
    refine ek.lr (L2 (zup (zup s 77 c (zbO w k)) 0 76 ((c + 1 : Nat) : Int)) (fun r j a1 a2 => by simp [zup, a1, a2]) (by simp [zup]) (fun i a1 a2 => ?_))
    rw [zup_o (by omega), zup_r]
  have run : ∀ (f q : Nat) (x d : Int), 0 ≤ d → d ≤ 30 → fH_runBody E (f + 1) X q w k x d H = ybd (fH_answerOf E (fH_runBody E f) X (zbO w k) q (zaO w k) x (d + 1) (zwr HT X 19 ((c + 1 : Nat) : Int))) fun v s => some (v, s) := fun f q x d d0 d1 => by
    have ed : zadd d 1 = d + 1 := zadd_e (by omega) (by omega)
    have rs := e_res ek' bk' (F := fH_runBody E f) (p := X) (q := q) (w := w) (x := x) (d := d) hw (Q := fun (x15 : Nat) (x16 : Nat) (x17 : Int) (x18 : Int) (x19 : Int) (x20 : Int) (s21 : zHp) =>
      yjn (fun (x22 : Nat) (x23 : Nat) (x24 : Int) (x25 : Int) (x26 : Int) (x27 : Int) (s28 : zHp) =>
      ygi 10 19 x22 s28 fun v30 =>
      ypi 10 19 x22 (zadd v30 1) s28 fun s31 =>
      ybd (fH_kindAbove E x26 s31) fun v32 s33 =>
      yck 10 x22 s33 <| ybd (fH_answerOf E (fH_runBody E f) x22 x27 x23 v32 x24 (zadd x25 1) s33) fun v34 s35 =>
      some (v34, s35)) fun q29 =>
      ybd (fH_ownBody E x20 x17 s21) fun v36 s37 =>
     ygi 10 19 x15 s37 fun v38 =>
     if v38 < 20 then
       (ygr 10 18 x15 s37 fun p39 =>
       ygi 10 19 x15 s37 fun v40 =>
       ysi p39 v40 v36 s37 fun s41 =>
       q29 x15 x16 x18 x19 x20 v36 s41)
     else
       (q29 x15 x16 x18 x19 x20 v36 s37)) 4 zFU k 0 (by rw [zFU_e]; omega) (by omega) (by omega) hk en
    have rb := rs.2
    show fH_runBody_b E (fH_runBody E f) X q w k x d H = _
    unfold fH_runBody_b
    rw [if_neg (by omega)]
    refine rs.1.trans ?_
    have tT : ztg HT X = 11 := by rw [(sT.2.2 _ (by have := l1.1; omega)).1]; exact tX
    have cT : zct HT X 19 = (c : Int) := by rw [oT _ _ (by omega)]; exact l6
    simp only [yjn, e_own bk' rb hw, ybd_s, ygi, ygr, ypi, ysi, tX, zA10, if_true, l6, p18, t36, n36, ed]
    by_cases g : c < 20
    · have hT' : zwr H (X + 36) c (zbO w k) = HT := by rw [hT, if_pos g]
      have gb : 0 ≤ (c : Int) ∧ (c : Int) < ((20 : Nat) : Int) := by omega
      have zz : bt (rso 4 k w) w = zbO w k := rfl
      simp only [show (c : Int) < 20 by omega, if_true, gb, and_self, Int.toNat_natCast, zz, hT', tT, zA10, cT, ec, e_above ek2 rb, ybd_s, yck, ztg_wr]
      rfl
    · have hT' : H = HT := by rw [hT, if_neg g]
      have zz : bt (rso 4 k w) w = zbO w k := rfl
      rw [if_neg (by omega)]
      rw [← hT'] at ek2 ⊢
      simp only [zz, ec, e_above ek2 rb, ybd_s, yck, ztg_wr, tX, zA10, if_true]
      rfl
  by_cases g : c < 20
  · refine ⟨_, zup (zup s 77 c (zbO w k)) 0 76 ((c + 1 : Nat) : Int), run, ?_, L2 _ (fun r j a1 a2 => by simp [zup, a1, a2]) (by simp [zup]) (fun i a1 a2 => by rw [zup_o (by omega), zup_r])⟩
    have z76 : zup s 77 c (zbO w k) 0 76 = (c : Int) := l7
    unfold gM_ran
    simp only [yjn, yvl, l7, ywi_n g, z76, ec]
    rw [if_pos (by omega)]
  · refine ⟨_, zup s 0 76 ((c + 1 : Nat) : Int), run, ?_, L2 _ (fun r j a1 a2 => by simp [zup, a2]) (by simp [zup]) (fun i a1 a2 => by rw [zup_o (by omega), if_neg (by omega)])⟩
    unfold gM_ran
    simp only [yjn, yvl, l7, ec]
    rw [if_neg (by omega)]
end ACT
