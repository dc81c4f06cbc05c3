/-! contract -/
theorem e_copyOf {H : zHp} {p n L : Nat} (ht : ztg H p = 30) (hl : zln H p = L) (hn : n ≤ L) (hL : L ≤ 1000) (hp : p ≤ znx H) : ∃ H2, fJArrays_copyOf p (n : Int) H = some (znx H + 1, H2) ∧ (znx H2 = znx H + 1 ∧ zus H2 = zus H + n) ∧ (ztg H2 (znx H + 1) = 30 ∧ zln H2 (znx H + 1) = n ∧ ∀ k, k < n → zct H2 (znx H + 1) k = zct H p k) ∧ ∀ q, q ≠ znx H + 1 → ztg H2 q = ztg H q ∧ zln H2 q = zln H q ∧ ∀ k, zct H2 q k = zct H q k := by
  have t : 30 ≤ ztg H p ∧ ztg H p ≤ 41 := by omega
  by_cases g : n = L
  · refine ⟨zal H 30 n (fun k => zct H p k), ?_, ⟨rfl, rfl⟩, ⟨by rw [ztg_al, if_pos rfl], by rw [zln_al, if_pos rfl], fun k hk => by rw [zct_al, if_pos rfl]⟩, fun q hq => ⟨by rw [ztg_al, if_neg hq], by rw [zln_al, if_neg hq], fun k => by rw [zct_al, if_neg hq]⟩⟩
    have e : ((n : Int) = (L : Int)) = True := eq_true (by omega)
    have t2 : ((30 : Nat) ≤ 30 ∧ (30 : Nat) ≤ 41) = True := eq_true (by omega)
    unfold fJArrays_copyOf
    simp only [yln, t2, if_true, hl, e, ycl, yca, ht, ztg_al]
    rw [← g]
  · have hq0 : ¬ p = znx H + 1 := by omega
    have zm : zmin (L : Int) (n : Int) = (n : Int) := if_pos (by omega)
    refine ⟨zcp (zal H 30 n (fun _ => 0)) p 0 (znx H + 1) 0 n, ?_, ⟨rfl, rfl⟩, ⟨?_, ?_, fun k hk => ?_⟩, fun q hq => ⟨?_, ?_, fun k => ?_⟩⟩
    · unfold fJArrays_copyOf
      have e : ((n : Int) = (L : Int)) = False := eq_false (by omega)
      have b : (0 ≤ (n : Int) ∧ (n : Int) ≤ 100000) = True := eq_true (by omega)
      have b2 : (0 + (n : Int) ≤ (L : Int)) = True := eq_true (by omega)
      have b3 : (0 + (n : Int) ≤ (n : Int)) = True := eq_true (by omega)
      have b4 : (0 ≤ (n : Int)) = True := eq_true (by omega)
      have b5 : ((n : Int) ≤ 100000) = True := eq_true (by omega)
      have t2 : ((30 : Nat) ≤ 30 ∧ (30 : Nat) ≤ 41) = True := eq_true (by omega)
      simp only [yln, t2, and_self, if_true, hl, e, if_false, yna, b5, Int.toNat_natCast, ztg_al, zln_al, hq0, zm, ycp, ht, b2, b3, b4, Int.le_refl, true_and, Int.toNat_zero]
    · show ztg (zal H 30 n (fun _ => 0)) (znx H + 1) = 30
      rw [ztg_al, if_pos rfl]
    · show zln (zal H 30 n (fun _ => 0)) (znx H + 1) = n
      rw [zln_al, if_pos rfl]
    · rw [zct_cp, if_pos ⟨rfl, by omega, by omega⟩, zct_al, if_neg hq0, show 0 + (k - 0) = k by omega]
    · show ztg (zal H 30 n (fun _ => 0)) q = ztg H q
      rw [ztg_al, if_neg hq]
    · show zln (zal H 30 n (fun _ => 0)) q = zln H q
      rw [zln_al, if_neg hq]
    · rw [zct_cp, if_neg (fun w => hq w.1), zct_al, if_neg hq]
/-- the words' cells lie ahead of the class -/
def EW (X : Nat) (H : zHp) (E : Nat → Nat) : Prop := ∀ i, i < 12 → SA H (E i) (wds.getD i []) ∧ E i < X ∧ (zct H (E i) 0).toNat < X
theorem SA.same {H H' : zHp} {a : Nat} {l : List Nat} (h : SA H a l) (e : ∀ q, q = a ∨ q = (zct H a 0).toNat → ztg H' q = ztg H q ∧ zln H' q = zln H q ∧ ∀ k, zct H' q k = zct H q k) : SA H' a l := by
  obtain ⟨g1, g2, g3, g4, g5⟩ := h
  obtain ⟨a1, a2, a3⟩ := e a (Or.inl rfl)
  obtain ⟨b1, b2, b3⟩ := e (zct H a 0).toNat (Or.inr rfl)
  unfold SA
  rw [a1, a3, b1, b2]
  exact ⟨g1, g2, g3, g4, fun k hk => by rw [b3]; exact g5 k hk⟩
theorem SCL.zfs {c i l : Nat} {s s' : zSg} (h : SCL c i l s s') : zfs [3, 4, 11] s s' := fun k j hg => by
  have no : ∀ g, [3, 4, 11].contains g = true → rg k j ≠ g := fun g hg' e => by rw [e, hg'] at hg; cases hg
  refine h k j (fun w => ?_) (fun w => ?_) (fun w => ?_) (fun w => ?_)
  · obtain ⟨rfl, w⟩ := w
    rcases w with rfl | rfl | rfl | rfl <;> exact no 11 rfl rfl
  · rcases w.1 with rfl | rfl <;> exact no 4 rfl rfl
  · rcases w.1 with rfl | rfl | rfl <;> exact no 4 rfl rfl
  · obtain ⟨⟨w1, w2⟩, -⟩ := w
    rcases (show k = 50 ∨ k = 51 ∨ k = 52 ∨ k = 53 ∨ k = 54 by omega) with rfl | rfl | rfl | rfl | rfl <;> exact no 4 rfl rfl
section CONTRACT
variable {X : Nat} {H : zHp} {s : zSg} {A : Nat → Nat} {B : Nat → Nat → Nat} {K : Nat → Nat} {ow : Nat → Nat × Nat} {E : Nat → Nat}
theorem IV.g3 (I : IV X H s A B K ow) : zct H X 10 = s 0 43 ∧ 0 ≤ s 0 43 ∧ s 0 43 ≤ 120 ∧ ∀ k : Nat, (k : Int) < s 0 43 → zct H (X + 10) k = s 42 k % 256 ∧ -128 ≤ s 42 k ∧ s 42 k < 128 := I.2.1.2.2.1
theorem e_conInit {H2 : zHp} {a p : Nat} (ha : 0 < a) (tg : ztg H2 a = 2) (a1 a2 : Int) : ∃ H3, fContract_init a a1 a2 p H2 = some ((), H3) ∧ (znx H3 = znx H2 ∧ zus H3 = zus H2) ∧ (∀ q, ztg H3 q = ztg H2 q ∧ zln H3 q = zln H2 q) ∧ (∀ q k, q ≠ a → zct H3 q k = zct H2 q k) ∧
    zct H3 a 0 = a1 ∧ zct H3 a 1 = a2 ∧ zct H3 a 2 = (p : Int) ∧ zct H3 a 5 = 10 ∧ zct H3 a 6 = 0 ∧ zct H3 a 8 = 0 := by
  refine ⟨zwr (zwr (zwr (zwr (zwr (zwr (zwr (zwr (zwr (zwr (zwr (zwr (zwr H2 a 3 0) a 4 0) a 5 10) a 6 0) a 7 0) a 8 0) a 9 0) a 10 0) a 11 0) a 12 0) a 0 a1) a 1 a2) a 2 (p : Int), ?_, ?_, fun q => ?_, fun q k hq => ?_, ?_⟩
  · unfold fContract_init
    simp only [yn0, ha, if_true, ypi, ypz, ypr, ztg_wr, tg, zA1, true_or, and_self]
  · simp only [znx_wr, zus_wr, and_self]
  · simp only [ztg_wr, zln_wr, and_self]
  · simp only [zct_wr, hq, false_and, if_false]
  · refine ⟨?_, ?_, ?_, ?_, ?_, ?_⟩ <;> simp [zct_wr]
/-- the class's new contract, ahead of the reading -/
theorem e_newcon (I : IV X H s A B K ow) (a1 a2 : Int) {n : Nat} (hn : s 0 43 = (n : Int)) : ∃ H2 H3, fJArrays_copyOf (X + 10) (n : Int) (zal H 2 13 (fun _ => 0)) = some (znx H + 2, H2) ∧ fContract_init (znx H + 1) a1 a2 (znx H + 2) H2 = some ((), H3) ∧
    (ztg H3 X = 11 ∧ ztg H2 X = 11) ∧ (znx (zwr H3 X 10 0) = znx H + 2 ∧ zus (zwr H3 X 10 0) = zus H + 13 + n) ∧ (∀ q, q ≤ znx H → ztg (zwr H3 X 10 0) q = ztg H q ∧ zln (zwr H3 X 10 0) q = zln H q ∧ ∀ k, ¬ (q = X ∧ k = 10) → zct (zwr H3 X 10 0) q k = zct H q k) ∧
    (ztg (zwr H3 X 10 0) (znx H + 1) = 2 ∧ zct (zwr H3 X 10 0) (znx H + 1) 0 = a1 ∧ zct (zwr H3 X 10 0) (znx H + 1) 1 = a2 ∧ zct (zwr H3 X 10 0) (znx H + 1) 2 = ((znx H + 2 : Nat) : Int) ∧ zct (zwr H3 X 10 0) (znx H + 1) 5 = 10 ∧ zct (zwr H3 X 10 0) (znx H + 1) 6 = 0 ∧ zct (zwr H3 X 10 0) (znx H + 1) 8 = 0) ∧
    (ztg (zwr H3 X 10 0) (znx H + 2) = 30 ∧ zln (zwr H3 X 10 0) (znx H + 2) = n ∧ ∀ k, k < n → zct (zwr H3 X 10 0) (znx H + 2) k = zct H (X + 10) k) ∧ zct (zwr H3 X 10 0) X 10 = 0 := by
  have F := I.1
  have hX := F.2.1.1
  have g3 := I.g3
  have hq : ¬ X + 10 = znx H + 1 := by omega
  have hq2 : ¬ X = znx H + 1 := by omega
  have hq3 : ¬ X = znx H + 2 := by omega
  obtain ⟨H1, eH1⟩ : ∃ H1, H1 = zal H 2 13 (fun _ => 0) := ⟨_, rfl⟩
  have n1 : znx H1 = znx H + 1 := by rw [eH1]; rfl
  have u1 : zus H1 = zus H + 13 := by rw [eH1]; rfl
  have t1 : ∀ q, ztg H1 q = if q = znx H + 1 then 2 else ztg H q := fun q => by rw [eH1, ztg_al]
  have l1 : ∀ q, q ≠ znx H + 1 → zln H1 q = zln H q := fun q hq => by rw [eH1, zln_al, if_neg hq]
  have c1 : ∀ q k, q ≠ znx H + 1 → zct H1 q k = zct H q k := fun q k hq => by rw [eH1, zct_al, if_neg hq]
  obtain ⟨H2, e1, ⟨e2, e3⟩, ⟨e4, e5, e6⟩, e7⟩ := e_copyOf (H := H1) (p := X + 10) (n := n) (L := 120) (by rw [t1, if_neg hq]; exact ft10 F) (by rw [l1 _ hq]; exact fl10 F) (by omega) (by omega) (by omega)
  rw [n1] at e1 e2 e4 e5 e6 e7
  have tg : ztg H2 (znx H + 1) = 2 := by rw [(e7 _ (by omega)).1, t1, if_pos rfl]
  obtain ⟨H3, hin, x3, s3, o3, v3⟩ := e_conInit (H2 := H2) (a := znx H + 1) (p := znx H + 2) (by omega) tg a1 a2
  obtain ⟨H4, eH4⟩ : ∃ H4, H4 = zwr H3 X 10 0 := ⟨_, rfl⟩
  have o4 : ∀ q k, ¬ (q = X ∧ k = 10) → zct H4 q k = zct H3 q k := fun q k h => by rw [eH4, zct_wr, if_neg h]
  have s4 : ∀ q, ztg H4 q = ztg H3 q ∧ zln H4 q = zln H3 q := fun q => by rw [eH4]; exact ⟨rfl, rfl⟩
  have x4 : znx H4 = znx H3 ∧ zus H4 = zus H3 := by rw [eH4]; exact ⟨rfl, rfl⟩
  have v4 : zct H4 X 10 = 0 := by rw [eH4, zct_wr, if_pos ⟨rfl, rfl⟩]
  have tX : ztg H2 X = 11 := by rw [(e7 X (by omega)).1, t1, if_neg hq2]; exact ft0 F
  refine ⟨H2, H3, by rw [← eH1]; exact e1, hin, ⟨by rw [(s3 X).1]; exact tX, tX⟩, ?_⟩
  rw [← eH4]
  clear eH4
  refine ⟨⟨by omega, by omega⟩, fun q hq => ?_, ⟨?_, ?_, ?_, ?_, ?_, ?_, ?_⟩, ⟨?_, ?_, fun k hk => ?_⟩, v4⟩
  · obtain ⟨p1, p2, p3⟩ := e7 q (by omega)
    refine ⟨?_, ?_, fun k hk => ?_⟩
    · rw [(s4 q).1, (s3 q).1, p1, t1, if_neg (by omega)]
    · rw [(s4 q).2, (s3 q).2, p2, l1 q (by omega)]
    · rw [o4 q k hk, o3 q k (by omega), p3, c1 q k (by omega)]
  · rw [(s4 _).1, (s3 _).1]; exact tg
  · rw [o4 _ _ (by omega)]; exact v3.1
  · rw [o4 _ _ (by omega)]; exact v3.2.1
  · rw [o4 _ _ (by omega)]; exact v3.2.2.1
  · rw [o4 _ _ (by omega)]; exact v3.2.2.2.1
  · rw [o4 _ _ (by omega)]; exact v3.2.2.2.2.1
  · rw [o4 _ _ (by omega)]; exact v3.2.2.2.2.2
  · rw [(s4 _).1, (s3 _).1]; exact e4
  · rw [(s4 _).2, (s3 _).2]; exact e5
  · rw [o4 _ _ (by omega), o3 _ _ (by omega), e6 k hk, c1 _ _ hq]
end CONTRACT
