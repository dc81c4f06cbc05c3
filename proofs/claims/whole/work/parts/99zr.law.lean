/-! THE LAW: a call of both, and the heap behind it -/
theorem rg_99a : ∀ j : Fin 82, zrk j.val ≠ 0 → rg0.getD j.val 99 = 99 := by decide
theorem rg_99b : ∀ k : Fin 82, k.val ≠ 0 → zrk k.val = 0 → rgs.getD k.val 99 = 99 := by decide
theorem zrks_l : zrks.length = 82 := by decide
theorem rg0_l : rg0.length = 82 := by decide
theorem rgs_l : rgs.length = 81 ∨ rgs.length = 82 := by decide
theorem zrk_out {k : Nat} (h : 82 ≤ k) : zrk k = 0 := by
  unfold zrk
  rw [List.getD_eq_getElem?_getD, List.getElem?_eq_none (by rw [zrks_l]; exact h)]
  rfl
theorem zrn_k : ∀ k : Fin 82, zrk k.val ≠ 0 → zrn (zrk k.val) = k.val ∧ zrk k.val ≤ 62 := by decide
/-- what the reference has written, read again -/
theorem zrd_ov {R : Nat} {H : zHp} {s : zSg} : zfs [99] s (zrd R (zov R H s)) := fun k j hg => by
  unfold zrd
  by_cases k0 : k = 0
  · rw [if_pos k0, k0]
    show (if R = R then (if zrk j = 0 then s 0 j else zct H R j) else _) = s 0 j
    rw [if_pos rfl]
    by_cases hz : zrk j = 0
    · rw [if_pos hz]
    · have hj : j < 82 := by
        by_cases g : j < 82
        · exact g
        · exact absurd (zrk_out (by omega)) hz
      have := rg_99a ⟨j, hj⟩ hz
      rw [k0] at hg
      unfold rg at hg
      rw [if_pos rfl, show rg0.getD j 99 = 99 from this] at hg
      exact absurd hg (by decide)
  · rw [if_neg k0]
    by_cases hz : zrk k = 0
    · by_cases hk : k < 82
      · have := rg_99b ⟨k, hk⟩ k0 hz
        unfold rg at hg
        rw [if_neg k0, show rgs.getD k 99 = 99 from this] at hg
        exact absurd hg (by decide)
      · unfold rg at hg
        rw [if_neg k0, List.getD_eq_getElem?_getD, List.getElem?_eq_none (by have := rgs_l; omega)] at hg
        exact absurd hg (by decide)
    · have hk : k < 82 := by
        by_cases g : k < 82
        · exact g
        · exact absurd (zrk_out (by omega)) hz
      obtain ⟨n1, n2⟩ := zrn_k ⟨k, hk⟩ hz
      dsimp only at n1 n2
      show (if zra R k = R then (if zrk j = 0 then s 0 j else zct H (zra R k) j) else if R < zra R k ∧ zra R k ≤ R + 62 then s (zrn (zra R k - R)) j else zct H (zra R k) j) = s k j
      unfold zra
      rw [if_neg (by omega), if_pos (by omega), show R + zrk k - R = zrk k by omega, n1]
/-- between two calls -/
def LI (X : Nat) (H : zHp) (E : Nat → Nat) (a0 N : Nat) : Prop := (∃ A B K ow, IV X H (zrd (X + 37) H) A B K ow) ∧ zRg (X + 37) H ∧ EK X H E ∧ BK X H E ∧ EW X H E ∧ (a0 < X ∧ ztg H a0 = 40 ∧ zln H a0 = N) ∧ ∀ k, k < N → zR32 (zct H a0 k)
theorem zct_ov {R : Nat} {H : zHp} {s : zSg} {a k : Nat} (h : a < R ∨ R + 62 < a) : zct (zov R H s) a k = zct H a k := by
  show (if a = R then (if zrk k = 0 then s 0 k else H.2.2.1 a k) else if R < a ∧ a ≤ R + 62 then s (zrn (a - R)) k else H.2.2.1 a k) = H.2.2.1 a k
  rw [if_neg (by omega), if_neg (by omega)]
theorem zRg_ov {R : Nat} {H : zHp} {s : zSg} (h : zRg R H) : zRg R (zov R H s) := by
  obtain ⟨h1, h2, h3⟩ := h
  refine ⟨h1, h2, fun k hk => ?_⟩
  obtain ⟨g1, g2, g3⟩ := h3 k hk
  refine ⟨?_, g2, g3⟩
  have hz : ¬ zrk k = 0 := fun e => by rw [e] at hk; exact absurd hk (by decide)
  rw [← g1]
  show (if R = R then (if zrk k = 0 then s 0 k else H.2.2.1 R k) else _) = H.2.2.1 R k
  rw [if_pos rfl, if_neg hz]
theorem law_step {X a0 N : Nat} {H : zHp} {E : Nat → Nat} {o : Option (Int × zHp)} {g : zSg → Option (Int × zSg)} (L : LI X H E a0 N) (hk : wX o fun x H' => wX (g (zrd (X + 37) H)) fun w s' => w = x ∧ KD X H H' s') : ∃ x H' H'', o = some (x, H') ∧ zgx (X + 37) g H' = some (x, H'') ∧ LI X H'' E a0 N ∧ (znx H ≤ znx H'' ∧ znx H'' ≤ znx H + 300 ∧ zus H'' ≤ zus H + 4000) ∧ (ztg H' a0 = 40 ∧ zln H' a0 = N ∧ ∀ k, zct H' a0 k = zct H a0 k) ∧ ztg H' (X + 37) = 12 := by
  obtain ⟨⟨A0, B0, K0, ow0, I⟩, rg, ek, bk, ew, ⟨s1, s2, s3⟩, s4⟩ := L
  obtain ⟨x, H', e1, w, s', e2, e3, st, k2, k3, k4, A, B, K, ow, I'⟩ := hk
  subst e3
  have F := I.1
  have hX := F.2.1.1
  have low : ∀ a, a < X → ztg H' a = ztg H a ∧ zln H' a = zln H a ∧ ∀ k, zct H' a k = zct H a k := fun a ha => ⟨(st.2.2 a (by omega)).1, (st.2.2 a (by omega)).2, fun k => k4 a (by omega) (by omega) k⟩
  have rk62 : ∀ k, zrk k ≤ 62 := fun k => by
    by_cases hz : zrk k = 0
    · omega
    · by_cases hk : k < 82
      · exact (zrn_k ⟨k, hk⟩ hz).2
      · rw [zrk_out (by omega)]; omega
  have same : ∀ a, X + 37 ≤ a → a ≤ X + 99 → ztg H' a = ztg H a ∧ zln H' a = zln H a ∧ ∀ k, zct H' a k = zct H a k := fun a h1 h2 => ⟨(st.2.2 a (by omega)).1, (st.2.2 a (by omega)).2, fun k => k4 a (by omega) (by omega) k⟩
  have rd : zrd (X + 37) H' = zrd (X + 37) H := funext fun k => funext fun j => by
    have := rk62 k
    unfold zrd
    by_cases k0 : k = 0
    · rw [if_pos k0, if_pos k0, (same _ (by omega) (by omega)).2.2]
    · rw [if_neg k0, if_neg k0]
      unfold zra
      rw [(same _ (by omega) (by omega)).2.2]
  have rg' : zRg (X + 37) H' := by
    obtain ⟨g1, g2, g3⟩ := rg
    refine ⟨g1, (same _ (by omega) (by omega)).1.trans g2, fun k hk => ?_⟩
    have := rk62 k
    obtain ⟨q1, q2, q3⟩ := g3 k hk
    rw [(same (X + 37) (by omega) (by omega)).2.2]
    refine ⟨q1, ?_, ?_⟩
    · rw [← q2]; unfold zra; exact (same _ (by omega) (by omega)).1
    · rw [← q3]; unfold zra; exact (same _ (by omega) (by omega)).2.1
  have hz : zgx (X + 37) g H' = some (w, zov (X + 37) H' s') := zgx_of rg' rd e2
  obtain ⟨H'', eH⟩ : ∃ H'', H'' = zov (X + 37) H' s' := ⟨_, rfl⟩
  have rd2 : zfs [99] s' (zrd (X + 37) H'') := by rw [eH]; exact zrd_ov
  have c2 : ∀ a k, (a < X + 37 ∨ X + 99 < a) → zct H'' a k = zct H' a k := fun a k h => by rw [eH]; exact zct_ov (by omega)
  have t2 : ∀ a, ztg H'' a = ztg H' a ∧ zln H'' a = zln H' a := fun a => by rw [eH]; exact ⟨rfl, rfl⟩
  have n2 : znx H'' = znx H' ∧ zus H'' = zus H' := by rw [eH]; exact ⟨rfl, rfl⟩
  have rg2 : zRg (X + 37) H'' := by rw [eH]; exact zRg_ov rg'
  rw [← eH] at hz
  clear eH
  have st2 : zst H' H'' := ⟨by omega, by omega, fun q _ => t2 q⟩
  have I2 : IV X H'' (zrd (X + 37) H'') A B K ow := I'.fr (gs := [99]) st2 (fun o k ho _ => c2 _ _ (by omega)) (fun a h1 h2 h3 k => c2 a k (by omega)) rd2 rfl rfl rfl rfl (by rw [rd2 0 8 rfl]; exact Int.le_refl _) (Or.inl rfl) (Or.inl rfl) (Or.inl rfl) (Or.inl rfl) (Or.inl rfl) (Or.inl rfl) (Or.inl rfl)
  have low2 : ∀ a, a < X → ztg H'' a = ztg H a ∧ zln H'' a = zln H a ∧ ∀ k, zct H'' a k = zct H a k := fun a ha => ⟨(t2 a).1.trans (low a ha).1, (t2 a).2.trans (low a ha).2.1, fun k => (c2 a k (by omega)).trans ((low a ha).2.2 k)⟩
  refine ⟨w, H', H'', e1, hz, ⟨⟨A, B, K, ow, I2⟩, rg2, ?_, ?_, fun i hi => ?_, ⟨s1, (low2 a0 s1).1.trans s2, (low2 a0 s1).2.1.trans s3⟩, fun k hk => by rw [(low2 a0 s1).2.2]; exact s4 k hk⟩, ⟨by have := st.1; omega, by omega, by omega⟩, ⟨(low a0 s1).1.trans s2, (low a0 s1).2.1.trans s3, (low a0 s1).2.2⟩, rg'.2.1⟩
  · obtain ⟨⟨a, b⟩, c⟩ := ek
    obtain ⟨l1, l2, l3⟩ := low2 (E 13) a
    unfold EK
    rw [l1, l2]
    simp only [l3]
    exact ⟨⟨a, by have := st.1; omega⟩, c⟩
  · obtain ⟨⟨a, b⟩, c⟩ := bk
    obtain ⟨l1, l2, l3⟩ := low2 (E 14) a
    unfold BK
    rw [l1, l2]
    simp only [l3]
    exact ⟨⟨a, by have := st.1; omega⟩, c⟩
  · obtain ⟨a, b, c⟩ := ew i hi
    obtain ⟨l1, l2, l3⟩ := low2 (E i) b
    rw [l3]
    exact ⟨a.same fun q hq => low2 q (by omega), b, c⟩
theorem yai_n {A : Type} {a N j : Nat} {H : zHp} (ht : ztg H a = 40) (hl : zln H a = N) (hj : j < N) {f : Int → Option A} : yai a (j : Int) H f = f (zct H a j) := by
  unfold yai
  rw [if_pos ⟨Or.inr ht, by omega, by rw [hl]; omega⟩, Int.toNat_natCast]
