/-! paid: what a contract gives -/
/-- only the contract's own reading changes -/
def CL (C : Nat) (H H' : zHp) : Prop := (H'.1 = H.1 ∧ H'.2.1 = H.2.1 ∧ H'.2.2.2 = H.2.2.2) ∧ (∀ a, a ≠ C → ∀ k, zct H' a k = zct H a k) ∧ ∀ k, k < 3 ∨ k = 5 ∨ k = 6 ∨ k = 7 → zct H' C k = zct H C k
theorem CL.rf {C : Nat} {H : zHp} : CL C H H := ⟨⟨rfl, rfl, rfl⟩, fun _ _ _ => rfl, fun _ _ => rfl⟩
theorem CL.tr {C : Nat} {H1 H2 H3 : zHp} (a : CL C H1 H2) (b : CL C H2 H3) : CL C H1 H3 := ⟨⟨b.1.1.trans a.1.1, b.1.2.1.trans a.1.2.1, b.1.2.2.trans a.1.2.2⟩, fun q h k => (b.2.1 q h k).trans (a.2.1 q h k), fun k h => (b.2.2 k h).trans (a.2.2 k h)⟩
theorem CL.wr {C k : Nat} {H : zHp} {v : Int} (hk : 8 ≤ k) : CL C H (zwr H C k v) := ⟨⟨rfl, rfl, rfl⟩, fun a h j => by rw [zct_wr, if_neg (fun e => h e.1)], fun j h => by rw [zct_wr, if_neg (by omega)]⟩
theorem CL.of {C : Nat} {H H' : zHp} (h : CW C H H') (e : zct H' C 5 = zct H C 5 ∧ zct H' C 6 = zct H C 6 ∧ zct H' C 7 = zct H C 7) : CL C H H' := ⟨h.1, h.2.1, fun k hk => by
  rcases hk with w | w | w | w
  · exact h.2.2 k (Or.inl w)
  · rw [w]; exact e.1
  · rw [w]; exact e.2.1
  · rw [w]; exact e.2.2⟩
theorem CL.tg {C : Nat} {H H' : zHp} (h : CL C H H') (a : Nat) : ztg H' a = ztg H a ∧ zln H' a = zln H a := ⟨by show H'.1 a = H.1 a; rw [h.1.1], by show H'.2.1 a = H.2.1 a; rw [h.1.2.1]⟩
theorem R62.z {s s' : zSg} (h : R62 s s') : zfs [11] s s' := fun k j hg => h k j (fun e => by
  rw [e] at hg
  exact absurd (show [11].contains 11 = false from hg) (by decide))
theorem zmin_c (x y : Int) : zmin x y = zmin y x := by
  unfold zmin
  by_cases h : y < x
  · rw [if_pos h, if_neg (by omega)]
  · rw [if_neg h]
    by_cases h2 : x < y
    · rw [if_pos h2]
    · rw [if_neg h2]; omega
section LAW
variable {X : Nat} {H H' : zHp} {s s' : zSg} {A : Nat → Nat} {B : Nat → Nat → Nat} {K : Nat → Nat} {ow : Nat → Nat × Nat}
theorem IV.law (I : IV X H s A B K ow) {c : Nat} (hc : (c : Int) < s 0 44) (h : CL (K c) H H') : IV X H' s A B K ow := by
  obtain ⟨⟨m0, m1⟩, -⟩ := I.co hc
  obtain ⟨F, ⟨k1, k2, k3, k4, k5, k6, k7, k8, k9, k10⟩, kt, kc, ks, ko⟩ := I
  have hX := F.2.1.1
  have nx : znx H' = znx H := congrArg Prod.fst h.1.2.2
  have us : zus H' = zus H := congrArg Prod.snd h.1.2.2
  have st : zst H H' := ⟨by omega, by omega, fun q _ => h.tg q⟩
  have c36 : ∀ o k, o ≤ 36 → zct H' (X + o) k = zct H (X + o) k := fun o k ho => h.2.1 _ (by have := m0.1; omega) k
  have fx : zfx X [] H H' := fun o k ho _ => c36 o k ho
  have hz : zfc [] (zcx X H) (zcx X H') := fun o k ho _ => c36 o k ho
  have zs : zfs [] s s := zfs.rf
  have how : ∀ o, o ≠ 0 → o ≠ 1000 + c → zown ow o H H' := fun o _ h9 a ha hb k => h.2.1 a (fun e => h9 (by rw [← hb, e, m0.2.2])) k
  have hw : ∀ a, a ≤ znx H → ow a = ow a := fun _ _ => rfl
  refine ⟨F.fr st fx rfl, ⟨k1.fr hz zs rfl, k2.fr hz zs rfl (fun _ _ => rfl), k3.fr hz zs rfl, ?_, k5.fr hz zs rfl, k6.fr hz zs rfl, k7.fr hz zs rfl, k8.fr hz zs rfl, k9.fr hz zs rfl, k10.fr hz zs rfl⟩, fun t ht => ?_, fun c' hc' => ?_, ks, ko⟩
  · obtain ⟨a1, a2, a3, a4⟩ := k4
    unfold G4
    rw [hz 0 12 (by omega) rfl]
    exact ⟨a1, a2, a3, fun k hk => by rw [hz 11 k (by omega) rfl]; exact a4 k hk⟩
  · obtain ⟨to, eo⟩ := kt t ht
    have st' := ks.1 t ht
    have b60 := k10.2.2.1
    refine ⟨to.fr zts.rf st (how _ (by omega) (by omega)) hw rfl rfl (fun _ => rfl) (fun w v hv => ((st'.2.1 w).2.2.2.2.2 v hv).1.2) (fun w => (st'.2.2.2.1 w).2.2.2.1.2), fun w => ?_⟩
    obtain ⟨e1, e2⟩ := eo w
    obtain ⟨⟨m0', -, -, -, m4⟩, -⟩ := to.2.2.2.1 w
    refine ⟨?_, fun j hj => ?_⟩
    · rw [m0'.ct (how _ (by omega) (by omega))]; exact e1
    · rw [m4.ct (how _ (by omega) (by omega))]; exact e2 j hj
  · by_cases e : c' = c
    · subst e
      obtain ⟨-, ⟨d0, d1, d2, d3, d4, d5, d6⟩, ⟨w1, w2⟩, r, p⟩ := kc c' hc'
      have row : zct H' (K c' + 1) = zct H (K c' + 1) := funext fun k => h.2.1 _ (Nat.succ_ne_self _) k
      unfold CO
      rw [(h.tg _).1, (h.tg _).1, (h.tg _).2, h.2.2 0 (by omega), h.2.2 1 (by omega), h.2.2 2 (by omega), h.2.2 5 (by omega), h.2.2 6 (by omega), h.2.2 7 (by omega), row]
      exact ⟨⟨m0.fr st hw, m1.fr st hw⟩, ⟨d0, d1, d2, d3, d4, d5, d6⟩, ⟨w1, w2⟩, r, p⟩
    · exact (kc c' hc').fr zs rfl st (how _ (by omega) (by omega)) hw
end LAW
section GETS
variable {d y z pa ac sum lim : Int} {c n : Nat} {f : Nat → Int} {s0 : zSg}
theorem sumC_0 {r50 r51 r52 : Nat → Int} {h : Nat → Bool} : ∀ k : Nat, (sumC r50 r51 r52 h pa ac c k).2 = false → (sumC r50 r51 r52 h pa ac c k).1 = 0
  | 0, _ => rfl
  | k + 1, e => by
    have ih := sumC_0 (r50 := r50) (r51 := r51) (r52 := r52) (h := h) k
    by_cases g : r50 (8 * c + k) = pa ∧ r51 (8 * c + k) = ac ∧ h k = true
    · have e2 : sumC r50 r51 r52 h pa ac c (k + 1) = ((sumC r50 r51 r52 h pa ac c k).1 + r52 (8 * c + k), true) := if_pos g
      rw [e2] at e
      cases e
    · have e2 : sumC r50 r51 r52 h pa ac c (k + 1) = sumC r50 r51 r52 h pa ac c k := if_neg g
      rw [e2] at e ⊢
      exact ih e
end GETS
