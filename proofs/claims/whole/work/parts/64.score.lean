section NEWSCORE
variable {X : Nat} {H : zHp} {s : zSg} {A : Nat → Nat} {B : Nat → Nat → Nat} {K : Nat → Nat} {ow : Nat → Nat × Nat} {n : Nat}
def nsA (H : zHp) (kd : Int) (n : Nat) : zHp := zal (zwr (zal (zwr (zwr (zal H 9 8 fun _ => 0) (znx H + 1) 0 kd) (znx H + 1) 1 (n : Int)) 36 80 fun _ => 0) (znx H + 1) 6 ((znx H + 2 : Nat) : Int)) 30 4 fun _ => 0
def nsH (H : zHp) (kd : Int) (n r : Nat) (au me vo : Int) : zHp := zwr (zwr (zwr (zwr (zwr (nsA H kd n) (znx H + 1) 7 ((znx H + 3 : Nat) : Int)) (znx H + 1) 2 (r : Int)) (znx H + 1) 3 au) (znx H + 1) 4 me) (znx H + 1) 5 vo
theorem ns_at {kd : Int} : ztg (nsA H kd n) (znx H + 1) = 9 ∧ ztg (nsA H kd n) (znx H + 2) = 36 ∧ zln (nsA H kd n) (znx H + 2) = 80 ∧ ztg (nsA H kd n) (znx H + 3) = 30 ∧ zln (nsA H kd n) (znx H + 3) = 4 := by
  refine ⟨?_, ?_, ?_, ?_, ?_⟩
  · show (if znx H + 1 = znx H + 1 + 1 + 1 then 30 else if znx H + 1 = znx H + 1 + 1 then 36 else if znx H + 1 = znx H + 1 then 9 else _) = 9
    rw [if_neg (by omega), if_neg (by omega), if_pos rfl]
  · show (if znx H + 2 = znx H + 1 + 1 + 1 then 30 else if znx H + 2 = znx H + 1 + 1 then 36 else _) = 36
    rw [if_neg (by omega), if_pos rfl]
  · show (if znx H + 2 = znx H + 1 + 1 + 1 then 4 else if znx H + 2 = znx H + 1 + 1 then 80 else _) = 80
    rw [if_neg (by omega), if_pos rfl]
  · show (if znx H + 3 = znx H + 1 + 1 + 1 then 30 else _) = 30
    rw [if_pos rfl]
  · show (if znx H + 3 = znx H + 1 + 1 + 1 then 4 else _) = 4
    rw [if_pos rfl]
theorem ns_run {kd : Int} {r : Nat} {au me vo : Int} (hk : kd = if r = 0 then 1 else 6) : fScore_init (znx H + 1) (n : Int) r au me vo (zal H 9 8 fun _ => 0) = some ((), nsH H kd n r au me vo) := by
  have t1 : ztg (zal H 9 8 fun _ => 0) (znx H + 1) = 9 := by rw [ztg_al, if_pos rfl]
  have key : (yn0 (znx H + 1) <| ybd (fThing_init (znx H + 1) kd (n : Int) (zal H 9 8 fun _ => 0)) fun _ s11 => yna 36 80 s11 fun p12 s13 => ypr 8 6 (znx H + 1) p12 s13 fun s14 => yna 30 4 s14 fun p15 s16 => ypr 8 7 (znx H + 1) p15 s16 fun s17 => ypr 8 2 (znx H + 1) r s17 fun s18 => ypi 8 3 (znx H + 1) au s18 fun s19 => ypi 8 4 (znx H + 1) me s19 fun s20 => ypi 8 5 (znx H + 1) vo s20 fun s21 => some ((), s21)) = some ((), nsH H kd n r au me vo) := by
    have t2 : ztg (zal (zwr (zwr (zal H 9 8 fun _ => 0) (znx H + 1) 0 kd) (znx H + 1) 1 (n : Int)) 36 80 fun _ => 0) (znx H + 1) = 9 := by
      show (if znx H + 1 = znx H + 1 + 1 then 36 else if znx H + 1 = znx H + 1 then 9 else _) = 9
      rw [if_neg (by omega), if_pos rfl]
    have t3 := (ns_at (H := H) (n := n) (kd := kd)).1
    unfold fThing_init
    simp only [yn0, ypi, ypr, ybd_s, show 0 < znx H + 1 by omega, if_true, t1, ztg_wr, show zisA 20 9 = true from rfl]
    rw [yna, if_pos (by omega), show (80 : Int).toNat = 80 from rfl]
    simp only [t2, zA8, if_true]
    rw [yna, if_pos (by omega), show (4 : Int).toNat = 4 from rfl]
    have e : (zal (zwr (zal (zwr (zwr (zal H 9 8 fun _ => 0) (znx H + 1) 0 kd) (znx H + 1) 1 (n : Int)) 36 80 fun _ => 0) (znx H + 1) 6 ((znx (zwr (zwr (zal H 9 8 fun _ => 0) (znx H + 1) 0 kd) (znx H + 1) 1 (n : Int)) + 1 : Nat) : Int)) 30 4 fun _ => 0) = nsA H kd n := rfl
    simp only [e, t3, zA8, if_true]
    rfl
  unfold fScore_init
  simp only [yjn]
  by_cases h : r = 0
  · rw [if_pos h]
    rw [if_pos h] at hk
    subst hk
    exact key
  · rw [if_neg h]
    rw [if_neg h] at hk
    subst hk
    exact key
theorem ns_st {kd : Int} {r : Nat} {au me vo : Int} : zst H (nsH H kd n r au me vo) :=
  (((((((((((zst.rf.al _ _ _).wr _ _ _).wr _ _ _).al _ _ _).wr _ _ _).al _ _ _).wr _ _ _).wr _ _ _).wr _ _ _).wr _ _ _).wr _ _ _)
theorem ns_old {kd : Int} {r : Nat} {au me vo : Int} {a k : Nat} (h : a ≤ znx H) : zct (nsH H kd n r au me vo) a k = zct H a k := by
  unfold nsH
  rw [zct_wr, if_neg (by omega), zct_wr, if_neg (by omega), zct_wr, if_neg (by omega), zct_wr, if_neg (by omega), zct_wr, if_neg (by omega)]
  unfold nsA
  rw [zct_al, if_neg (by simp only [znx_wr, znx_al]; omega), zct_wr, if_neg (by omega), zct_al, if_neg (by simp only [znx_wr, znx_al]; omega), zct_wr, if_neg (by omega), zct_wr, if_neg (by omega), zct_al, if_neg (by omega)]
theorem ns_aa {kd : Int} {k : Nat} : zct (nsA H kd n) (znx H + 1) k = if k = 6 then ((znx H + 2 : Nat) : Int) else if k = 1 then (n : Int) else if k = 0 then kd else 0 := by
  unfold nsA
  rw [zct_al, if_neg (by simp only [znx_wr, znx_al]; omega), zct_wr]
  by_cases e6 : k = 6
  · rw [if_pos ⟨rfl, e6⟩, if_pos e6]
  · rw [if_neg (fun w => e6 w.2), if_neg e6, zct_al, if_neg (by simp only [znx_wr, znx_al]; omega), zct_wr]
    by_cases e1 : k = 1
    · rw [if_pos ⟨rfl, e1⟩, if_pos e1]
    · rw [if_neg (fun w => e1 w.2), if_neg e1, zct_wr]
      by_cases e0 : k = 0
      · rw [if_pos ⟨rfl, e0⟩, if_pos e0]
      · rw [if_neg (fun w => e0 w.2), if_neg e0, zct_al, if_pos rfl]
theorem ns_a {kd : Int} {r : Nat} {au me vo : Int} : zct (nsH H kd n r au me vo) (znx H + 1) 0 = kd ∧ zct (nsH H kd n r au me vo) (znx H + 1) 1 = (n : Int) ∧ zct (nsH H kd n r au me vo) (znx H + 1) 2 = (r : Int) ∧ zct (nsH H kd n r au me vo) (znx H + 1) 3 = au ∧ zct (nsH H kd n r au me vo) (znx H + 1) 4 = me ∧ zct (nsH H kd n r au me vo) (znx H + 1) 5 = vo ∧ zct (nsH H kd n r au me vo) (znx H + 1) 6 = ((znx H + 2 : Nat) : Int) ∧ zct (nsH H kd n r au me vo) (znx H + 1) 7 = ((znx H + 3 : Nat) : Int) ∧ ∀ k, zct (nsH H kd n r au me vo) (znx H + 3) k = 0 := by
  refine ⟨?_, ?_, ?_, ?_, ?_, ?_, ?_, ?_, fun k => ?_⟩
  · unfold nsH
    simp [zct_wr, ns_aa]
  · unfold nsH
    simp [zct_wr, ns_aa]
  · unfold nsH
    simp [zct_wr]
  · unfold nsH
    simp [zct_wr]
  · unfold nsH
    simp [zct_wr]
  · unfold nsH
    simp [zct_wr]
  · unfold nsH
    simp [zct_wr, ns_aa]
  · unfold nsH
    simp [zct_wr]
  · unfold nsH
    rw [zct_wr, if_neg (by omega), zct_wr, if_neg (by omega), zct_wr, if_neg (by omega), zct_wr, if_neg (by omega), zct_wr, if_neg (by omega)]
    unfold nsA
    rw [zct_al, if_pos (by simp only [znx_wr, znx_al])]
theorem ns_keep (I : IV X H s A B K ow) (hn : s 0 2 = (n : Int)) (h59 : n ≤ 59) {kd : Int} {r : Nat} {au me vo : Int} : ztg (nsH H kd n r au me vo) X = 11 ∧ fH_keep X (znx H + 1) (nsH H kd n r au me vo) = some ((n : Int), kpH X (nsH H kd n r au me vo) (znx H + 1) n) := by
  have F := I.1
  have hX := F.2.1.1
  have q1 : zct H X 4 = s 0 2 := I.2.1.2.2.2.2.2.2.2.2.2.1
  have st := ns_st (H := H) (n := n) (kd := kd) (r := r) (au := au) (me := me) (vo := vo)
  have t0 : ztg (nsH H kd n r au me vo) X = 11 := by rw [(st.2.2 _ (by omega)).1]; exact ft0 F
  refine ⟨t0, e_keep t0 ?_ ?_ ?_ ?_ h59 (by omega) ?_ ns_a.2.1⟩
  · rw [ns_old (by omega), q1, hn]
  · rw [ns_old (by omega)]; exact fp0_3 F
  · rw [(st.2.2 _ (by omega)).1]; exact ft2 F
  · rw [(st.2.2 _ (by omega)).2]; exact fl2 F
  · show zisA 20 (ztg (nsA H kd n) (znx H + 1)) = true
    rw [ns_at.1]; rfl
end NEWSCORE
