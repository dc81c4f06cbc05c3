section NEWPART
variable {X : Nat} {H : zHp} {s : zSg} {A : Nat → Nat} {B : Nat → Nat → Nat} {K : Nat → Nat} {ow : Nat → Nat × Nat} {n : Nat}
/-- the heap when a thing is kept -/
def kpH (X : Nat) (H : zHp) (a n : Nat) : zHp := zwr (zwr H (X + 2) n (a : Int)) X 4 ((n + 1 : Nat) : Int)
theorem e_keep {a : Nat} (t0 : ztg H X = 11) (h4 : zct H X 4 = (n : Int)) (h3 : (zct H X 3).toNat = X + 2) (t2 : ztg H (X + 2) = 33) (l2 : zln H (X + 2) = 60) (hn : n ≤ 59) (ha : X + 99 < a) (ta : zisA 20 (ztg H a) = true) (a1 : zct H a 1 = (n : Int)) : fH_keep X a H = some ((n : Int), kpH X H a n) := by
  have b : 0 ≤ (n : Int) ∧ (n : Int) < ((60 : Nat) : Int) := by omega
  have zm : zmay 33 (ztg H a) = true := by unfold zmay; rw [ta]; rfl
  have e : zadd (n : Int) 1 = ((n + 1 : Nat) : Int) := by rw [zadd_e (by omega) (by omega)]; omega
  have c4 : zct (zwr H (X + 2) n (a : Int)) X 4 = (n : Int) := by rw [zct_wr, if_neg (by omega)]; exact h4
  have c1 : zct (zwr (zwr H (X + 2) n (a : Int)) X 4 ((n + 1 : Nat) : Int)) a 1 = (n : Int) := by rw [zct_wr, if_neg (by omega), zct_wr, if_neg (by omega)]; exact a1
  unfold fH_keep
  simp only [ygi, ygr, ysr, ypi, t0, zA10, if_true, h4, show (n : Int) < 60 by omega, h3, t2, l2, zm, b, and_self, Int.toNat_natCast, ztg_wr, c4, e, ta, c1]
  rfl
def npA (H : zHp) (kd : Int) (n : Nat) : zHp := zwr (zwr (zwr (zal H 6 7 fun _ => 0) (znx H + 1) 0 kd) (znx H + 1) 1 (n : Int)) (znx H + 1) 5 0
def npH (H : zHp) (kd : Int) (n r : Nat) (v tr : Int) : zHp := zwr (zwr (zwr (zwr (nb (npA H kd n)) (znx H + 1) 6 ((znx H + 2 : Nat) : Int)) (znx H + 1) 2 (r : Int)) (znx H + 1) 3 v) (znx H + 1) 4 tr
theorem np_t {kd : Int} : ztg (npA H kd n) (znx H + 1) = 6 := by
  show ztg (zal H 6 7 fun _ => 0) (znx H + 1) = 6
  rw [ztg_al, if_pos rfl]
theorem np_nx {kd : Int} : znx (npA H kd n) = znx H + 1 := rfl
theorem np_run {kd : Int} {r : Nat} {v tr : Int} : fPart_init (znx H + 1) kd (n : Int) r v tr (zal H 6 7 fun _ => 0) = some ((), npH H kd n r v tr) := by
  have t1 : ztg (zal H 6 7 fun _ => 0) (znx H + 1) = 6 := by rw [ztg_al, if_pos rfl]
  have t2 : ztg (nb (npA H kd n)) (znx H + 1) = 6 := by rw [(nb_st.2.2 _ (by rw [np_nx]; omega)).1]; exact np_t
  have br := nb_run (H := npA H kd n)
  unfold fPart_init fThing_init
  simp only [yn0, ypi, ypr, ynw, ybd_s, show 0 < znx H + 1 by omega, if_true, t1, ztg_wr, show zisA 20 6 = true from rfl, zA5]
  have e : zwr (zwr (zwr (zal H 6 7 fun _ => 0) (znx H + 1) 0 kd) (znx H + 1) 1 (n : Int)) (znx H + 1) 5 0 = npA H kd n := rfl
  rw [e, if_pos (by rw [np_nx]; omega), br]
  simp only [ybd_s, t2, zA5, if_true, ztg_wr]
  rfl
theorem np_st {kd : Int} {r : Nat} {v tr : Int} : zst H (npH H kd n r v tr) := by
  have h1 : zst H (npA H kd n) := (((zst.rf.al _ _ _).wr _ _ _).wr _ _ _).wr _ _ _
  exact ((((h1.tr nb_st).wr _ _ _).wr _ _ _).wr _ _ _).wr _ _ _
theorem np_old {kd : Int} {r : Nat} {v tr : Int} {a k : Nat} (h : a ≤ znx H) : zct (npH H kd n r v tr) a k = zct H a k := by
  unfold npH
  rw [zct_wr, if_neg (by omega), zct_wr, if_neg (by omega), zct_wr, if_neg (by omega), zct_wr, if_neg (by omega), nb_old (by rw [np_nx]; omega)]
  unfold npA
  rw [zct_wr, if_neg (by omega), zct_wr, if_neg (by omega), zct_wr, if_neg (by omega), zct_al, if_neg (by omega)]
theorem np_a {kd : Int} {r : Nat} {v tr : Int} : zct (npH H kd n r v tr) (znx H + 1) 0 = kd ∧ zct (npH H kd n r v tr) (znx H + 1) 1 = (n : Int) ∧ zct (npH H kd n r v tr) (znx H + 1) 2 = (r : Int) ∧ zct (npH H kd n r v tr) (znx H + 1) 3 = v ∧ zct (npH H kd n r v tr) (znx H + 1) 4 = tr ∧ zct (npH H kd n r v tr) (znx H + 1) 5 = 0 ∧ zct (npH H kd n r v tr) (znx H + 1) 6 = ((znx H + 2 : Nat) : Int) := by
  have ob : ∀ k, zct (nb (npA H kd n)) (znx H + 1) k = zct (npA H kd n) (znx H + 1) k := fun k => nb_old (by rw [np_nx]; omega)
  refine ⟨?_, ?_, ?_, ?_, ?_, ?_, ?_⟩
  · unfold npH
    simp only [zct_wr, ob]
    simp [npA, zct_wr]
  · unfold npH
    simp only [zct_wr, ob]
    simp [npA, zct_wr]
  · unfold npH
    simp [zct_wr]
  · unfold npH
    simp [zct_wr]
  · unfold npH
    simp [zct_wr]
  · unfold npH
    simp only [zct_wr, ob]
    simp [npA, zct_wr]
  · unfold npH
    simp [zct_wr]
theorem np_tg {kd : Int} {r : Nat} {v tr : Int} : ztg (npH H kd n r v tr) (znx H + 1) = 6 ∧ ztg (npH H kd n r v tr) (znx H + 2) = 1 ∧ ztg (npH H kd n r v tr) (znx H + 3) = 30 ∧ zln (npH H kd n r v tr) (znx H + 3) = 8 ∧ zct (npH H kd n r v tr) (znx H + 2) 0 = ((znx H + 3 : Nat) : Int) := by
  refine ⟨?_, ?_, ?_, ?_, ?_⟩
  · show ztg (nb (npA H kd n)) (znx H + 1) = 6
    rw [(nb_st.2.2 _ (by rw [np_nx]; omega)).1]; exact np_t
  · exact nb_t1 (H := npA H kd n)
  · exact nb_t2 (H := npA H kd n)
  · exact nb_l2 (H := npA H kd n)
  · unfold npH
    rw [zct_wr, if_neg (by omega), zct_wr, if_neg (by omega), zct_wr, if_neg (by omega), zct_wr, if_neg (by omega)]
    exact (nb_c (H := npA H kd n)).1
theorem np_keep (I : IV X H s A B K ow) (hn : s 0 2 = (n : Int)) (h59 : n ≤ 59) {kd : Int} {r : Nat} {v tr : Int} : fH_keep X (znx H + 1) (npH H kd n r v tr) = some ((n : Int), kpH X (npH H kd n r v tr) (znx H + 1) n) := by
  have F := I.1
  have hX := F.2.1.1
  have q1 : zct H X 4 = s 0 2 := I.2.1.2.2.2.2.2.2.2.2.2.1
  have st := np_st (H := H) (n := n) (kd := kd) (r := r) (v := v) (tr := tr)
  refine e_keep ?_ ?_ ?_ ?_ ?_ h59 (by omega) ?_ np_a.2.1
  · rw [(st.2.2 _ (by omega)).1]; exact ft0 F
  · rw [np_old (by omega), q1, hn]
  · rw [np_old (by omega)]; exact fp0_3 F
  · rw [(st.2.2 _ (by omega)).1]; exact ft2 F
  · rw [(st.2.2 _ (by omega)).2]; exact fl2 F
  · rw [np_tg.1]; rfl
end NEWPART
