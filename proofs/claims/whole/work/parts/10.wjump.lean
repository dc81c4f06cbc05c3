theorem zr2_inj {x y : Nat} : zr2 x = zr2 y ↔ x = y := by
  unfold zr2
  by_cases h1 : x = 0 <;> by_cases h2 : y = 0 <;> simp [h1, h2] <;> omega
noncomputable def zgo (mm nx : Nat) (o : Option Nat) : Nat := match o with
  | none => nx
  | some b => zpc (zB mm b)
section ZB
variable {p : Program} {l : Launch} {e : Env} {R : Room} {s : State} {m : MethodId} {args : Array Value} {below : List Frame} {meth : Method} {c : Code} {H : Heap} {locs : List Loc} {cells slots : Nat} {Q : State → Prop}
theorem zO_tgt (mm a pc : Nat) : (pc : Int) + (zO mm a - pc) = ((zpc (zB mm a) : Nat) : Int) := by unfold zO; omega
theorem zsw_in {tb : List (Int × Nat)} {a : Nat} {x : Int} (h : ∀ q ∈ tb, ¬ x = q.1) : zsw tb a x = a := by
  induction tb with
  | nil => rfl
  | cons q r ih => rw [zsw, if_neg (h q List.mem_cons_self)]; exact ih fun q hq => h q (List.mem_cons_of_mem _ hq)
/-- a row of keys that goes up by one -/
theorem zsw_tab : ∀ (tb : List (Int × Nat)) (lo x : Int) (a : Nat), (∀ (j : Nat) (q : Int × Nat), tb[j]? = some q → q.1 = lo + j) → ((x < lo ∨ lo + tb.length ≤ x) ∧ zsw tb a x = a) ∨ ∃ q, tb[(x - lo).toNat]? = some q ∧ lo ≤ x ∧ x < lo + tb.length ∧ zsw tb a x = q.2
  | [], lo, x, a, h => Or.inl ⟨by simp; omega, rfl⟩
  | q :: r, lo, x, a, h => by
    have h0 : q.1 = lo := by have := h 0 q rfl; simpa using this
    by_cases e : x = q.1
    · refine Or.inr ⟨q, ?_, by omega, by simp; omega, by rw [zsw, if_pos e]⟩
      rw [show (x - lo).toNat = 0 by omega]
      rfl
    · rcases zsw_tab r (lo + 1) x a (fun j q' hq => by have := h (j + 1) q' (by simpa using hq); push_cast at this; omega) with ⟨g1, g2⟩ | ⟨q', g1, g2, g3, g4⟩
      · exact Or.inl ⟨by simp only [List.length_cons]; omega, by rw [zsw, if_neg e]; exact g2⟩
      · refine Or.inr ⟨q', ?_, by omega, by simp only [List.length_cons]; omega, by rw [zsw, if_neg e]; exact g4⟩
        rw [show (x - lo).toNat = (x - (lo + 1)).toNat + 1 by omega]
        simpa using g1
theorem zsw_off {mm pc : Nat} : ∀ (tb : List (Int × Nat)) (a : Nat) (d x : Int), (pc : Int) + d = zO mm a → (pc : Int) + Op.lookupswitch.offset (tb.map fun q => (q.1, zO mm q.2 - pc)) d x = zO mm (zsw tb a x)
  | [], a, d, x, h => h
  | q :: r, a, d, x, h => by
    rw [zsw, List.map_cons]
    by_cases e : x = q.1
    · rw [if_pos e]
      simp only [Op.lookupswitch.offset]
      rw [if_pos (by simp [e])]
      omega
    · rw [if_neg e]
      simp only [Op.lookupswitch.offset]
      rw [if_neg (by simpa using Ne.symm e)]
      exact zsw_off r a d x h
set_option maxHeartbeats 8000000 in
theorem zbr_W {mm nx : Nat} {i : zMI} {L : zLo} {st st' : List zAV} {o : Option Nat} {ls : Array Slot} (hx : p.tables.exec = Jvm.exec) (hb : c.code = zC mm)
    (hok : zk2 mm i nx = true) (he : zbr i st = some (o, st')) (hs : zokS st)
    (kk : W p l e R s m args below meth c H locs cells slots Q (F0 m (zgo mm nx o) ls (st'.map zV))) : W p l e R s m args below meth c H locs cells slots Q (F0 m i.2.1 ls (st.map zV)) := by
  unfold zbr at he
  split at he
  · simp only [Option.some.injEq, Prod.mk.injEq] at he
    obtain ⟨rfl, rfl⟩ := he
    obtain ⟨h1, rfl⟩ := zD_of hok
    simp only [List.map_cons, zV] at kk ⊢
    have hq := zi_eq (zokS_head hs) (⟨by omega, by omega⟩ : zR32 0)
    refine lv_if_eq hx hb h1 (zO_tgt _ _ _) (fun z => ?_) (fun z => ?_)
    · rw [if_pos (hq.mp z)] at kk
      exact kk
    · rw [if_neg (fun y => z (hq.mpr y))] at kk
      exact kk
  · simp only [Option.some.injEq, Prod.mk.injEq] at he
    obtain ⟨rfl, rfl⟩ := he
    obtain ⟨h1, rfl⟩ := zD_of hok
    simp only [List.map_cons, zV] at kk ⊢
    have hq := zi_eq (zokS_head hs) (⟨by omega, by omega⟩ : zR32 0)
    refine lv_if_ne hx hb h1 (zO_tgt _ _ _) (fun z => ?_) (fun z => ?_)
    · rw [if_neg (fun y => z (hq.mpr y))] at kk
      exact kk
    · rw [if_pos (hq.mp z)] at kk
      exact kk
  · simp only [Option.some.injEq, Prod.mk.injEq] at he
    obtain ⟨rfl, rfl⟩ := he
    obtain ⟨h1, rfl⟩ := zD_of hok
    simp only [List.map_cons, zV] at kk ⊢
    have hq := zi_lt (zokS_head hs) (⟨by omega, by omega⟩ : zR32 0)
    refine lv_if_lt hx hb h1 (zO_tgt _ _ _) (fun z => ?_) (fun z => ?_)
    · rw [if_pos (hq.mp z)] at kk
      exact kk
    · rw [if_neg (fun y => z (hq.mpr y))] at kk
      exact kk
  · simp only [Option.some.injEq, Prod.mk.injEq] at he
    obtain ⟨rfl, rfl⟩ := he
    obtain ⟨h1, rfl⟩ := zD_of hok
    simp only [List.map_cons, zV] at kk ⊢
    have hq := zi_le (⟨by omega, by omega⟩ : zR32 0) (zokS_head hs)
    refine lv_if_ge hx hb h1 (zO_tgt _ _ _) (fun z => ?_) (fun z => ?_)
    · rw [if_neg (fun y => absurd (hq.mp z) (by omega))] at kk
      exact kk
    · rw [if_pos (by have h9 := mt hq.mpr z; omega)] at kk
      exact kk
  · simp only [Option.some.injEq, Prod.mk.injEq] at he
    obtain ⟨rfl, rfl⟩ := he
    obtain ⟨h1, rfl⟩ := zD_of hok
    simp only [List.map_cons, zV] at kk ⊢
    have hq := zi_lt (⟨by omega, by omega⟩ : zR32 0) (zokS_head hs)
    refine lv_if_gt hx hb h1 (zO_tgt _ _ _) (fun z => ?_) (fun z => ?_)
    · rw [if_pos (hq.mp z)] at kk
      exact kk
    · rw [if_neg (fun y => z (hq.mpr y))] at kk
      exact kk
  · simp only [Option.some.injEq, Prod.mk.injEq] at he
    obtain ⟨rfl, rfl⟩ := he
    obtain ⟨h1, rfl⟩ := zD_of hok
    simp only [List.map_cons, zV] at kk ⊢
    have hq := zi_le (zokS_head hs) (⟨by omega, by omega⟩ : zR32 0)
    refine lv_if_le hx hb h1 (zO_tgt _ _ _) (fun z => ?_) (fun z => ?_)
    · rw [if_neg (fun y => absurd (hq.mp z) (by omega))] at kk
      exact kk
    · rw [if_pos (by have h9 := mt hq.mpr z; omega)] at kk
      exact kk
  · simp only [Option.some.injEq, Prod.mk.injEq] at he
    obtain ⟨rfl, rfl⟩ := he
    obtain ⟨h1, rfl⟩ := zD_of hok
    simp only [List.map_cons, zV] at kk ⊢
    have hq := zi_eq (zokS_head (zokS_tail hs)) (zokS_head hs)
    refine lv_icmp_eq hx hb h1 (zO_tgt _ _ _) (fun z => ?_) (fun z => ?_)
    · rw [if_pos (hq.mp z)] at kk
      exact kk
    · rw [if_neg (fun y => z (hq.mpr y))] at kk
      exact kk
  · simp only [Option.some.injEq, Prod.mk.injEq] at he
    obtain ⟨rfl, rfl⟩ := he
    obtain ⟨h1, rfl⟩ := zD_of hok
    simp only [List.map_cons, zV] at kk ⊢
    have hq := zi_eq (zokS_head (zokS_tail hs)) (zokS_head hs)
    refine lv_icmp_ne hx hb h1 (zO_tgt _ _ _) (fun z => ?_) (fun z => ?_)
    · rw [if_neg (fun y => z (hq.mpr y))] at kk
      exact kk
    · rw [if_pos (hq.mp z)] at kk
      exact kk
  · simp only [Option.some.injEq, Prod.mk.injEq] at he
    obtain ⟨rfl, rfl⟩ := he
    obtain ⟨h1, rfl⟩ := zD_of hok
    simp only [List.map_cons, zV] at kk ⊢
    have hq := zi_lt (zokS_head (zokS_tail hs)) (zokS_head hs)
    refine lv_icmp_lt hx hb h1 (zO_tgt _ _ _) (fun z => ?_) (fun z => ?_)
    · rw [if_pos (hq.mp z)] at kk
      exact kk
    · rw [if_neg (fun y => z (hq.mpr y))] at kk
      exact kk
  · simp only [Option.some.injEq, Prod.mk.injEq] at he
    obtain ⟨rfl, rfl⟩ := he
    obtain ⟨h1, rfl⟩ := zD_of hok
    simp only [List.map_cons, zV] at kk ⊢
    have hq := zi_le (zokS_head hs) (zokS_head (zokS_tail hs))
    refine lv_icmp_ge hx hb h1 (zO_tgt _ _ _) (fun z => ?_) (fun z => ?_)
    · rw [if_neg (fun y => absurd (hq.mp z) (by omega))] at kk
      exact kk
    · rw [if_pos (by have h9 := mt hq.mpr z; omega)] at kk
      exact kk
  · simp only [Option.some.injEq, Prod.mk.injEq] at he
    obtain ⟨rfl, rfl⟩ := he
    obtain ⟨h1, rfl⟩ := zD_of hok
    simp only [List.map_cons, zV] at kk ⊢
    have hq := zi_lt (zokS_head hs) (zokS_head (zokS_tail hs))
    refine lv_icmp_gt hx hb h1 (zO_tgt _ _ _) (fun z => ?_) (fun z => ?_)
    · rw [if_pos (hq.mp z)] at kk
      exact kk
    · rw [if_neg (fun y => z (hq.mpr y))] at kk
      exact kk
  · simp only [Option.some.injEq, Prod.mk.injEq] at he
    obtain ⟨rfl, rfl⟩ := he
    obtain ⟨h1, rfl⟩ := zD_of hok
    simp only [List.map_cons, zV] at kk ⊢
    have hq := zi_le (zokS_head (zokS_tail hs)) (zokS_head hs)
    refine lv_icmp_le hx hb h1 (zO_tgt _ _ _) (fun z => ?_) (fun z => ?_)
    · rw [if_neg (fun y => absurd (hq.mp z) (by omega))] at kk
      exact kk
    · rw [if_pos (by have h9 := mt hq.mpr z; omega)] at kk
      exact kk
  · simp only [Option.some.injEq, Prod.mk.injEq] at he
    obtain ⟨rfl, rfl⟩ := he
    obtain ⟨h1, rfl⟩ := zD_of hok
    rename_i y x _
    simp only [List.map_cons, zV] at kk ⊢
    have hq : zr2 x = zr2 y ↔ x = y := zr2_inj
    refine lv_acmp_eq hx hb h1 (zO_tgt _ _ _) (fun z => ?_) (fun z => ?_)
    · rw [if_pos (hq.mp z)] at kk
      exact kk
    · rw [if_neg (fun y => z (hq.mpr y))] at kk
      exact kk
  · simp only [Option.some.injEq, Prod.mk.injEq] at he
    obtain ⟨rfl, rfl⟩ := he
    obtain ⟨h1, rfl⟩ := zD_of hok
    rename_i y x _
    simp only [List.map_cons, zV] at kk ⊢
    have hq : zr2 x = zr2 y ↔ x = y := zr2_inj
    refine lv_acmp_ne hx hb h1 (zO_tgt _ _ _) (fun z => ?_) (fun z => ?_)
    · rw [if_neg (fun y => z (hq.mpr y))] at kk
      exact kk
    · rw [if_pos (hq.mp z)] at kk
      exact kk
  · rename_i x _
    simp only [Option.some.injEq, Prod.mk.injEq] at he
    obtain ⟨rfl, rfl⟩ := he
    obtain ⟨h1, rfl⟩ := zD_of hok
    simp only [List.map_cons] at kk ⊢
    by_cases z : x = 0
    · rw [if_pos z] at kk
      subst z
      exact lv_ifnullN hx hb h1 (zO_tgt _ _ _) kk
    · rw [if_neg z] at kk
      rw [zV_ref (by omega)]
      exact lv_ifnull hx hb h1 kk
  · rename_i x _
    simp only [Option.some.injEq, Prod.mk.injEq] at he
    obtain ⟨rfl, rfl⟩ := he
    obtain ⟨h1, rfl⟩ := zD_of hok
    simp only [List.map_cons] at kk ⊢
    by_cases z : x = 0
    · rw [if_pos z] at kk
      subst z
      exact lv_ifnonnullN hx hb h1 kk
    · rw [if_neg z] at kk
      rw [zV_ref (by omega)]
      exact lv_ifnonnull hx hb h1 (zO_tgt _ _ _) kk
  · simp only [Option.some.injEq, Prod.mk.injEq] at he
    obtain ⟨rfl, rfl⟩ := he
    simp only [zk2, decide_eq_true_eq] at hok
    exact lv_goto hx hb hok (zO_tgt _ _ _) kk
  · simp only [Option.some.injEq, Prod.mk.injEq] at he
    obtain ⟨rfl, rfl⟩ := he
    have hok := Int.ofNat_inj.mp (of_decide_eq_true (show decide ((zpc (zB mm _) : Int) = _) = true from hok))
    simp only [zgo, hok] at kk
    exact kk
  · simp only [Option.some.injEq, Prod.mk.injEq] at he
    obtain ⟨rfl, rfl⟩ := he
    simp only [zk2] at hok
    split at hok
    · rename_i x st _ d lo hi offs len hd
      simp only [Bool.and_eq_true, decide_eq_true_eq, List.all_eq_true] at hok
      obtain ⟨⟨g1, g2⟩, g3⟩ := hok
      have hxr := zokS_head hs
      have hti : (Int32.ofInt x).toInt = x := Int32.toInt_ofInt_of_le (by have := hxr.1; omega) (by have := hxr.2; omega)
      simp only [List.map_cons, zV] at kk ⊢
      have hk : ∀ (j : Nat) (q : Int × Nat), _[j]? = some q → q.1 = lo + j := fun j q hq => by
        have hj := (List.getElem?_eq_some_iff.mp hq).1
        have := g3 j (List.mem_range.mpr hj)
        rw [hq] at this
        split at this
        · rename_i q' o' e1 e2
          cases e1
          simp only [Bool.and_eq_true, decide_eq_true_eq] at this
          exact this.1
        · cases this
      rcases zsw_tab _ lo x _ hk with ⟨q1, q2⟩ | ⟨q, q1, q2, q3, q4⟩
      · rw [q2] at kk
        exact lv_tableOut hx hb hd (by rw [hti]; omega) g1 kk
      · rw [q4] at kk
        have hj := (List.getElem?_eq_some_iff.mp q1).1
        have := g3 _ (List.mem_range.mpr hj)
        rw [q1] at this
        split at this
        · rename_i q' o' e1 e2
          cases e1
          simp only [Bool.and_eq_true, decide_eq_true_eq] at this
          exact lv_tableIn hx hb hd (by rw [hti]; omega) (by rw [hti]; omega) (by rw [hti]; exact e2) this.2 kk
        · cases this
    · cases hok
  · simp only [Option.some.injEq, Prod.mk.injEq] at he
    obtain ⟨rfl, rfl⟩ := he
    simp only [zk2] at hok
    split at hok
    · rename_i x st _ d ps len hd
      simp only [Bool.and_eq_true, decide_eq_true_eq] at hok
      obtain ⟨⟨g1, g2⟩, g3⟩ := hok
      have hxr := zokS_head hs
      have hti : (Int32.ofInt x).toInt = x := Int32.toInt_ofInt_of_le (by have := hxr.1; omega) (by have := hxr.2; omega)
      simp only [List.map_cons, zV] at kk ⊢
      exact lv_lookup hx hb hd g3 rfl (by rw [hti, g2]; exact zsw_off _ _ _ _ g1) kk
    · cases hok
  · cases he
end ZB
