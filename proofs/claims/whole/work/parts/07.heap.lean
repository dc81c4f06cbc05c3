def zTg (b0 : Nat) (h : zHp) (a : Nat) : Prop := ztg h a = 0 ∨ (((1 ≤ ztg h a ∧ ztg h a ≤ 12) ∨ (30 ≤ ztg h a ∧ ztg h a ≤ 37)) ∧ b0 < a ∧ a ≤ znx h) ∨ ((ztg h a = 40 ∨ ztg h a = 41 ∨ ztg h a = 50) ∧ 0 < a ∧ a ≤ b0)
def zinv (b0 : Nat) (h : zHp) : Prop := b0 ≤ znx h ∧ (∀ a, zTg b0 h a) ∧ (∀ a k, zis (ztg h a) k = true → zR32 (zct h a k)) ∧ ∀ a, zln h a ≤ 100000
def zgood (h h' : zHp) : Prop := znx h ≤ znx h' ∧ zus h ≤ zus h' ∧ ∀ a, (40 ≤ ztg h a ∨ 40 ≤ ztg h' a) → ztg h' a = ztg h a ∧ zln h' a = zln h a ∧ ∀ k, zct h' a k = zct h a k
theorem zgood_rf (h : zHp) : zgood h h := ⟨Nat.le_refl _, Nat.le_refl _, fun _ _ => ⟨rfl, rfl, fun _ => rfl⟩⟩
theorem zgood_tr {h1 h2 h3 : zHp} (a : zgood h1 h2) (b : zgood h2 h3) : zgood h1 h3 := by
  refine ⟨Nat.le_trans a.1 b.1, Nat.le_trans a.2.1 b.2.1, fun q hq => ?_⟩
  rcases hq with hq | hq
  · obtain ⟨e1, e2, e3⟩ := a.2.2 q (Or.inl hq)
    obtain ⟨f1, f2, f3⟩ := b.2.2 q (Or.inl (by rw [e1]; exact hq))
    exact ⟨f1.trans e1, f2.trans e2, fun k => (f3 k).trans (e3 k)⟩
  · obtain ⟨f1, f2, f3⟩ := b.2.2 q (Or.inr hq)
    obtain ⟨e1, e2, e3⟩ := a.2.2 q (Or.inr (by rw [← f1]; exact hq))
    exact ⟨f1.trans e1, f2.trans e2, fun k => (f3 k).trans (e3 k)⟩
theorem ztg_wr (h : zHp) (a k : Nat) (v : Int) (q : Nat) : ztg (zwr h a k v) q = ztg h q := rfl
theorem zln_wr (h : zHp) (a k : Nat) (v : Int) (q : Nat) : zln (zwr h a k v) q = zln h q := rfl
theorem znx_wr (h : zHp) (a k : Nat) (v : Int) : znx (zwr h a k v) = znx h := rfl
theorem zus_wr (h : zHp) (a k : Nat) (v : Int) : zus (zwr h a k v) = zus h := rfl
theorem zct_wr (h : zHp) (a k : Nat) (v : Int) (q j : Nat) : zct (zwr h a k v) q j = if q = a ∧ j = k then v else zct h q j := rfl
theorem ztg_al (h : zHp) (t n : Nat) (f : Nat → Int) (q : Nat) : ztg (zal h t n f) q = if q = znx h + 1 then t else ztg h q := rfl
theorem zln_al (h : zHp) (t n : Nat) (f : Nat → Int) (q : Nat) : zln (zal h t n f) q = if q = znx h + 1 then n else zln h q := rfl
theorem zct_al (h : zHp) (t n : Nat) (f : Nat → Int) (q k : Nat) : zct (zal h t n f) q k = if q = znx h + 1 then f k else zct h q k := rfl
theorem znx_al (h : zHp) (t n : Nat) (f : Nat → Int) : znx (zal h t n f) = znx h + 1 := rfl
theorem zus_al (h : zHp) (t n : Nat) (f : Nat → Int) : zus (zal h t n f) = zus h + n := rfl
theorem ztg_cp (h : zHp) (a sp b dp n : Nat) (q : Nat) : ztg (zcp h a sp b dp n) q = ztg h q := rfl
theorem zln_cp (h : zHp) (a sp b dp n : Nat) (q : Nat) : zln (zcp h a sp b dp n) q = zln h q := rfl
theorem zct_cp (h : zHp) (a sp b dp n : Nat) (q k : Nat) : zct (zcp h a sp b dp n) q k = if q = b ∧ dp ≤ k ∧ k < dp + n then zct h a (sp + (k - dp)) else zct h q k := rfl
theorem znx_cp (h : zHp) (a sp b dp n : Nat) : znx (zcp h a sp b dp n) = znx h := rfl
theorem zus_cp (h : zHp) (a sp b dp n : Nat) : zus (zcp h a sp b dp n) = zus h := rfl
theorem zwr_ok {b0 : Nat} {h : zHp} {r k : Nat} {v : Int} (hi : zinv b0 h) (ht : ztg h r < 40) (hv : zis (ztg h r) k = true → zR32 v) : zinv b0 (zwr h r k v) ∧ zgood h (zwr h r k v) := by
  obtain ⟨h1, h2, h3, h4⟩ := hi
  refine ⟨⟨h1, h2, fun a j hz => ?_, h4⟩, Nat.le_refl _, Nat.le_refl _, fun a ha => ⟨rfl, rfl, fun j => ?_⟩⟩
  · rw [zct_wr]
    rw [ztg_wr] at hz
    split
    · rename_i e
      obtain ⟨rfl, rfl⟩ := e
      exact hv hz
    · exact h3 a j hz
  · rw [zct_wr, if_neg]
    rintro ⟨rfl, -⟩
    rw [ztg_wr] at ha
    omega
theorem zal_ok {b0 : Nat} {h : zHp} {t n : Nat} {f : Nat → Int} (hi : zinv b0 h) (ht : (1 ≤ t ∧ t ≤ 12) ∨ (30 ≤ t ∧ t ≤ 37)) (hn : n ≤ 100000) (hf : ∀ k, zis t k = true → zR32 (f k)) : zinv b0 (zal h t n f) ∧ zgood h (zal h t n f) := by
  obtain ⟨h1, h2, h3, h4⟩ := hi
  have h0 : ztg h (znx h + 1) = 0 := by
    rcases h2 (znx h + 1) with e | e | e
    · exact e
    · omega
    · omega
  refine ⟨⟨by rw [znx_al]; omega, fun a => ?_, fun a j hz => ?_, fun a => ?_⟩, by rw [znx_al]; omega, by rw [zus_al]; omega, fun a ha => ?_⟩
  · unfold zTg
    rw [ztg_al, znx_al]
    by_cases e : a = znx h + 1
    · rw [if_pos e]
      exact Or.inr (Or.inl ⟨ht, by omega, by omega⟩)
    · rw [if_neg e]
      rcases h2 a with q | q | q
      · exact Or.inl q
      · exact Or.inr (Or.inl ⟨q.1, q.2.1, by omega⟩)
      · exact Or.inr (Or.inr q)
  · rw [zct_al]
    rw [ztg_al] at hz
    by_cases e : a = znx h + 1
    · rw [if_pos e]
      rw [if_pos e] at hz
      exact hf j hz
    · rw [if_neg e]
      rw [if_neg e] at hz
      exact h3 a j hz
  · rw [zln_al]
    split
    · exact hn
    · exact h4 a
  · have e : a ≠ znx h + 1 := by
      rintro rfl
      rw [ztg_al, if_pos rfl, h0] at ha
      omega
    refine ⟨?_, ?_, fun k => ?_⟩
    · rw [ztg_al, if_neg e]
    · rw [zln_al, if_neg e]
    · rw [zct_al, if_neg e]
theorem zcp_ok {b0 : Nat} {h : zHp} {a sp b dp n : Nat} (hi : zinv b0 h) (ha : ztg h a = 30) (hb : ztg h b = 30) : zinv b0 (zcp h a sp b dp n) ∧ zgood h (zcp h a sp b dp n) := by
  obtain ⟨h1, h2, h3, h4⟩ := hi
  refine ⟨⟨h1, h2, fun q j hz => ?_, h4⟩, Nat.le_refl _, Nat.le_refl _, fun q hq => ⟨rfl, rfl, fun j => ?_⟩⟩
  · rw [zct_cp]
    split
    · exact h3 a _ (by rw [ha]; rfl)
    · exact h3 q j hz
  · rw [zct_cp, if_neg]
    rintro ⟨rfl, -⟩
    rw [ztg_cp] at hq
    omega
theorem zfold_ok {b0 n : Nat} (hn : n ≤ 100000) : ∀ (l : List Nat) (h : zHp), zinv b0 h → zinv b0 (l.foldl (fun g _ => zal g 30 n (fun _ => 0)) h) ∧ zgood h (l.foldl (fun g _ => zal g 30 n (fun _ => 0)) h)
  | [], h, hi => ⟨hi, zgood_rf h⟩
  | _ :: l, h, hi => by
    obtain ⟨a1, a2⟩ := zal_ok (t := 30) (n := n) (f := fun _ => 0) hi (Or.inr ⟨by omega, by omega⟩) hn (fun _ _ => ⟨by omega, by omega⟩)
    obtain ⟨b1, b2⟩ := zfold_ok hn l _ a1
    exact ⟨b1, zgood_tr a2 b2⟩
theorem zisA_lt {c t : Nat} (hc : c < 12 ∨ c = 20) (h : zisA c t = true) : t < 13 := by
  have := zgrp_of h
  unfold zgrp at this
  split at this
  · simp only [List.mem_cons, List.not_mem_nil, or_false] at this
    omega
  · simp only [List.mem_cons, List.not_mem_nil, or_false] at this
    omega
/-- which kinds of cells an instruction names -/
def zsd (i : zMI) : Bool := match i with
  | (60, _, c, _, _, _) => decide (c < 12) || c == 20
  | (61, _, c, _, _, _) => decide (c < 12) || c == 20
  | (62, _, c, _, _, _) => decide (c < 12) || c == 20
  | (63, _, c, _, _, _) => decide (c < 12) || c == 20
  | (64, _, c, _, _, _) => decide (c < 12) || c == 20
  | (78, _, c, _, _, _) => decide (c < 12) || c == 20
  | _ => true
theorem zsd_of {c : Nat} (h : (decide (c < 12) || c == 20) = true) : c < 12 ∨ c = 20 := by
  simpa using h
theorem zis_ref {t k : Nat} (h : 33 ≤ t) (h2 : t ≤ 37) : zis t k = false := by
  unfold zis
  rw [if_neg (by omega)]
  have a1 : ¬ t = 30 := by omega
  have a2 : ¬ t = 31 := by omega
  have a3 : ¬ t = 32 := by omega
  have a4 : ¬ t = 40 := by omega
  have a5 : ¬ t = 41 := by omega
  simp [a1, a2, a3, a4, a5]
theorem zmay_of {t u : Nat} (h : zmay t u = true) : 33 ≤ t ∧ t ≤ 36 := by
  unfold zmay at h
  simp only [Bool.or_eq_true, Bool.and_eq_true, beq_iff_eq] at h
  omega
theorem zr_byte (v : Int) : zR32 (zi2b v) := zr_i _
set_option maxHeartbeats 4000000 in
theorem zhp_ok {E : Nat → Nat} {b0 : Nat} {i : zMI} {st st' : List zAV} {h h' : zHp} (hc : zsc i = true) (hd : zsd i = true) (hs : zokS st) (hi : zinv b0 h) (e : zhp E i st h = some (st', h')) : zokS st' ∧ zinv b0 h' ∧ zgood h h' := by
  have hI := hi
  obtain ⟨h1, h2, h3, h4⟩ := hi
  unfold zhp at e
  split at e <;> (try (split at e)) <;> simp only [Option.some.injEq, Prod.mk.injEq, reduceCtorEq] at e <;> obtain ⟨rfl, rfl⟩ := e
  · rename_i g
    exact ⟨zokS_cons (h3 _ _ (List.all_eq_true.mp hc _ (zgrp_of g))) (zokS_tail hs), hI, zgood_rf _⟩
  · exact ⟨zokS_cons trivial (zokS_tail hs), hI, zgood_rf _⟩
  · rename_i g
    have := zisA_lt (zsd_of hd) g
    exact ⟨zokS_tail (zokS_tail hs), zwr_ok hI (by omega) (fun _ => zokS_head hs)⟩
  · rename_i g
    have := zisA_lt (zsd_of hd) g.1
    exact ⟨zokS_tail (zokS_tail hs), zwr_ok hI (by omega) (fun _ => zokS_head hs)⟩
  · rename_i g
    have := zisA_lt (zsd_of hd) g
    have q := List.all_eq_true.mp hc _ (zgrp_of g)
    exact ⟨zokS_tail (zokS_tail hs), zwr_ok hI (by omega) (fun z => by rw [z] at q; cases q)⟩
  · rename_i g
    exact ⟨zokS_cons (h3 _ _ (by rcases g.1 with z | z <;> rw [z] <;> rfl)) (zokS_tail (zokS_tail hs)), hI, zgood_rf _⟩
  · rename_i g
    exact ⟨zokS_cons (h3 _ _ (by rcases g.1 with z | z | z <;> rw [z] <;> rfl)) (zokS_tail (zokS_tail hs)), hI, zgood_rf _⟩
  · exact ⟨zokS_cons trivial (zokS_tail (zokS_tail hs)), hI, zgood_rf _⟩
  · rename_i g
    exact ⟨zokS_tail (zokS_tail (zokS_tail hs)), zwr_ok hI (by omega) (fun _ => zokS_head hs)⟩
  · rename_i g
    exact ⟨zokS_tail (zokS_tail (zokS_tail hs)), zwr_ok hI (by omega) (fun _ => zokS_head hs)⟩
  · rename_i g
    exact ⟨zokS_tail (zokS_tail (zokS_tail hs)), zwr_ok hI (by omega) (fun _ => zr_byte _)⟩
  · rename_i g
    obtain ⟨g1, g2⟩ := zmay_of g.1
    exact ⟨zokS_tail (zokS_tail (zokS_tail hs)), zwr_ok hI (by omega) (fun z => by rw [zis_ref g1 (by omega)] at z; cases z)⟩
  · rename_i r _ g
    have := h4 r
    exact ⟨zokS_cons (show zR32 _ from ⟨by omega, by omega⟩) (zokS_tail hs), hI, zgood_rf _⟩
  · simp only [zsc, Bool.and_eq_true, decide_eq_true_eq] at hc
    refine ⟨zokS_cons trivial hs, zal_ok hI (Or.inl ⟨by omega, by omega⟩) hc.2 (fun _ _ => ⟨by omega, by omega⟩)⟩
  · rename_i g
    simp only [zsc, Bool.or_eq_true, beq_iff_eq] at hc
    exact ⟨zokS_cons trivial (zokS_tail hs), zal_ok hI (Or.inr ⟨by omega, by omega⟩) (by omega) (fun _ _ => ⟨by omega, by omega⟩)⟩
  · rename_i g
    simp only [zsc, Bool.or_eq_true, beq_iff_eq] at hc
    exact ⟨zokS_cons trivial (zokS_tail hs), zal_ok hI (Or.inr ⟨by omega, by omega⟩) (by omega) (fun _ _ => ⟨by omega, by omega⟩)⟩
  · refine ⟨zokS_cons (show zR32 _ from ?_) (zokS_tail hs), hI, zgood_rf _⟩
    split <;> exact ⟨by omega, by omega⟩
  · exact ⟨hs, hI, zgood_rf _⟩
  · exact ⟨zokS_cons (zq32_of hc) hs, hI, zgood_rf _⟩
  · exact ⟨zokS_cons trivial hs, hI, zgood_rf _⟩
  · exact ⟨zokS_cons trivial hs, hI, zgood_rf _⟩
  · exact ⟨zokS_tail hs, hI, zgood_rf _⟩
  · rename_i g
    exact ⟨zokS_tail (zokS_tail (zokS_tail (zokS_tail (zokS_tail hs)))), zcp_ok hI g.1 g.2.1⟩
  · rename_i r _ g
    exact ⟨zokS_cons trivial (zokS_tail hs), zal_ok hI (Or.inr ⟨by omega, by omega⟩) (h4 _) (fun k _ => h3 r k (by rw [g.1]; rfl))⟩
  · exact ⟨hs, hI, zgood_rf _⟩
  · exact ⟨zokS_cons trivial (zokS_tail hs), hI, zgood_rf _⟩
  · exact ⟨zokS_cons (show zR32 0 from ⟨by omega, by omega⟩) (zokS_tail hs), hI, zgood_rf _⟩
  · rename_i kk nn _ g
    refine ⟨zokS_cons trivial (zokS_tail (zokS_tail hs)), ?_⟩
    have a := zal_ok (t := 37) (n := nn.toNat) (f := fun j => if j < nn.toNat then ((znx h + 2 + j : Nat) : Int) else 0) hI (Or.inr ⟨by omega, by omega⟩) (by omega) (fun k z => by rw [zis_ref (by omega) (by omega)] at z; cases z)
    have b := zfold_ok (n := kk.toNat) (by omega) (List.range nn.toNat) _ a.1
    exact ⟨b.1, zgood_tr a.2 b.2⟩
