/-! BITS; tapes made anew and shifted; the text; asks -/
theorem zand_m (x : Int) {k : Nat} (hk : k ≤ 30) : zand x ((2 ^ k - 1 : Nat) : Int) = x % ((2 ^ k : Nat) : Int) := by
  have hp : 2 ^ k ≤ 2 ^ 30 := Nat.pow_le_pow_right (by omega) hk
  have hp0 : 0 < 2 ^ k := Nat.pow_pos (by omega)
  have hp30 : (2 : Nat) ^ 30 = 1073741824 := rfl
  have e : (Int32.ofInt x &&& Int32.ofInt ((2 ^ k - 1 : Nat) : Int)).toBitVec = BitVec.ofInt 32 x &&& BitVec.ofInt 32 ((2 ^ k - 1 : Nat) : Int) := rfl
  have h2 : (BitVec.ofInt 32 ((2 ^ k - 1 : Nat) : Int)).toNat = 2 ^ k - 1 := by
    rw [BitVec.toNat_ofInt]
    omega
  have h3 : (BitVec.ofInt 32 x &&& BitVec.ofInt 32 ((2 ^ k - 1 : Nat) : Int)).toNat = (x % 4294967296).toNat % 2 ^ k := by
    rw [BitVec.toNat_and, h2, BitVec.toNat_ofInt, Nat.and_two_pow_sub_one_eq_mod]
    rfl
  have h4 : (x % 4294967296).toNat % 2 ^ k < 2 ^ k := Nat.mod_lt _ hp0
  unfold zand
  rw [← Int32.toInt_toBitVec, e, BitVec.toInt_eq_toNat_of_lt (by rw [h3]; omega), h3, Int.natCast_emod, Int.toNat_of_nonneg (Int.emod_nonneg _ (by omega)), Int.emod_emod_of_dvd]
  refine ⟨((2 ^ (32 - k) : Nat) : Int), ?_⟩
  rw [← Int.natCast_mul, ← Nat.pow_add, show k + (32 - k) = 32 by omega]
  rfl
theorem zand_255 (x : Int) : zand x 255 = x % 256 := zand_m x (k := 8) (by omega)
theorem zand_63 (x : Int) : zand x 63 = x % 64 := zand_m x (k := 6) (by omega)
theorem zand_1 (x : Int) : zand x 1 = x % 2 := zand_m x (k := 1) (by omega)
theorem zi2b_w (x : Int) : zi2b x = x.bmod 256 := by
  unfold zi2b
  rw [Int8.toInt_toInt32, Int32.toInt_toInt8, Int32.toInt_ofInt]
  exact Int.bmod_bmod_of_dvd (by decide)
theorem zi2b_r (x : Int) : -128 ≤ zi2b x ∧ zi2b x < 128 := by
  rw [zi2b_w]
  have h1 := Int.le_bmod (x := x) (m := 256) (by omega)
  have h2 := Int.bmod_lt (x := x) (m := 256) (by omega)
  omega
theorem zi2b_i (x : Int) : zi2b (zi2b x) = zi2b x := by
  rw [zi2b_w, zi2b_w, Int.bmod_bmod]
theorem zi2b_m (x : Int) : zi2b x % 256 = x % 256 := by
  rw [zi2b_w]
  exact Int.bmod_emod
theorem zst.fil {H H1 : zHp} (h : zst H H1) (r i n : Nat) (v : Int) : zst H (zfil H1 r i n v) := h.tr ⟨Nat.le_refl _, Nat.le_refl _, fun _ _ => ⟨rfl, rfl⟩⟩
theorem zcx_fil {X o i n : Nat} {v : Int} {H : zHp} : zcx X (zfil H (X + o) i n v) = zuf (zcx X H) o i n v := funext fun o' => funext fun k => by
  show (if X + o' = X + o ∧ i ≤ k ∧ k < n then v else zct H (X + o') k) = if o' = o ∧ i ≤ k ∧ k < n then v else zct H (X + o') k
  by_cases e : o' = o
  · subst e; simp
  · rw [if_neg (by omega), if_neg (fun q => e q.1)]
theorem zfx.fil {X : Nat} {gs : List Nat} {H H1 : zHp} (h : zfx X gs H H1) {o i n : Nat} {v : Int} (ho : ∀ k, gs.contains (xg o k) = true) : zfx X gs H (zfil H1 (X + o) i n v) := h.tr fun o' k' h1 h2 => by
  rw [zct_fil, if_neg]
  rintro ⟨e1, e2⟩
  rw [show o' = o by omega, ho] at h2
  cases h2
theorem zfd.fil {X : Nat} {P : Nat → Prop} {H H1 : zHp} (h : zfd X P H H1) {o i n : Nat} {v : Int} (ho : o ≤ 36) : zfd X P H (zfil H1 (X + o) i n v) := fun q h1 h2 h3 k' => by
  rw [zct_fil, if_neg (by omega)]
  exact h q h1 h2 h3 k'
theorem zfs.uf {gs : List Nat} {s s1 : zSg} (h : zfs gs s s1) {k i n : Nat} {v : Int} (hk : k ≠ 0) (ho : gs.contains (rgs.getD k 99) = true) : zfs gs s (zuf s1 k i n v) := fun k' j' h2 => by
  unfold zuf
  rw [if_neg]
  · exact h k' j' h2
  · rintro ⟨rfl, -⟩
    unfold rg at h2
    rw [if_neg hk, ho] at h2
    cases h2
theorem zfs.uF {gs : List Nat} {s s1 : zSg} (h : zfs gs s s1) {k i n : Nat} {f : Nat → Int} (hk : k ≠ 0) (ho : gs.contains (rgs.getD k 99) = true) : zfs gs s (zuF s1 k i n f) := fun k' j' h2 => by
  unfold zuF
  rw [if_neg]
  · exact h k' j' h2
  · rintro ⟨rfl, -⟩
    unfold rg at h2
    rw [if_neg hk, ho] at h2
    cases h2
theorem m_tape_l {t : Nat} (ht : t < 6) : ∀ (m f k : Nat) (s : zSg), 60 * t + 60 - k = m → m < f → 60 * t ≤ k → k ≤ 60 * t + 60 → gM_tape_l7 f (t : Int) (k : Int) s = some (1, zuf s 80 k (60 * t + 60) 0) := by
  intro m
  induction m with
  | zero =>
    intro f k s hm hf h1 h2
    obtain ⟨f, rfl⟩ : ∃ f', f = f' + 1 := ⟨f - 1, by omega⟩
    unfold gM_tape_l7
    rw [zmul_e (by omega) (by omega), zadd_e (by omega) (by omega), if_neg (by omega), zuf_0 (by omega)]
  | succ m ih =>
    intro f k s hm hf h1 h2
    obtain ⟨f, rfl⟩ : ∃ f', f = f' + 1 := ⟨f - 1, by omega⟩
    unfold gM_tape_l7 ywi yvl
    rw [zmul_e (by omega) (by omega), zadd_e (by omega) (by omega), if_pos (by omega), if_pos (by omega), zadd_e (by omega) (by omega), show (k : Int) + 1 = ((k + 1 : Nat) : Int) by omega]
    dsimp only
    rw [ih f (k + 1) (zup s 80 ((k : Int)).toNat 0) (by omega) (by omega) (by omega) (by omega), Int.toNat_natCast, zuf_s (by omega)]
section FEED
variable {X : Nat} {H : zHp} {s : zSg} {A : Nat → Nat} {B : Nat → Nat → Nat} {K : Nat → Nat} {ow : Nat → Nat × Nat}
theorem G7.new {c : Nat → Nat → Int} (q : G7 c s) {t : Nat} {so sz : Int} (ht : t < 6) (h1 : -1 ≤ so ∧ so ≤ 3) (h2 : 0 ≤ sz ∧ sz ≤ 60) (h3 : so = -1 → sz = 0) : G7 (zuf (zup (zup c 34 t so) 35 t sz) (28 + t) 0 60 0) (zuf (zup (zup s 78 t so) 79 t sz) 80 (60 * t) (60 * t + 60) 0) := by
  intro u hu
  obtain ⟨⟨a1, a2, a3⟩, ⟨g1, g2⟩, g5⟩ := q u hu
  have c34 : zuf (zup (zup c 34 t so) 35 t sz) (28 + t) 0 60 0 34 u = if u = t then so else c 34 u := by
    unfold zuf zup
    rw [if_neg (by omega), if_neg (by omega)]
    by_cases e : u = t <;> simp [e]
  have c35 : zuf (zup (zup c 34 t so) 35 t sz) (28 + t) 0 60 0 35 u = if u = t then sz else c 35 u := by
    unfold zuf zup
    rw [if_neg (by omega)]
    by_cases e : u = t <;> simp [e]
  have e78 : zuf (zup (zup s 78 t so) 79 t sz) 80 (60 * t) (60 * t + 60) 0 78 u = if u = t then so else s 78 u := by
    unfold zuf zup
    rw [if_neg (by omega), if_neg (by omega)]
    by_cases e : u = t <;> simp [e]
  have e79 : zuf (zup (zup s 78 t so) 79 t sz) 80 (60 * t) (60 * t + 60) 0 79 u = if u = t then sz else s 79 u := by
    unfold zuf zup
    rw [if_neg (by omega)]
    by_cases e : u = t <;> simp [e]
  rw [c34, c35, e78, e79]
  by_cases e : u = t
  · subst e
    rw [if_pos rfl, if_pos rfl, if_pos rfl, if_pos rfl]
    refine ⟨⟨rfl, h1.1, h1.2⟩, ⟨rfl, h2.1, h2.2, h3⟩, fun j hj => ?_⟩
    have k1 : zuf (zup (zup c 34 u so) 35 u sz) (28 + u) 0 60 0 (28 + u) j = 0 := by unfold zuf; rw [if_pos (by omega)]
    have k2 : zuf (zup (zup s 78 u so) 79 u sz) 80 (60 * u) (60 * u + 60) 0 80 (60 * u + j) = 0 := by unfold zuf; rw [if_pos (by omega)]
    rw [k1, k2]
    exact ⟨rfl, ⟨by omega, by omega⟩, fun _ => by omega⟩
  · rw [if_neg e, if_neg e, if_neg e, if_neg e]
    refine ⟨⟨a1, a2, a3⟩, ⟨g1, g2⟩, fun j hj => ?_⟩
    have k1 : zuf (zup (zup c 34 t so) 35 t sz) (28 + t) 0 60 0 (28 + u) j = c (28 + u) j := by unfold zuf zup; rw [if_neg (by omega), if_neg (by omega), if_neg (by omega)]
    have k2 : zuf (zup (zup s 78 t so) 79 t sz) 80 (60 * t) (60 * t + 60) 0 80 (60 * u + j) = s 80 (60 * u + j) := by unfold zuf zup; rw [if_neg (by omega), if_neg (by omega), if_neg (by omega)]
    rw [k1, k2]
    exact g5 j hj
theorem k_tape (I : IV X H s A B K ow) {t so n : Int} : wX (fH_tape X t so n H) fun v H' => wX (gM_tape t so n s) fun w s' => w = v ∧ KD X H H' s' := by
  have F := I.1
  have q := I.2.1.2.2.2.2.2.2.1
  unfold fH_tape gM_tape
  simp only [wX_s, wX_bd, wX_vl, wX_jn, wX_ite, wX_dv, wX_n0, wX_rb, wX_rc, wX_ry, wX_gi, wX_gr, wX_pi, wX_pz, wX_pr, wX_ai, wX_ab, wX_ar, wX_si, wX_sz, wX_sb, wX_sr, wX_ln, wX_nw, wX_na, wX_nm, wX_io, wX_ck, wX_cp, wX_cl, wX_ca, wX_sv, wX_sc, wX_rd, wX_wi, wX_wz, wX_wb, e_isTape, m_isTape, e_within, e_in, i01, ft0 F, fp0_15 F, fp0_16 F, fp0_17 F, ft27 F, fl27 F, ft34 F, fl34 F, zA10, true_and, ztg_wr, zln_wr]
  by_cases ht : 0 ≤ t ∧ t ≤ 5
  · have key : ∀ so sz : Int, -1 ≤ so ∧ so ≤ 3 → 0 ≤ sz ∧ sz ≤ 60 → (so = -1 → sz = 0) → KD X H (zfil (zwr (zwr H (X + 34) t.toNat so) (X + 35) t.toNat sz) (X + (28 + t.toNat)) 0 60 0) (zuf (zup (zup s 78 t.toNat so) 79 t.toNat sz) 80 (60 * t.toNat) (60 * t.toNat + 60) 0) := fun so sz h1 h2 h3 => by
      refine KD.fx (gs := [7]) I (((zst.rf.wr _ _ _).wr _ _ _).fil _ _ _ _) rfl rfl (((zfx.rf.wr rfl).wr rfl).fil (fun k => by rw [xg7 _ (by omega)]; rfl)) (((zfd.rf.wr (by omega)).wr (by omega)).fil (by omega)) (((zfs.rf.up (by decide) rfl).up (by decide) rfl).uf (by decide) rfl) rfl rfl rfl rfl (Int.le_refl _) (Or.inl rfl) (Or.inl rfl) (Or.inl rfl) (Or.inl rfl) (Or.inr ?_) (Or.inl rfl) (Or.inl rfl)
      rw [zcx_fil, zcx_wr, zcx_wr]
      exact q.new (by omega) h1 h2 h3
    have fl : ∀ so sz : Int, fJArrays_fill (X + (28 + t.toNat)) 0 (zwr (zwr H (X + 34) t.toNat so) (X + 35) t.toNat sz) = some ((), zfil (zwr (zwr H (X + 34) t.toNat so) (X + 35) t.toNat sz) (X + (28 + t.toNat)) 0 60 0) := fun so sz => e_fill (by omega) (ft28v F (by omega)).1 (ft28v F (by omega)).2
    have lp : ∀ s' : zSg, gM_tape_l7 zFU t (zmul 60 t) s' = some (1, zuf s' 80 (60 * t.toNat) (60 * t.toNat + 60) 0) := fun s' => by
      have := m_tape_l (t := t.toNat) (by omega) _ zFU (60 * t.toNat) s' rfl (by rw [zFU_e]; omega) (by omega) (by omega)
      rw [zmul_e (by omega) (by omega), show 60 * t = ((60 * t.toNat : Nat) : Int) by omega]
      rw [show ((t.toNat : Nat) : Int) = t by omega] at this
      exact this
    have f1 : ∀ so : Int, (zct (zwr H (X + 34) t.toNat so) X 17).toNat = X + 35 := fun so => by rw [zct_wr, if_neg (by omega)]; exact fp0_17 F
    have f2 : ∀ so sz : Int, (zct (zwr (zwr H (X + 34) t.toNat so) (X + 35) t.toNat sz) X 15).toNat = X + 27 := fun so sz => by rw [zct_wr, if_neg (by omega), zct_wr, if_neg (by omega)]; exact fp0_15 F
    have f3 : ∀ so sz : Int, (zct (zwr (zwr H (X + 34) t.toNat so) (X + 35) t.toNat sz) (X + 27) t.toNat).toNat = X + (28 + t.toNat) := fun so sz => by rw [zct_wr, if_neg (by omega), zct_wr, if_neg (by omega)]; exact fp27 F (by omega)
    simp only [ht, and_self, not_true, if_false, f1, f2, f3, fl, lp, ft35 F, fl35 F, ft27 F, fl27 F, true_and, wX_s]
    by_cases h1 : -1 ≤ so ∧ so ≤ 3
    · simp only [h1, and_self, not_true, if_false]
      by_cases h2 : so = -1
      · simp only [h2, if_true, show (-1 : Int) < 0 by omega]
        (repeat first | exact (key _ _ ⟨by omega, by omega⟩ ⟨by omega, by omega⟩ (fun _ => rfl)) | refine ⟨by omega, ?_⟩)
      · simp only [h2, if_false, show ¬ so < 0 by omega]
        by_cases h3 : 60 < n
        · simp only [h3, if_true]
          (first | exact KD.rf I | exact ⟨trivial, KD.rf I⟩ | exact ⟨rfl, KD.rf I⟩)
        · simp only [h3, if_false]
          by_cases h4 : n < 0
          · simp only [h4, if_true]
            (first | exact KD.rf I | exact ⟨trivial, KD.rf I⟩ | exact ⟨rfl, KD.rf I⟩)
          · simp only [h4, if_false]
            (repeat first | exact (key _ _ h1 ⟨by omega, by omega⟩ (fun w => absurd w h2)) | refine ⟨by omega, ?_⟩)
    · simp only [h1, not_false_iff, if_true]
      (first | exact KD.rf I | exact ⟨trivial, KD.rf I⟩ | exact ⟨rfl, KD.rf I⟩)
  · simp only [ht, not_false_iff, if_true]
    (first | exact KD.rf I | exact ⟨trivial, KD.rf I⟩ | exact ⟨rfl, KD.rf I⟩)
end FEED
