/-! TEXT: the class's words -/
theorem zA49 : zisA 49 50 = true := rfl
theorem zi2c_n {x : Nat} (h : x < 65536) : zi2c (x : Int) = (x : Int) := by
  unfold zi2c
  have e : (Int32.ofInt (x : Int)).toUInt32 = UInt32.ofNat x := rfl
  have e2 : UInt32.ofNat x % 65536 = UInt32.ofNat x := UInt32.toNat_inj.mp (by
    rw [UInt32.toNat_mod, UInt32.toNat_ofNat]
    show x % 4294967296 % 65536 = x % 4294967296
    omega)
  rw [e, e2]
  exact zof (x := (x : Int)) ⟨by omega, by omega⟩
theorem zi2b_c {x c : Nat} (hx : x < 128) (hc : c < 256) : ((x : Int) = zi2b (c : Int)) ↔ x = c := by
  rw [zi2b_w, Int.bmod_def]
  by_cases h : (c : Int) % ((256 : Nat) : Int) < (((256 : Nat) : Int) + 1) / 2
  · rw [if_pos h]; omega
  · rw [if_neg h]; omega
section TEXT1
variable {H : zHp} {a : Nat} {l : List Nat} {E : Nat → Nat}
theorem e_coder (h : SA H a l) : fJString_coder a H = some (0, H) := by
  unfold fJString_coder
  rw [if_neg (by decide)]
  simp only [ysc, h.1, if_true]
  rfl
theorem e_latin (h : SA H a l) : fJString_isLatin1 a H = some (1, H) := by
  unfold fJString_isLatin1
  rw [if_neg (by decide)]
  simp only [ysc, h.1, if_true]
theorem e_strlen (h : SA H a l) : fJString_length a H = some ((l.length : Int), H) := by
  obtain ⟨h1, h2, h3, h4, h5⟩ := id h
  have t : 30 ≤ ztg H (zct H a 0).toNat ∧ ztg H (zct H a 0).toNat ≤ 41 := by omega
  have z := zshr_n (z := l.length) (by omega) (j := 0) (by omega)
  rw [Nat.pow_zero, Nat.div_one] at z
  have z' : zshr (l.length : Int) 0 = (l.length : Int) := z
  unfold fJString_length
  simp only [ysv, yln, yck, h1, if_true, t, and_self, h3, zA49, e_coder h, ybd_s, z']
set_option maxRecDepth 100000 in
theorem e_charAt (h : SA H a l) {k : Nat} (hk : k < l.length) : fJString_charAt E a (k : Int) H = some (((l.getD k 0 : Nat) : Int), H) := by
  obtain ⟨h1, h2, h3, h4, h5⟩ := id h
  obtain ⟨g1, g2⟩ := h5 k hk
  have t : 30 ≤ ztg H (zct H a 0).toNat ∧ ztg H (zct H a 0).toNat ≤ 41 := by omega
  have k0 : ¬ (k : Int) < 0 := by omega
  have k1 : (k : Int) < (l.length : Int) := by omega
  have b0 : 0 ≤ (k : Int) ∧ (k : Int) < (l.length : Int) := by omega
  have b6 : 0 ≤ ((l.getD k 0 : Nat) : Int) ∧ ((l.getD k 0 : Nat) : Int) < 65536 := by omega
  have za : zand ((l.getD k 0 : Nat) : Int) 255 = ((l.getD k 0 : Nat) : Int) := by rw [zand_255]; omega
  unfold fJString_charAt
  simp only [yck, h1, zA49, if_true, e_latin h, ybd_s, show ¬ (1 : Int) = 0 by decide, if_false, ysv]
  unfold fJStringLatin1_charAt fJString_checkIndex fJPreconditions_checkIndex
  simp only [yln, t, and_self, if_true, yjn, h3, k0, if_false, k1, ybd_s, yab, h2, b0, Int.toNat_natCast, g1, za, zi2c_n (show l.getD k 0 < 65536 by omega), yrc, b6]
theorem e_ioc (h : SA H a l) {c : Nat} (hc : c < 256) : ∀ (d f k : Nat), l.length - k = d → d < f → k ≤ l.length → (∀ j, j < k → l.getD j 0 ≠ c) → ∃ r, fJStringLatin1_indexOfChar_l1 f (zct H a 0).toNat (l.length : Int) (zi2b (c : Int)) (k : Int) H = some (r, H) ∧ ((r = -1 ∧ ∀ j, j < l.length → l.getD j 0 ≠ c) ∨ ∃ i : Nat, r = (i : Int) ∧ i < l.length ∧ l.getD i 0 = c ∧ ∀ j, j < i → l.getD j 0 ≠ c) := by
  obtain ⟨h1, h2, h3, h4, h5⟩ := id h
  intro d
  induction d with
  | zero =>
    intro f k q1 q2 q3 q4
    obtain ⟨f, rfl⟩ : ∃ f', f = f' + 1 := ⟨f - 1, by omega⟩
    obtain rfl : k = l.length := by omega
    refine ⟨-1, ?_, Or.inl ⟨rfl, q4⟩⟩
    rw [fJStringLatin1_indexOfChar_l1, if_neg (Int.lt_irrefl _)]
  | succ d ih =>
    intro f k q1 q2 q3 q4
    obtain ⟨f, rfl⟩ : ∃ f', f = f' + 1 := ⟨f - 1, by omega⟩
    have hk : k < l.length := by omega
    obtain ⟨g1, g2⟩ := h5 k hk
    have b0 : 0 ≤ (k : Int) ∧ (k : Int) < (l.length : Int) := by omega
    have ek : zadd (k : Int) 1 = ((k + 1 : Nat) : Int) := by rw [zadd_e (by omega) (by omega)]; omega
    have zb : (((l.getD k 0 : Nat) : Int) = zi2b (c : Int)) ↔ l.getD k 0 = c := zi2b_c g2 hc
    by_cases g : l.getD k 0 = c
    · refine ⟨(k : Int), ?_, Or.inr ⟨k, rfl, hk, g, q4⟩⟩
      rw [fJStringLatin1_indexOfChar_l1]
      simp only [b0.2, if_true, yab, h2, h3, b0, and_self, Int.toNat_natCast, g1, zb.mpr g]
    · have g' : ¬ ((l.getD k 0 : Nat) : Int) = zi2b (c : Int) := fun w => g (zb.mp w)
      obtain ⟨r, i1, i2⟩ := ih f (k + 1) (by omega) (by omega) (by omega) (fun j hj => by
        by_cases e : j = k
        · rw [e]; exact g
        · exact q4 j (by omega))
      refine ⟨r, ?_, i2⟩
      rw [← i1, fJStringLatin1_indexOfChar_l1]
      simp only [b0.2, if_true, yab, h2, h3, b0, and_self, Int.toNat_natCast, g1, g', if_false, yvl, ek]
theorem e_indexOf (h : SA H a l) (l0 : 0 < l.length) {c : Nat} (hc : c < 256) : ∃ r, fJString_indexOfq a (c : Int) H = some (r, H) ∧ ((r = -1 ∧ ∀ j, j < l.length → l.getD j 0 ≠ c) ∨ ∃ i : Nat, r = (i : Int) ∧ i < l.length ∧ l.getD i 0 = c ∧ ∀ j, j < i → l.getD j 0 ≠ c) := by
  obtain ⟨h1, h2, h3, h4, h5⟩ := id h
  have t : 30 ≤ ztg H (zct H a 0).toNat ∧ ztg H (zct H a 0).toNat ≤ 41 := by omega
  have c0 : ¬ (c : Int) < 0 := by omega
  have c1 : ¬ 255 < (c : Int) := by omega
  have m0 : zmax 0 0 = 0 := rfl
  have m1 : zmin (l.length : Int) (l.length : Int) = (l.length : Int) := by unfold zmin; rw [if_neg (Int.lt_irrefl _)]
  have m2 : (0 : Int) < (l.length : Int) := by omega
  obtain ⟨r, r1, r2⟩ := e_ioc h hc l.length zFU 0 (by omega) (by rw [zFU_e]; omega) (Nat.zero_le _) (fun j hj => absurd hj (by omega))
  have r1' : fJStringLatin1_indexOfChar_l1 zFU (zct H a 0).toNat (l.length : Int) (zi2b (c : Int)) 0 H = some (r, H) := r1
  refine ⟨r, ?_, r2⟩
  unfold fJString_indexOfq fJString_indexOf fJStringLatin1_indexOf fJStringLatin1_canEncode fJStringLatin1_indexOfChar
  simp only [yck, h1, zA49, if_true, e_latin h, ybd_s, show ¬ (1 : Int) = 0 by decide, if_false, ysv, e_strlen h, c0, c1, yvl, m0, yln, t, and_self, h3, m1, m2, r1']
end TEXT1
