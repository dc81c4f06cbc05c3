/-! THE LAW: the whole loop -/
section LAWALL
variable {X a0 N i : Nat} {H : zHp} {E : Nat → Nat}
theorem law_no (L : LI X H E a0 N) (h : i + 8 ≤ N) (hN : N ≤ 4096) (h0 : ¬ zand (zct H a0 i) 63 = 0) (h1 : ¬ zand (zct H a0 i) 63 = 1) (h2 : ¬ zand (zct H a0 i) 63 = 2) (h3 : ¬ zand (zct H a0 i) 63 = 3) (h4 : ¬ zand (zct H a0 i) 63 = 4) (h5 : ¬ zand (zct H a0 i) 63 = 5) (h6 : ¬ zand (zct H a0 i) 63 = 6) (h7 : ¬ zand (zct H a0 i) 63 = 7) (h8 : ¬ zand (zct H a0 i) 63 = 8) (h9 : ¬ zand (zct H a0 i) 63 = 9) (h10 : ¬ zand (zct H a0 i) 63 = 10) (h11 : ¬ zand (zct H a0 i) 63 = 11) (h12 : ¬ zand (zct H a0 i) 63 = 12) (h13 : ¬ zand (zct H a0 i) 63 = 13) (h14 : ¬ zand (zct H a0 i) 63 = 14) (h15 : ¬ zand (zct H a0 i) 63 = 15) (h16 : ¬ zand (zct H a0 i) 63 = 16) (h17 : ¬ zand (zct H a0 i) 63 = 17) (h18 : ¬ zand (zct H a0 i) 63 = 18) (h19 : ¬ zand (zct H a0 i) 63 = 19) (h20 : ¬ zand (zct H a0 i) 63 = 20) (h21 : ¬ zand (zct H a0 i) 63 = 21) (h22 : ¬ zand (zct H a0 i) 63 = 22) (h23 : ¬ zand (zct H a0 i) 63 = 23) (h24 : ¬ zand (zct H a0 i) 63 = 24) (h25 : ¬ zand (zct H a0 i) 63 = 25) (h26 : ¬ zand (zct H a0 i) 63 = 26) (h27 : ¬ zand (zct H a0 i) 63 = 27) (h28 : ¬ zand (zct H a0 i) 63 = 28) (h29 : ¬ zand (zct H a0 i) 63 = 29) (h30 : ¬ zand (zct H a0 i) 63 = 30) (h31 : ¬ zand (zct H a0 i) 63 = 31) (h32 : ¬ zand (zct H a0 i) 63 = 32) (h33 : ¬ zand (zct H a0 i) 63 = 33) (h34 : ¬ zand (zct H a0 i) 63 = 34) (h35 : ¬ zand (zct H a0 i) 63 = 35) (h36 : ¬ zand (zct H a0 i) 63 = 36) (h37 : ¬ zand (zct H a0 i) 63 = 37) (h38 : ¬ zand (zct H a0 i) 63 = 38) (h39 : ¬ zand (zct H a0 i) 63 = 39) (h40 : ¬ zand (zct H a0 i) 63 = 40) (h41 : ¬ zand (zct H a0 i) 63 = 41) (h42 : ¬ zand (zct H a0 i) 63 = 42) (h43 : ¬ zand (zct H a0 i) 63 = 43) (h44 : ¬ zand (zct H a0 i) 63 = 44) (h45 : ¬ zand (zct H a0 i) 63 = 45) (h46 : ¬ zand (zct H a0 i) 63 = 46) (h47 : ¬ zand (zct H a0 i) 63 = 47) (h48 : ¬ zand (zct H a0 i) 63 = 48) : LC X a0 N i H E := by
  obtain ⟨⟨A, B, K, ow, I⟩, rg, ek, bk, ew, ⟨s1, s2, s3⟩, z⟩ := id L
  obtain ⟨lt, e1, e2, e3, e4, e5, e6, e7, e8⟩ := law_num h hN
  refine ⟨H, fun n => ?_, L, by omega, by omega, by omega⟩
  rw [fW_law_l1]
  generalize fW_law_l1 E n = Lk
  simp only [↓yjn_p, ↓yvl_p, ↓reduceIte, yln_n s2 s3, lt, yai_n s2 s3 (show i < N by omega), h0, h1, h2, h3, h4, h5, h6, h7, h8, h9, h10, h11, h12, h13, h14, h15, h16, h17, h18, h19, h20, h21, h22, h23, h24, h25, h26, h27, h28, h29, h30, h31, h32, h33, h34, h35, h36, h37, h38, h39, h40, h41, h42, h43, h44, h45, h46, h47, h48, e8]
theorem law_one (L : LI X H E a0 N) (h : i + 8 ≤ N) (hN : N ≤ 4096) : LC X a0 N i H E := by
  by_cases h0 : zand (zct H a0 i) 63 = 0
  · exact law_c0 L h hN h0
  by_cases h1 : zand (zct H a0 i) 63 = 1
  · exact law_c1 L h hN h1
  by_cases h2 : zand (zct H a0 i) 63 = 2
  · exact law_c2 L h hN h2
  by_cases h3 : zand (zct H a0 i) 63 = 3
  · exact law_c3 L h hN h3
  by_cases h4 : zand (zct H a0 i) 63 = 4
  · exact law_c4 L h hN h4
  by_cases h5 : zand (zct H a0 i) 63 = 5
  · exact law_c5 L h hN h5
  by_cases h6 : zand (zct H a0 i) 63 = 6
  · exact law_c6 L h hN h6
  by_cases h7 : zand (zct H a0 i) 63 = 7
  · exact law_c7 L h hN h7
  by_cases h8 : zand (zct H a0 i) 63 = 8
  · exact law_c8 L h hN h8
  by_cases h9 : zand (zct H a0 i) 63 = 9
  · exact law_c9 L h hN h9
  by_cases h10 : zand (zct H a0 i) 63 = 10
  · exact law_c10 L h hN h10
  by_cases h11 : zand (zct H a0 i) 63 = 11
  · exact law_c11 L h hN h11
  by_cases h12 : zand (zct H a0 i) 63 = 12
  · exact law_c12 L h hN h12
  by_cases h13 : zand (zct H a0 i) 63 = 13
  · exact law_c13 L h hN h13
  by_cases h14 : zand (zct H a0 i) 63 = 14
  · exact law_c14 L h hN h14
  by_cases h15 : zand (zct H a0 i) 63 = 15
  · exact law_c15 L h hN h15
  by_cases h16 : zand (zct H a0 i) 63 = 16
  · exact law_c16 L h hN h16
  by_cases h17 : zand (zct H a0 i) 63 = 17
  · exact law_c17 L h hN h17
  by_cases h18 : zand (zct H a0 i) 63 = 18
  · exact law_c18 L h hN h18
  by_cases h19 : zand (zct H a0 i) 63 = 19
  · exact law_c19 L h hN h19
  by_cases h20 : zand (zct H a0 i) 63 = 20
  · exact law_c20 L h hN h20
  by_cases h21 : zand (zct H a0 i) 63 = 21
  · exact law_c21 L h hN h21
  by_cases h22 : zand (zct H a0 i) 63 = 22
  · exact law_c22 L h hN h22
  by_cases h23 : zand (zct H a0 i) 63 = 23
  · exact law_c23 L h hN h23
  by_cases h24 : zand (zct H a0 i) 63 = 24
  · exact law_c24 L h hN h24
  by_cases h25 : zand (zct H a0 i) 63 = 25
  · exact law_c25 L h hN h25
  by_cases h26 : zand (zct H a0 i) 63 = 26
  · exact law_c26 L h hN h26
  by_cases h27 : zand (zct H a0 i) 63 = 27
  · exact law_c27 L h hN h27
  by_cases h28 : zand (zct H a0 i) 63 = 28
  · exact law_c28 L h hN h28
  by_cases h29 : zand (zct H a0 i) 63 = 29
  · exact law_c29 L h hN h29
  by_cases h30 : zand (zct H a0 i) 63 = 30
  · exact law_c30 L h hN h30
  by_cases h31 : zand (zct H a0 i) 63 = 31
  · exact law_c31 L h hN h31
  by_cases h32 : zand (zct H a0 i) 63 = 32
  · exact law_c32 L h hN h32
  by_cases h33 : zand (zct H a0 i) 63 = 33
  · exact law_c33 L h hN h33
  by_cases h34 : zand (zct H a0 i) 63 = 34
  · exact law_c34 L h hN h34
  by_cases h35 : zand (zct H a0 i) 63 = 35
  · exact law_c35 L h hN h35
  by_cases h36 : zand (zct H a0 i) 63 = 36
  · exact law_c36 L h hN h36
  by_cases h37 : zand (zct H a0 i) 63 = 37
  · exact law_c37 L h hN h37
  by_cases h38 : zand (zct H a0 i) 63 = 38
  · exact law_c38 L h hN h38
  by_cases h39 : zand (zct H a0 i) 63 = 39
  · exact law_c39 L h hN h39
  by_cases h40 : zand (zct H a0 i) 63 = 40
  · exact law_c40 L h hN h40
  by_cases h41 : zand (zct H a0 i) 63 = 41
  · exact law_c41 L h hN h41
  by_cases h42 : zand (zct H a0 i) 63 = 42
  · exact law_c42 L h hN h42
  by_cases h43 : zand (zct H a0 i) 63 = 43
  · exact law_c43 L h hN h43
  by_cases h44 : zand (zct H a0 i) 63 = 44
  · exact law_c44 L h hN h44
  by_cases h45 : zand (zct H a0 i) 63 = 45
  · exact law_c45 L h hN h45
  by_cases h46 : zand (zct H a0 i) 63 = 46
  · exact law_c46 L h hN h46
  by_cases h47 : zand (zct H a0 i) 63 = 47
  · exact law_c47 L h hN h47
  by_cases h48 : zand (zct H a0 i) 63 = 48
  · exact law_c48 L h hN h48
  exact law_no L h hN h0 h1 h2 h3 h4 h5 h6 h7 h8 h9 h10 h11 h12 h13 h14 h15 h16 h17 h18 h19 h20 h21 h22 h23 h24 h25 h26 h27 h28 h29 h30 h31 h32 h33 h34 h35 h36 h37 h38 h39 h40 h41 h42 h43 h44 h45 h46 h47 h48
theorem law_loop (hN : N ≤ 4096) : ∀ (m i f : Nat) (H : zHp), N < i + 8 * (m + 1) → i ≤ 5000 → m < f → LI X H E a0 N → ∃ Hf, fW_law_l1 E f a0 X (X + 37) (i : Int) H = some (1, Hf) ∧ (znx H ≤ znx Hf ∧ znx Hf ≤ znx H + 300 * m ∧ zus Hf ≤ zus H + 4000 * m) := by
  intro m
  induction m with
  | zero =>
    intro i f H h1 h2 h3 L
    obtain ⟨f, rfl⟩ : ∃ f', f = f' + 1 := ⟨f - 1, by omega⟩
    obtain ⟨-, -, -, -, -, ⟨s1, s2, s3⟩, -⟩ := id L
    have lt : zsub (N : Int) 8 < (i : Int) := by rw [zsub_e (by omega) (by omega)]; omega
    refine ⟨H, ?_, by omega, by omega, by omega⟩
    rw [fW_law_l1]
    generalize fW_law_l1 E f = Lk
    simp only [↓yjn_p, ↓yvl_p, ↓reduceIte, yln_n s2 s3, lt]
  | succ m ih =>
    intro i f H h1 h2 h3 L
    obtain ⟨f, rfl⟩ : ∃ f', f = f' + 1 := ⟨f - 1, by omega⟩
    by_cases g : i + 8 ≤ N
    · obtain ⟨H2, k1, L2, k3, k4, k5⟩ := law_one L g hN
      obtain ⟨Hf, j1, j2, j3, j4⟩ := ih (i + 8) f H2 (by omega) (by omega) (by omega) L2
      exact ⟨Hf, (k1 f).trans j1, by omega, by omega, by omega⟩
    · obtain ⟨-, -, -, -, -, ⟨s1, s2, s3⟩, -⟩ := id L
      have lt : zsub (N : Int) 8 < (i : Int) := by rw [zsub_e (by omega) (by omega)]; omega
      refine ⟨H, ?_, by omega, by omega, by omega⟩
      rw [fW_law_l1]
      generalize fW_law_l1 E f = Lk
      simp only [↓yjn_p, ↓yvl_p, ↓reduceIte, yln_n s2 s3, lt]
end LAWALL
