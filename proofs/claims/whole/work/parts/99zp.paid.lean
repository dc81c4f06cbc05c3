/-! paid: the call -/
theorem conN_eq {s s' : zSg} {land day : Int} (h45 : s' 45 = s 45) (h46 : s' 46 = s 46) : ∀ m : Nat, conN s' land day m = conN s land day m
  | 0 => rfl
  | m + 1 => by
    have ih := conN_eq (land := land) (day := day) h45 h46 m
    show (if s' 45 m = land ∧ s' 46 m ≤ day ∧ (conN s' land day m < 0 ∨ s' 46 (conN s' land day m).toNat ≤ s' 46 m) then (m : Int) else conN s' land day m) = if s 45 m = land ∧ s 46 m ≤ day ∧ (conN s land day m < 0 ∨ s 46 (conN s land day m).toNat ≤ s 46 m) then (m : Int) else conN s land day m
    rw [ih, h45, h46]
section KPAID2
variable {X : Nat} {H : zHp} {s : zSg} {A : Nat → Nat} {B : Nat → Nat → Nat} {K : Nat → Nat} {ow : Nat → Nat × Nat} {E : Nat → Nat}
theorem KD.law {H' : zHp} {s' : zSg} {C : Nat} (hC : X + 99 < C) (w : CL C H H') (I' : IV X H' s' A B K ow) : KD X H H' s' := by
  have nx : znx H' = znx H := congrArg Prod.fst w.1.2.2
  have us : zus H' = zus H := congrArg Prod.snd w.1.2.2
  exact ⟨⟨by omega, by omega, fun q _ => w.tg q⟩, by omega, by omega, fun a _ h2 k => w.2.1 a (by omega) k, A, B, K, ow, I'⟩
/-- behind the checks: no contract is in force -/
theorem paid_no (I : IV X H s A B K ow) {n u : Nat} {land day act sum mi who c au Y dv : Int} {a : Nat} (h60 : n < 60) (hl : 0 ≤ land ∧ land ≤ 3) (hd : 0 ≤ day ∧ day ≤ 9999) (hs : 0 ≤ sum ∧ sum ≤ 100000) (hw : 0 ≤ who ∧ who ≤ 2) (hu : 0 ≤ (u : Int) ∧ (u : Int) ≤ s 0 8 - 1) (hu2 : 0 ≤ s 7 n ∧ s 7 n ≤ s 0 8 - 1) (hc : c < 0) (hdv : dv = if s 3 n = 6 then 1 else 0) : clQ E X day act sum mi who a 0 au dv H = some (clF sum who 0 0, H) ∧ rfQ (n : Int) land day act sum mi who c (u : Int) Y s = some (clF sum who 0 0, s) := by
  refine ⟨clQ_0 rfl, ?_⟩
  obtain ⟨r, r0, -, r2⟩ := e_hasRight I hu hl hd
  obtain ⟨q, q0, -, q2⟩ := e_hasRight I hu2 hl hd
  have z1 : zsub sum 0 = sum := by rw [zsub_e (by omega) (by omega)]; omega
  have ef : rfF sum who 0 0 = clF sum who 0 0 := by
    have := clF_rfF (sum := sum) (toA := 0) (toB := 0) hw
    rw [zmin_0 hs.1, z1, zmin_0 hs.1] at this
    exact this
  have e54 : rf54 (n : Int) land day act sum mi who c Y dv 0 s = some (clF sum who 0 0, s) := by
    rw [hdv]
    by_cases k : s 3 n = 6
    · rw [if_pos k, rf54_1 (v := 0) (s3 := s) h60 rfl q2 (fun _ => m_gets0 hc (by rw [z1]; exact hs.1)), ef]
      split <;> rfl
    · rw [if_neg k, rf54_0, ef]
  rw [rfQ_e h60, ← hdv, rf41_1 (v := 0) (s3 := s) r2 (fun _ => m_gets0 hc hs.1), e54]
  split <;> rfl
/-- behind the checks: contract c is in force -/
theorem paid_yes (I : IV X H s A B K ow) (hE : EW X H E) {n u c : Nat} {land day act sum mi who Y dv : Int} (h60 : n < 60) (hl : 0 ≤ land ∧ land ≤ 3) (hd : 0 ≤ day ∧ day ≤ 9999) (hs : 0 ≤ sum ∧ sum ≤ 100000) (hw : 0 ≤ who ∧ who ≤ 2) (hu : 0 ≤ (u : Int) ∧ (u : Int) ≤ s 0 8 - 1) (hu2 : 0 ≤ s 7 n ∧ s 7 n ≤ s 0 8 - 1) (hc : (c : Int) < s 0 44) (hcn : conN s land day (s 0 44).toNat = (c : Int)) (hdv : dv = if s 3 n = 6 then 1 else 0) (hy : fH_wholeYearsSince X (u : Int) day H = some (Y, H))
    (ta : ztg H (A n) = 9) (a3 : zct H (A n) 3 = s 7 n) (hA : A n ≠ K c) : ∃ x H' s', clQ E X day act sum mi who (A n) (K c) (u : Int) dv H = some (x, H') ∧ rfQ (n : Int) land day act sum mi who (c : Int) (u : Int) Y s = some (x, s') ∧ KD X H H' s' := by
  have F := I.1
  obtain ⟨⟨m0, m1⟩, ⟨d0, -⟩, -⟩ := I.co hc
  have pos := m0.1
  have g4 := I.g4
  have hL : K c ≠ 0 := by omega
  have d01 : dv = 0 ∨ dv = 1 := by
    rw [hdv]
    by_cases k : s 3 n = 6
    · exact Or.inr (if_pos k)
    · exact Or.inl (if_neg k)
  obtain ⟨H1, eH1⟩ : ∃ H1, H1 = zwr (zwr (zwr H (K c) 8 dv) (K c) 9 Y) (K c) 10 mi := ⟨_, rfl⟩
  have w1 : CL (K c) H H1 := by rw [eH1]; exact ((CL.wr (by omega)).tr (CL.wr (by omega))).tr (CL.wr (by omega))
  have f8 : zct H1 (K c) 8 = dv := by rw [eH1, zct_wr, if_neg (by omega), zct_wr, if_neg (by omega), zct_wr, if_pos ⟨rfl, rfl⟩]
  have f9 : zct H1 (K c) 9 = Y := by rw [eH1, zct_wr, if_neg (by omega), zct_wr, if_pos ⟨rfl, rfl⟩]
  have f10 : zct H1 (K c) 10 = mi := by rw [eH1, zct_wr, if_pos ⟨rfl, rfl⟩]
  have I1 : IV X H1 s A B K ow := I.law hc w1
  have E1 : EW X H1 E := hE.cl (by omega) w1
  have hX1 : ztg H1 X = 11 := ft0 I1.1
  have hL1 : ztg H1 (K c) = 2 := (w1.tg _).1.trans d0
  have lw : (if 0 ≤ conN s land day (s 0 44).toNat ∧ conN s land day (s 0 44).toNat < s 0 44 then K (conN s land day (s 0 44).toNat).toNat else 0) = K c := by rw [hcn, if_pos ⟨by omega, hc⟩, Int.toNat_natCast]
  have e1 : clQ E X day act sum mi who (A n) (K c) (u : Int) dv H = cl39 E X day act sum who (A n) (K c) (u : Int) dv H1 := by
    rw [eH1]
    exact clQ_1 hL (ft0 F) d0 d01 hy
  have e2 : rfQ (n : Int) land day act sum mi who (c : Int) (u : Int) Y s = rf41 (n : Int) land day act sum mi who (c : Int) (u : Int) Y dv s := by rw [rfQ_e h60, hdv]
  rw [e1, e2]
  obtain ⟨r, r0, r1, r2⟩ := e_hasRight I1 hu hl hd
  rw [lw] at r1
  obtain ⟨toA, H2, s2, k1, k2, ⟨k3, k4⟩, k5, k6⟩ : ∃ toA H2 s2, cl39 E X day act sum who (A n) (K c) (u : Int) dv H1 = cl50 E X day act sum who (A n) (K c) dv toA H2 ∧ rf41 (n : Int) land day act sum mi who (c : Int) (u : Int) Y dv s = rf54 (n : Int) land day act sum mi who (c : Int) Y dv (zmin sum toA) s2 ∧ (CL (K c) H1 H2 ∧ ∀ k, k = 8 ∨ k = 9 ∨ k = 10 → zct H2 (K c) k = zct H1 (K c) k) ∧ R62 s s2 ∧ 0 ≤ toA := by
    by_cases hr0 : r = 0
    · refine ⟨0, H1, s, ?_, ?_, ⟨CL.rf, fun _ _ => rfl⟩, R62.rf, Int.le_refl _⟩
      · rw [cl39_1 (v := 0) (H3 := H1) hL hX1 hL1 r1 (fun w => absurd hr0 w), if_pos hr0]
      · rw [rf41_1 (v := 0) (s3 := s) r2 (fun w => absurd hr0 w), if_pos hr0, zmin_0 hs.1]
    · obtain ⟨v, H2, s2, p1, p2, p3, p4, p5⟩ := pay (pa := 0) (ac := act) (sum := sum) (lim := sum) I1 E1 hc d01 f8 f9 f10
      refine ⟨v, H2, s2, ?_, ?_, p3, p4, p5⟩
      · rw [cl39_1 hL hX1 hL1 r1 (fun _ => p1), if_neg hr0]
      · rw [rf41_1 r2 (fun _ => p2), if_neg hr0]
  rw [k1, k2]
  have I2 : IV X H2 s2 A B K ow := (I1.law hc k3).x11 zst.rf zfx.rf zfd.rf k5.z
  have w2 := w1.tr k3
  have l2 := lim2 hs k6
  rcases d01 with d | d
  · rw [d, cl50_0 (Or.inr rfl), rf54_0]
    refine ⟨_, H2, s2, rfl, ?_, KD.law pos w2 I2⟩
    rw [← clF_rfF hw, zmin_0 l2]
  · have s08 : s2 0 8 = s 0 8 := k5 0 8 (by decide)
    have s044 : s2 0 44 = s 0 44 := k5 0 44 (by decide)
    have s7 : s2 7 n = s 7 n := k5 7 n (by decide)
    obtain ⟨q, q0, q1, q2⟩ := e_hasRight I2 (a := s 7 n) (by rw [s08]; exact hu2) hl hd
    rw [s044, conN_eq (k5.row (by decide)) (k5.row (by decide)), lw] at q1
    have ta2 : ztg H2 (A n) = 9 := (w2.tg _).1.trans ta
    have a32 : zct H2 (A n) 3 = s 7 n := (w2.2.1 _ hA 3).trans a3
    have hX2 : ztg H2 X = 11 := ft0 I2.1
    have hL2 : ztg H2 (K c) = 2 := (k3.tg _).1.trans hL1
    rw [d] at f8 ⊢
    by_cases hq : q = 0
    · rw [cl50_1 (v := 0) (H3 := H2) hL ta2 a32 hX2 hL2 q1 (fun w => absurd hq w), if_pos hq, rf54_1 (v := 0) (s3 := s2) h60 s7 q2 (fun w => absurd hq w), if_pos hq]
      refine ⟨_, H2, s2, rfl, ?_, KD.law pos w2 I2⟩
      rw [← clF_rfF hw, zmin_0 l2]
    · obtain ⟨v, H3, s3, p1, p2, ⟨p3, p4⟩, p5, p6⟩ := pay (pa := 1) (ac := act) (sum := sum) (lim := zsub sum (zmin sum toA)) I2 (E1.cl (by omega) k3) (by rw [s044]; exact hc) (Or.inr rfl) ((k4 8 (by omega)).trans f8) ((k4 9 (by omega)).trans f9) ((k4 10 (by omega)).trans f10)
      rw [cl50_1 hL ta2 a32 hX2 hL2 q1 (fun _ => p1), if_neg hq, rf54_1 h60 s7 q2 (fun _ => p2), if_neg hq]
      refine ⟨_, H3, s3, rfl, ?_, KD.law pos (w2.tr p3) ((I2.law (by rw [s044]; exact hc) p3).x11 zst.rf zfx.rf zfd.rf p5.z)⟩
      rw [← clF_rfF hw]
end KPAID2
