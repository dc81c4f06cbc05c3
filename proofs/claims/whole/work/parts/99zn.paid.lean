/-! paid: both sides -/
noncomputable def clQ (E : Nat → Nat) (x17 : Nat) (x18 : Int) (x19 : Int) (x20 : Int) (x21 : Int) (x22 : Int) (x23 : Nat) (x24 : Nat) (x25 : Int) (x26 : Int) (s27 : zHp) : Option (Int × zHp) :=
         yjn (fun (x29 : Nat) (x30 : Int) (x31 : Int) (x32 : Int) (x33 : Int) (x34 : Nat) (x35 : Nat) (x36 : Int) (x37 : Int) (s38 : zHp) =>
          yjn (fun (x40 : Nat) (x41 : Int) (x42 : Int) (x43 : Int) (x44 : Int) (x45 : Nat) (x46 : Nat) (x47 : Int) (x48 : Int) (s49 : zHp) =>
           yjn (fun (x51 : Int) (x52 : Int) (x53 : Int) (x54 : Int) (s55 : zHp) =>
            yvl (zmin x54 (zsub x51 x53)) fun v57 =>
            if x52 = 2 then
              (some (zsub (zsub x51 x53) v57, s55))
            else
              (if x52 = 0 then
                (some (x53, s55))
              else
                (some (v57, s55)))) fun q56 =>
            yjn (fun (x58 : Int) (x59 : Int) (x60 : Int) (s61 : zHp) =>
            q56 x58 x59 x60 0 s61) fun q62 =>
            yvl (zmin x48 x43) fun v63 =>
           if x46 = 0 then
             (q62 x43 x44 v63 s49)
           else
           if x47 = 0 then
             (q62 x43 x44 v63 s49)
           else
           ygi 8 3 x45 s49 fun v64 =>
           yck 10 x40 s49 <| ybd (fH_hasRight x40 v64 x46 x41 s49) fun v65 s66 =>
           if v65 = 0 then
             (q62 x43 x44 v63 s66)
           else
           yck 1 x46 s66 <| ybd (fContract_shareOf E x46 1 x42 x43 s66) fun v67 s68 =>
           q56 x43 x44 v63 v67 s68) fun q50 =>
           yjn (fun (x69 : Nat) (x70 : Int) (x71 : Int) (x72 : Int) (x73 : Int) (x74 : Nat) (x75 : Nat) (x76 : Int) (s77 : zHp) =>
           q50 x69 x70 x71 x72 x73 x74 x75 x76 0 s77) fun q78 =>
           if x35 = 0 then
            (q78 x29 x30 x31 x32 x33 x34 x35 x37 s38)
          else
          yck 10 x29 s38 <| ybd (fH_hasRight x29 x36 x35 x30 s38) fun v79 s80 =>
          if v79 = 0 then
            (q78 x29 x30 x31 x32 x33 x34 x35 x37 s80)
          else
          yck 1 x35 s80 <| ybd (fContract_shareOf E x35 0 x31 x32 s80) fun v81 s82 =>
          q50 x29 x30 x31 x32 x33 x34 x35 x37 v81 s82) fun q39 =>
          if x24 = 0 then
           (q39 x17 x18 x19 x20 x22 x23 x24 x25 x26 s27)
         else
         yck 10 x17 s27 <| ybd (fH_wholeYearsSince x17 x25 x18 s27) fun v83 s84 =>
         yck 1 x24 s84 <| ybd (fContract_asked x24 x26 v83 x21 s84) fun _ s85 =>
         q39 x17 x18 x19 x20 x22 x23 x24 x25 x26 s85
noncomputable def cl39 (E : Nat → Nat) (x29 : Nat) (x30 : Int) (x31 : Int) (x32 : Int) (x33 : Int) (x34 : Nat) (x35 : Nat) (x36 : Int) (x37 : Int) (s38 : zHp) : Option (Int × zHp) :=
          yjn (fun (x40 : Nat) (x41 : Int) (x42 : Int) (x43 : Int) (x44 : Int) (x45 : Nat) (x46 : Nat) (x47 : Int) (x48 : Int) (s49 : zHp) =>
           yjn (fun (x51 : Int) (x52 : Int) (x53 : Int) (x54 : Int) (s55 : zHp) =>
            yvl (zmin x54 (zsub x51 x53)) fun v57 =>
            if x52 = 2 then
              (some (zsub (zsub x51 x53) v57, s55))
            else
              (if x52 = 0 then
                (some (x53, s55))
              else
                (some (v57, s55)))) fun q56 =>
            yjn (fun (x58 : Int) (x59 : Int) (x60 : Int) (s61 : zHp) =>
            q56 x58 x59 x60 0 s61) fun q62 =>
            yvl (zmin x48 x43) fun v63 =>
           if x46 = 0 then
             (q62 x43 x44 v63 s49)
           else
           if x47 = 0 then
             (q62 x43 x44 v63 s49)
           else
           ygi 8 3 x45 s49 fun v64 =>
           yck 10 x40 s49 <| ybd (fH_hasRight x40 v64 x46 x41 s49) fun v65 s66 =>
           if v65 = 0 then
             (q62 x43 x44 v63 s66)
           else
           yck 1 x46 s66 <| ybd (fContract_shareOf E x46 1 x42 x43 s66) fun v67 s68 =>
           q56 x43 x44 v63 v67 s68) fun q50 =>
           yjn (fun (x69 : Nat) (x70 : Int) (x71 : Int) (x72 : Int) (x73 : Int) (x74 : Nat) (x75 : Nat) (x76 : Int) (s77 : zHp) =>
           q50 x69 x70 x71 x72 x73 x74 x75 x76 0 s77) fun q78 =>
           if x35 = 0 then
            (q78 x29 x30 x31 x32 x33 x34 x35 x37 s38)
          else
          yck 10 x29 s38 <| ybd (fH_hasRight x29 x36 x35 x30 s38) fun v79 s80 =>
          if v79 = 0 then
            (q78 x29 x30 x31 x32 x33 x34 x35 x37 s80)
          else
          yck 1 x35 s80 <| ybd (fContract_shareOf E x35 0 x31 x32 s80) fun v81 s82 =>
          q50 x29 x30 x31 x32 x33 x34 x35 x37 v81 s82
noncomputable def cl50 (E : Nat → Nat) (x40 : Nat) (x41 : Int) (x42 : Int) (x43 : Int) (x44 : Int) (x45 : Nat) (x46 : Nat) (x47 : Int) (x48 : Int) (s49 : zHp) : Option (Int × zHp) :=
           yjn (fun (x51 : Int) (x52 : Int) (x53 : Int) (x54 : Int) (s55 : zHp) =>
            yvl (zmin x54 (zsub x51 x53)) fun v57 =>
            if x52 = 2 then
              (some (zsub (zsub x51 x53) v57, s55))
            else
              (if x52 = 0 then
                (some (x53, s55))
              else
                (some (v57, s55)))) fun q56 =>
            yjn (fun (x58 : Int) (x59 : Int) (x60 : Int) (s61 : zHp) =>
            q56 x58 x59 x60 0 s61) fun q62 =>
            yvl (zmin x48 x43) fun v63 =>
           if x46 = 0 then
             (q62 x43 x44 v63 s49)
           else
           if x47 = 0 then
             (q62 x43 x44 v63 s49)
           else
           ygi 8 3 x45 s49 fun v64 =>
           yck 10 x40 s49 <| ybd (fH_hasRight x40 v64 x46 x41 s49) fun v65 s66 =>
           if v65 = 0 then
             (q62 x43 x44 v63 s66)
           else
           yck 1 x46 s66 <| ybd (fContract_shareOf E x46 1 x42 x43 s66) fun v67 s68 =>
           q56 x43 x44 v63 v67 s68
noncomputable def rfQ (x17 : Int) (x18 : Int) (x19 : Int) (x20 : Int) (x21 : Int) (x22 : Int) (x23 : Int) (x24 : Int) (x25 : Int) (x26 : Int) (s27 : zSg) : Option (Int × zSg) :=
         yjn (fun (x29 : Int) (x30 : Int) (x31 : Int) (x32 : Int) (x33 : Int) (x34 : Int) (x35 : Int) (x36 : Int) (x37 : Int) (x38 : Int) (x39 : Int) (s40 : zSg) =>
          yjn (fun (x42 : Int) (x43 : Int) (x44 : Int) (x45 : Int) (x46 : Int) (x47 : Int) (x48 : Int) (x49 : Int) (x50 : Int) (x51 : Int) (x52 : Int) (s53 : zSg) =>
           yjn (fun (x55 : Int) (x56 : Int) (x57 : Int) (x58 : Int) (s59 : zSg) =>
            if x56 = 0 then
              (some (x57, s59))
            else
              (if x56 = 1 then
                (some (x58, s59))
              else
                (some (zsub (zsub x55 x57) x58, s59)))) fun q60 =>
            yjn (fun (x61 : Int) (x62 : Int) (x63 : Int) (s64 : zSg) =>
            q60 x61 x62 x63 0 s64) fun q65 =>
            if x51 = 0 then
             (q65 x46 x48 x52 s53)
           else
           yrd 60 7 x42 s53 fun v66 =>
           ybd (gM_hasRight v66 x43 x44 s53) fun v67 s68 =>
           if v67 = 0 then
             (q65 x46 x48 x52 s68)
           else
           ybd (gM_gets x49 1 x45 1 x50 x47 x46 (zsub x46 x52) s68) fun v69 s70 =>
           q60 x46 x48 x52 v69 s70) fun q54 =>
           ybd (gM_hasRight x37 x30 x31 s40) fun v71 s72 =>
          if v71 = 0 then
            (q54 x29 x30 x31 x32 x33 x34 x35 x36 x38 x39 0 s72)
          else
          ybd (gM_gets x36 0 x32 x39 x38 x34 x33 x33 s72) fun v73 s74 =>
          q54 x29 x30 x31 x32 x33 x34 x35 x36 x38 x39 v73 s74) fun q41 =>
          yrd 60 3 x17 s27 fun v75 =>
         if v75 = 6 then
           (q41 x17 x18 x19 x20 x21 x22 x23 x24 x25 x26 1 s27)
         else
           (q41 x17 x18 x19 x20 x21 x22 x23 x24 x25 x26 0 s27)
noncomputable def rf41 (x29 : Int) (x30 : Int) (x31 : Int) (x32 : Int) (x33 : Int) (x34 : Int) (x35 : Int) (x36 : Int) (x37 : Int) (x38 : Int) (x39 : Int) (s40 : zSg) : Option (Int × zSg) :=
          yjn (fun (x42 : Int) (x43 : Int) (x44 : Int) (x45 : Int) (x46 : Int) (x47 : Int) (x48 : Int) (x49 : Int) (x50 : Int) (x51 : Int) (x52 : Int) (s53 : zSg) =>
           yjn (fun (x55 : Int) (x56 : Int) (x57 : Int) (x58 : Int) (s59 : zSg) =>
            if x56 = 0 then
              (some (x57, s59))
            else
              (if x56 = 1 then
                (some (x58, s59))
              else
                (some (zsub (zsub x55 x57) x58, s59)))) fun q60 =>
            yjn (fun (x61 : Int) (x62 : Int) (x63 : Int) (s64 : zSg) =>
            q60 x61 x62 x63 0 s64) fun q65 =>
            if x51 = 0 then
             (q65 x46 x48 x52 s53)
           else
           yrd 60 7 x42 s53 fun v66 =>
           ybd (gM_hasRight v66 x43 x44 s53) fun v67 s68 =>
           if v67 = 0 then
             (q65 x46 x48 x52 s68)
           else
           ybd (gM_gets x49 1 x45 1 x50 x47 x46 (zsub x46 x52) s68) fun v69 s70 =>
           q60 x46 x48 x52 v69 s70) fun q54 =>
           ybd (gM_hasRight x37 x30 x31 s40) fun v71 s72 =>
          if v71 = 0 then
            (q54 x29 x30 x31 x32 x33 x34 x35 x36 x38 x39 0 s72)
          else
          ybd (gM_gets x36 0 x32 x39 x38 x34 x33 x33 s72) fun v73 s74 =>
          q54 x29 x30 x31 x32 x33 x34 x35 x36 x38 x39 v73 s74
noncomputable def rf54 (x42 : Int) (x43 : Int) (x44 : Int) (x45 : Int) (x46 : Int) (x47 : Int) (x48 : Int) (x49 : Int) (x50 : Int) (x51 : Int) (x52 : Int) (s53 : zSg) : Option (Int × zSg) :=
           yjn (fun (x55 : Int) (x56 : Int) (x57 : Int) (x58 : Int) (s59 : zSg) =>
            if x56 = 0 then
              (some (x57, s59))
            else
              (if x56 = 1 then
                (some (x58, s59))
              else
                (some (zsub (zsub x55 x57) x58, s59)))) fun q60 =>
            yjn (fun (x61 : Int) (x62 : Int) (x63 : Int) (s64 : zSg) =>
            q60 x61 x62 x63 0 s64) fun q65 =>
            if x51 = 0 then
             (q65 x46 x48 x52 s53)
           else
           yrd 60 7 x42 s53 fun v66 =>
           ybd (gM_hasRight v66 x43 x44 s53) fun v67 s68 =>
           if v67 = 0 then
             (q65 x46 x48 x52 s68)
           else
           ybd (gM_gets x49 1 x45 1 x50 x47 x46 (zsub x46 x52) s68) fun v69 s70 =>
           q60 x46 x48 x52 v69 s70
theorem cl_if {a b c : Int} {who : Int} {St : Type} {H : St} : (if who = 2 then some (a, H) else if who = 0 then some (b, H) else some (c, H)) = some (if who = 2 then a else if who = 0 then b else c, H) := by
  by_cases h : who = 2
  · rw [if_pos h, if_pos h]
  · rw [if_neg h, if_neg h]
    by_cases g : who = 0
    · rw [if_pos g, if_pos g]
    · rw [if_neg g, if_neg g]
theorem rf_if {a b c : Int} {who : Int} {St : Type} {H : St} : (if who = 0 then some (a, H) else if who = 1 then some (b, H) else some (c, H)) = some (if who = 0 then a else if who = 1 then b else c, H) := by
  by_cases h : who = 0
  · rw [if_pos h, if_pos h]
  · rw [if_neg h, if_neg h]
    by_cases g : who = 1
    · rw [if_pos g, if_pos g]
    · rw [if_neg g, if_neg g]
def clF (sum who toA toB : Int) : Int := if who = 2 then zsub (zsub sum (zmin toA sum)) (zmin toB (zsub sum (zmin toA sum))) else if who = 0 then zmin toA sum else zmin toB (zsub sum (zmin toA sum))
def rfF (sum who tA tB : Int) : Int := if who = 0 then tA else if who = 1 then tB else zsub (zsub sum tA) tB
theorem clF_rfF {sum who toA toB : Int} (h : 0 ≤ who ∧ who ≤ 2) : rfF sum who (zmin sum toA) (zmin (zsub sum (zmin sum toA)) toB) = clF sum who toA toB := by
  unfold clF rfF
  rw [zmin_c toA sum, zmin_c toB]
  by_cases h0 : who = 0
  · rw [if_pos h0, if_neg (by omega), if_pos h0]
  · rw [if_neg h0]
    by_cases h1 : who = 1
    · rw [if_pos h1, if_neg (by omega), if_neg h0]
    · rw [if_neg h1, if_pos (by omega)]
theorem zmin_0 {x : Int} (h : 0 ≤ x) : zmin x 0 = 0 := by
  unfold zmin
  by_cases g : (0 : Int) < x
  · rw [if_pos g]
  · rw [if_neg g]; omega
theorem lim2 {sum toA : Int} (h : 0 ≤ sum ∧ sum ≤ 100000) (h2 : 0 ≤ toA) : 0 ≤ zsub sum (zmin sum toA) := by
  unfold zmin
  by_cases g : toA < sum
  · rw [if_pos g, zsub_e (by omega) (by omega)]; omega
  · rw [if_neg g, zsub_e (by omega) (by omega)]; omega
section PAID
variable {X : Nat} {H : zHp} {s : zSg} {A : Nat → Nat} {B : Nat → Nat → Nat} {K : Nat → Nat} {ow : Nat → Nat × Nat} {E : Nat → Nat}
theorem EW.cl {H' : zHp} {C : Nat} (h : EW X H E) (hC : X ≤ C) (w : CL C H H') : EW X H' E := fun i hi => by
  obtain ⟨a, b, c⟩ := h i hi
  have e : zct H' (E i) 0 = zct H (E i) 0 := w.2.1 _ (by omega) 0
  rw [e]
  exact ⟨a.same fun q hq => ⟨(w.tg q).1, (w.tg q).2, fun k => w.2.1 q (by omega) k⟩, b, c⟩
theorem pay (I : IV X H s A B K ow) (hE : EW X H E) {c : Nat} (hc : (c : Int) < s 0 44) {d y z pa ac sum lim : Int} (d01 : d = 0 ∨ d = 1) (f8 : zct H (K c) 8 = d) (f9 : zct H (K c) 9 = y) (f10 : zct H (K c) 10 = z) : ∃ v H' s', fContract_shareOf E (K c) pa ac sum H = some (v, H') ∧ gM_gets (c : Int) pa ac d y z sum lim s = some (zmin lim v, s') ∧ (CL (K c) H H' ∧ ∀ k, k = 8 ∨ k = 9 ∨ k = 10 → zct H' (K c) k = zct H (K c) k) ∧ R62 s s' ∧ 0 ≤ v := by
  obtain ⟨⟨m0, m1⟩, ⟨d0, d1, d2, d3, d4, d5, d6⟩, ⟨w1, w2⟩, r, cp⟩ := I.co hc
  have g4 := I.g4
  have pos := m0.1
  have e2 : (zct H (K c) 2).toNat = K c + 1 := by rw [d3, Int.toNat_natCast]
  have ct : CT H (K c) (zln H (K c + 1)) (zct H (K c + 1)) E := ⟨⟨d0, by rw [e2]; exact w1, by rw [e2], by rw [e2]; exact Nat.succ_ne_self _, w2⟩, fun k hk => by rw [e2]; exact ⟨rfl, cp.1 k hk⟩, fun i hi => by
    obtain ⟨a, b, c'⟩ := hE i hi
    exact ⟨a, by omega, by omega⟩⟩
  obtain ⟨H', p1, p2, ⟨p3, p4, p5⟩, p6, p7⟩ := cp.2.2.2 H (K c) E pa ac ct (by rw [f8]; exact d01) d4 d5
  obtain ⟨N, hN⟩ : ∃ N : Nat, s 49 c = (N : Int) := ⟨(s 49 c).toNat, by have := cp.2.1; omega⟩
  have eN : (s 49 c).toNat = N := by rw [hN, Int.toNat_natCast]
  rw [eN, f8, f9, f10] at p6 p7
  obtain ⟨s', q1, q2⟩ := m_gets (pa := pa) (ac := ac) (sum := sum) (lim := lim) (y := y) (z := z) d01 (show c ≤ 12 by omega) cp hN
  have ct' := ct.cww p2
  refine ⟨shV s c d y z pa ac sum N, H', s', ?_, q1, ⟨CL.of p2 ⟨p3.trans d4.symm, p4.trans d5.symm, p5.trans d6.symm⟩, fun k hk => p2.2.2 k (by omega)⟩, q2, ?_⟩
  · have p6' : zct H' (K c) 11 = (sS s c d y z pa ac N).1 := p6
    have p7' : zct H' (K c) 12 = bi (sS s c d y z pa ac N).2 := p7
    have z1 : zisA 1 2 = true := rfl
    unfold fContract_shareOf shV
    simp only [yck, d0, z1, if_true, p1, ybd_s, ygi, ct'.1.1, yvl, p6', p7', p4]
    cases (sS s c d y z pa ac N).2
    · rw [if_pos bi_f, if_neg (by decide)]
    · rw [if_neg (by decide), if_pos rfl]
  · unfold shV
    have := r.2.2.2.1
    by_cases g : (sS s c d y z pa ac N).2 = true
    · rw [if_pos g]
      unfold zmax
      split <;> omega
    · rw [if_neg g]; exact Int.le_refl _
theorem e_root (I : IV X H s A B K ow) {t : Nat} (ht : (t : Int) < s 0 2) (hk : s 3 t = 1 ∨ s 3 t = 6) : ∃ r u : Nat, s 4 t = (r : Int) ∧ r < 60 ∧ s 7 r = (u : Int) ∧ u < 12 ∧ (0 ≤ (u : Int) ∧ (u : Int) ≤ s 0 8 - 1) ∧ fScore_rootScore (A t) H = some (A r, H) ∧ (ztg H (A r) = 9 ∧ zct H (A r) 3 = (u : Int)) ∧ (ztg H (A t) = 9 ∧ zct H (A t) 0 = s 3 t ∧ zct H (A t) 3 = s 7 t) ∧ X + 99 < A t ∧ X + 99 < A r ∧ (0 ≤ s 7 t ∧ s 7 t ≤ s 0 8 - 1) ∧ My X H ow (A t) (t + 1) 0 := by
  have a8 := I.2.1.1
  have b60 := I.2.1.2.2.2.2.2.2.2.2.2.2.2.1
  obtain ⟨q1, q2, q3, q4, q5, q6⟩ := (I.2.2.2.2.1.1 t ht).2.1 hk
  obtain ⟨⟨m0, -, -⟩, ⟨t0, t1, t2, t3, t4, t5, t6, t7⟩, t8, -⟩ := (I.2.2.1 t ht).1.1 hk
  have z8 : zisA 8 9 = true := rfl
  have u12 := a8.2.2.2.2.2.1
  rcases hk with h | h
  · have e4 := q4 h
    refine ⟨t, (s 7 t).toNat, e4, by omega, by omega, by omega, by omega, ?_, ⟨t0, by rw [t3]; omega⟩, ⟨t0, t1, t3⟩, m0.1, m0.1, by omega, m0⟩
    rw [if_pos h] at t8
    unfold fScore_rootScore
    simp only [ygr, t0, z8, if_true, t8, Int.toNat_zero]
  · obtain ⟨p1, p2, p3⟩ := q5 h
    obtain ⟨r, hr⟩ : ∃ r : Nat, s 4 t = (r : Int) := ⟨(s 4 t).toNat, by omega⟩
    rw [hr, Int.toNat_natCast] at p3 t8
    have hrl : (r : Int) < s 0 2 := by omega
    obtain ⟨q1', q2', q3', -⟩ := (I.2.2.2.2.1.1 r hrl).2.1 (Or.inl p3)
    obtain ⟨⟨n0, -, -⟩, ⟨v0, v1, v2, v3, -⟩, -⟩ := (I.2.2.1 r hrl).1.1 (Or.inl p3)
    have pr := n0.1
    refine ⟨r, (s 7 r).toNat, hr, by omega, by omega, by omega, by omega, ?_, ⟨v0, by rw [v3]; omega⟩, ⟨t0, t1, t3⟩, m0.1, n0.1, by omega, m0⟩
    rw [if_neg (by omega)] at t8
    have nz : ¬ A r = 0 := by omega
    unfold fScore_rootScore
    simp only [ygr, t0, z8, if_true, t8, Int.toNat_natCast, nz, if_false]
theorem e_years (I : IV X H s A B K ow) {u : Nat} {day : Int} (hu : 0 ≤ (u : Int) ∧ (u : Int) ≤ s 0 8 - 1) (hd : 0 ≤ day ∧ day ≤ 9999) : ∃ Y al, fH_wholeYearsSince X (u : Int) day H = some (Y, H) ∧ gM_isAlive (u : Int) day s = some (al, s) ∧ ((al = 1 ∧ Y = 0) ∨ (al = 0 ∧ Y = zdiv (zsub day (s 9 u)) 365)) := by
  have F := I.1
  obtain ⟨u1, u2, u3, u4⟩ := I.au hu
  rw [Int.toNat_natCast] at u1 u2 u3
  have ed := e_days I hu hd
  rw [Int.toNat_natCast] at ed
  have u12 : u < 12 := by omega
  unfold fH_wholeYearsSince gM_isAlive
  simp only [yck, ft0 F, zA10, if_true, ed, ybd_s, yrd_n u12]
  by_cases g : s 9 u < 0
  · refine ⟨0, 1, ?_, by rw [if_pos g], Or.inl ⟨rfl, rfl⟩⟩
    rw [if_pos (Or.inl g)]
    rfl
  · by_cases g2 : day < s 9 u
    · refine ⟨0, 1, ?_, by rw [if_neg g, if_pos g2], Or.inl ⟨rfl, rfl⟩⟩
      rw [if_pos (Or.inr g2)]
      rfl
    · refine ⟨zdiv (zsub day (s 9 u)) 365, 0, ?_, by rw [if_neg g, if_neg g2], Or.inr ⟨rfl, rfl⟩⟩
      rw [if_neg (by omega), zsub_e (by omega) (by omega)]
      have : zmax 0 (day - s 9 u) = day - s 9 u := by
        unfold zmax
        split <;> omega
      rw [this]
end PAID
