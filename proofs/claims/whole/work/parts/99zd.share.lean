/-! CLAUSES: shares -/
noncomputable def shE (C : Nat) (pa ac who act num holds : Int) (H : zHp) : Option (Unit × zHp) :=
   ygi 1 7 C H fun v12 =>
     ypi 1 7 C (zadd v12 1) H fun s13 =>
     if who = pa then
       (if act = ac then
         (if holds = 0 then
           (some ((), s13))
         else
         ygi 1 4 C s13 fun v14 =>
         if v14 = 0 then
           (ygi 1 11 C s13 fun v15 =>
           ypi 1 11 C (zadd v15 num) s13 fun s16 =>
           ypz 1 12 C 1 s16 fun s17 =>
           some ((), s17))
         else
           (some ((), s13)))
       else
         (some ((), s13)))
     else
       (some ((), s13))
noncomputable def shB (E : Nat → Nat) (C : Nat) (pa ac who act : Int) (H : zHp) : Option (Unit × zHp) :=
    yck 1 C H <| ybd (fContract_skip E C (E 7) H) fun _ s22 =>
    yck 1 C s22 <| ybd (fContract_readNumber E C s22) fun v23 s24 =>
    yck 1 C s24 <| ybd (fContract_sees C 32 s24) fun v25 s26 =>
    if v25 = 0 then
      (shE C pa ac who act v23 1 s26)
    else
    yck 1 C s26 <| ybd (fContract_skip E C (E 8) s26) fun _ s27 =>
    yck 1 C s27 <| ybd (fContract_condition E (fContract_single E 12) C 0 s27) fun v28 s29 =>
    shE C pa ac who act v23 v28 s29
noncomputable def shQ (row : Int) (s22 : zSg) : Option (Int × zSg) :=
        ywi 104 54 row (s22 0 58) s22 fun s24 =>
        yvl (s24 0 59) fun v25 =>
        yrd 13 49 v25 s24 fun v26 =>
        ywi 13 49 v25 (zadd v26 1) s24 fun s27 =>
        some (1, s27)
noncomputable def shK (row : Int) (s20 : zSg) : Option (Int × zSg) :=
        ywi 104 52 row (s20 0 61) s20 fun s28 =>
       ywi 104 53 row (s28 0 58) s28 fun s29 =>
       ybd (gM_look s29) fun v30 s31 =>
       if v30 = 32 then
         (yvl (zup s31 0 57 (zadd (s31 0 57) 1)) fun s32 =>
         gTk [105, 102, 32] s32 fun s38 =>
           (yvl (zup s38 0 60 0) fun s39 =>
           ybd (gM_either (gM_factor 12) s39) fun v40 s41 =>
           if v40 = 0 then
             (some (0, s41))
           else
             (shQ row s41)))
       else
         (shQ row s31)
noncomputable def rB (row : Int) (s : zSg) : Option (Int × zSg) :=
  gTk (wds.getD 7 []) s (fun s18 => ybd (gM_digits s18) fun v s20 => if v = 0 then some (0, s20) else shK row s20)
section SHARE
variable {c C n p l i : Nat} {f : Nat → Int} {E : Nat → Nat} {H : zHp} {s : zSg} {pa ac who act : Int}
theorem shE_f {num holds : Int} (ct : CT H C n f E) (ps : PS H C p 1) : ∃ H', shE C pa ac who act num holds H = some ((), H') ∧ CW C H H' ∧ PS H' C p 1 := by
  refine ⟨zwr H C 7 (zadd (zct H C 7) 1), ?_, CW.wr (by omega), ps.cell (by omega)⟩
  have e4 : zct (zwr H C 7 (zadd (zct H C 7) 1)) C 4 = 1 := (ps.cell (k := 7) (by omega)).2
  unfold shE
  simp only [ygi, ypi, ct.1.1, zA1, if_true, ztg_wr, e4, show ¬ (1 : Int) = 0 by decide, if_false, ite_self]
theorem shE_g {num : Nat} {w : Bool} (ct : CT H C n f E) (ps : PS H C p 0) (h7 : zct H C 7 = (i : Int)) (i7 : i ≤ 7) (h11 : 0 ≤ zct H C 11 ∧ zct H C 11 ≤ 999 * (i : Int)) (hn : num ≤ 999) : ∃ H', shE C pa ac who act (num : Int) (bi w) H = some ((), H') ∧ CW C H H' ∧ PS H' C p 0 ∧ (zct H' C 7 = ((i + 1 : Nat) : Int) ∧ zct H' C 5 = zct H C 5 ∧ zct H' C 6 = zct H C 6) ∧
    zct H' C 11 = (if who = pa ∧ act = ac ∧ w = true then zct H C 11 + (num : Int) else zct H C 11) ∧ zct H' C 12 = (if who = pa ∧ act = ac ∧ w = true then 1 else zct H C 12) := by
  have e7 : zadd (zct H C 7) 1 = ((i + 1 : Nat) : Int) := by rw [h7, zadd_e (by omega) (by omega)]; omega
  have e11 : zadd (zct H C 11) (num : Int) = zct H C 11 + (num : Int) := zadd_e (by omega) (by omega)
  obtain ⟨H1, eH1⟩ : ∃ H1, H1 = zwr H C 7 ((i + 1 : Nat) : Int) := ⟨_, rfl⟩
  have w1 : CW C H H1 := by rw [eH1]; exact CW.wr (by omega)
  have ps1 : PS H1 C p 0 := by rw [eH1]; exact ps.cell (by omega)
  have tg1 : ztg H1 C = 2 := by rw [eH1]; exact ct.1.1
  have a11 : zct H1 C 11 = zct H C 11 := by rw [eH1, zct_wr, if_neg (by omega)]
  have a12 : zct H1 C 12 = zct H C 12 := by rw [eH1, zct_wr, if_neg (by omega)]
  have a7 : zct H1 C 7 = ((i + 1 : Nat) : Int) := by rw [eH1, zct_wr, if_pos ⟨rfl, rfl⟩]
  have a5 : zct H1 C 5 = zct H C 5 := by rw [eH1, zct_wr, if_neg (by omega)]
  have a6 : zct H1 C 6 = zct H C 6 := by rw [eH1, zct_wr, if_neg (by omega)]
  by_cases g : who = pa ∧ act = ac ∧ w = true
  · obtain ⟨g1, g2, g3⟩ := id g
    rw [if_pos g, if_pos g]
    refine ⟨zwr (zwr H1 C 11 (zct H C 11 + (num : Int))) C 12 1, ?_, (w1.tr (CW.wr (by omega))).tr (CW.wr (by omega)), (ps1.cell (by omega)).cell (by omega), ⟨?_, ?_, ?_⟩, ?_, ?_⟩
    · unfold shE
      simp only [ygi, ypi, ypz, ct.1.1, zA1, if_true, e7, ← eH1, g1, g2, g3, bi_t, show ¬ (1 : Int) = 0 by decide, if_false, tg1, ps1.2, a11, e11, ztg_wr, or_true, and_self]
    · rw [zct_wr, if_neg (by omega), zct_wr, if_neg (by omega)]; exact a7
    · rw [zct_wr, if_neg (by omega), zct_wr, if_neg (by omega)]; exact a5
    · rw [zct_wr, if_neg (by omega), zct_wr, if_neg (by omega)]; exact a6
    · rw [zct_wr, if_neg (by omega), zct_wr, if_pos ⟨rfl, rfl⟩]
    · rw [zct_wr, if_pos ⟨rfl, rfl⟩]
  · rw [if_neg g, if_neg g]
    refine ⟨H1, ?_, w1, ps1, ⟨a7, a5, a6⟩, a11, a12⟩
    unfold shE
    by_cases g1 : who = pa
    · by_cases g2 : act = ac
      · have g3 : w = false := by
          cases w
          · rfl
          · exact absurd ⟨g1, g2, rfl⟩ g
        simp only [ygi, ypi, ct.1.1, zA1, if_true, e7, ← eH1, g1, g2, g3, bi_f]
      · simp only [ygi, ypi, ct.1.1, zA1, if_true, e7, ← eH1, g1, g2, if_false]
    · simp only [ygi, ypi, ct.1.1, zA1, if_true, e7, ← eH1, g1, if_false]
theorem shB_f (ct : CT H C n f E) (pn : p ≤ n) (ps : PS H C p 1) : ∃ H', shB E C pa ac who act H = some ((), H') ∧ CW C H H' ∧ PS H' C p 1 := by
  obtain ⟨H1, q1, q2, q3⟩ := e_skip ct (i := 7) (by omega) pn ps (Or.inr rfl)
  have ps1 : PS H1 C p 1 := by
    rcases q3 with ⟨-, w⟩ | ⟨w, -⟩
    · exact w
    · exact absurd w (by decide)
  have ct1 := ct.cw q2
  obtain ⟨v, H2, u1, u2, u3⟩ := e_num1 ct1 ps1
  have ct2 := ct1.cw u2
  have S := e_sees1 ct2 u3 (u := 32)
  obtain ⟨H3, t1, t2, t3⟩ := shE_f (pa := pa) (ac := ac) (who := who) (act := act) (num := v) (holds := 1) ct2 u3
  refine ⟨H3, ?_, (q2.tr u2).w.tr t2, t3⟩
  unfold shB
  simp only [yck, ct.1.1, ct1.1.1, ct2.1.1, zA1, if_true, q1, ybd_s, u1, S, t1]
theorem shQ_ok {l' : Nat} (c12 : c ≤ 12) (i7 : i ≤ 7) (e58 : s 0 58 = (l' : Int)) (e59 : s 0 59 = (c : Int)) (e49 : s 49 c = (i : Int)) : shQ ((8 * c + i : Nat) : Int) s = some (1, zup (zup s 54 (8 * c + i) (l' : Int)) 49 c ((i + 1 : Nat) : Int)) := by
  have ei : zadd (i : Int) 1 = ((i + 1 : Nat) : Int) := by rw [zadd_e (by omega) (by omega)]; omega
  obtain ⟨s1, es1⟩ : ∃ s1, s1 = zup s 54 (8 * c + i) (l' : Int) := ⟨_, rfl⟩
  have a59 : s1 0 59 = (c : Int) := by rw [es1]; exact e59
  have a49 : s1 49 c = (i : Int) := by rw [es1]; exact e49
  unfold shQ
  rw [e58, ywi_n (by omega), ← es1]
  simp only [yvl]
  rw [a59, yrd_n (by omega), a49, ei, ywi_n (by omega)]
/-- what a good share comes to -/
def SHR (c C l i : Nat) (pa ac who act : Int) (H : zHp) (s : zSg) (H' : zHp) (s' : zSg) (l' : Nat) : Prop := (s' 49 c = ((i + 1 : Nat) : Int) ∧ zct H' C 7 = ((i + 1 : Nat) : Int)) ∧ (s' 47 c = s 47 c ∧ s' 48 c = s 48 c ∧ zct H' C 5 = zct H C 5 ∧ zct H' C 6 = zct H C 6) ∧
  ∃ (num : Nat) (w : Bool), num ≤ 999 ∧ (s' 52 (8 * c + i) = (num : Int) ∧ s' 53 (8 * c + i) = (l : Int) ∧ s' 54 (8 * c + i) = (l' : Int)) ∧ ((l = l' ∧ w = true) ∨ CV (sh (s' 55) (140 * c)) (sh (s' 56) (140 * c)) (zct H C 8) (zct H C 9) (zct H C 10) l l' w) ∧
    zct H' C 11 = (if who = pa ∧ act = ac ∧ w = true then zct H C 11 + (num : Int) else zct H C 11) ∧ zct H' C 12 = (if who = pa ∧ act = ac ∧ w = true then 1 else zct H C 12)
end SHARE
