/-! 169: EngraversHouse.hire:(II)I -/
noncomputable def fH_hire (a0 : Nat) (a1 : Int) (a2 : Int) (s : zHp) : Option (Int × zHp) :=
  yck 10 a0 s <| ybd (fH_thingAt a0 a1 s) fun p1 s2 =>
  if p1 = 0 then
    (some ((-1), s2))
  else
  ybd (fH_within a2 0 1 s2) fun v3 s4 =>
  if v3 = 0 then
    (some ((-1), s4))
  else
    (yck 10 a0 s4 <| ybd (fH_setAt a0 a1 s4) fun p5 s6 =>
    if p5 = 0 then
      (some ((-12), s6))
    else
      (ygr 10 13 a0 s6 fun p7 =>
      ygi 5 5 p5 s6 fun v8 =>
      ygi 10 0 a0 s6 fun v9 =>
      yck 9 p7 s6 <| ybd (fTour_bestFirst p7 v8 v9 s6) fun v10 s11 =>
      if a2 = 0 then
        (ygr 10 13 a0 s11 fun p15 =>
        yck 9 p15 s11 <| ybd (fTour_worthFrom p15 v10 s11) fun v16 s17 =>
        some (v16, s17))
      else
        (ygr 10 13 a0 s11 fun p12 =>
        yck 9 p12 s11 <| ybd (fTour_bitsFrom p12 v10 s11) fun v13 s14 =>
        some (v13, s14))))
theorem fH_hire_ok {E : Nat → Nat} (d : Nat) (a0 : Nat) (a1 : Int) (a2 : Int) (s : zHp) : zE zI Ji E (d + 5) 169 (zB 169 0) (zent 5 [.inr (.inr a0), .inl a1, .inl a2]) [] s (fH_hire a0 a1 a2 s) := by
  show zE _ _ _ _ _ _ [some (.inr (.inr a0)), some (.inl a1), some (.inl a2), none, none] _ _ _
  unfold fH_hire
  refine zq_6_0 ?_
  refine zq_4_1 ?_
  refine zE_g fun hg => ?_
  refine zq_92_2r hg rfl rfl (fH_thingAt_ok (E := E) _ _ _ _) fun p1 s2 => ?_
  refine zq_54 ?_ ?_
  · refine zq_1 ?_
    exact zq_95 rfl
  refine zq_4_2 ?_
  refine zq_1 ?_
  refine zq_1 ?_
  refine zq_90_3i rfl rfl (fH_within_ok (E := E) _ _ _ _ _) fun v3 s4 => ?_
  refine zq_41 ?_ ?_
  · refine zq_57 ?_
    refine zq_1 ?_
    exact zq_95 rfl
  · refine zq_6_0 ?_
    refine zq_4_1 ?_
    refine zE_g fun hg => ?_
    refine zq_92_2r hg rfl rfl (fH_setAt_ok (E := E) _ _ _ _) fun p5 s6 => ?_
    refine zq_9_3 rfl ?_
    refine zq_6_3 ?_
    refine zq_55 ?_ ?_
    · refine zq_1 ?_
      exact zq_95 rfl
    · refine zq_6_0 ?_
      refine zh_61 ?_
      refine zq_6_3 ?_
      refine zh_60 ?_
      refine zq_6_0 ?_
      refine zh_60 ?_
      refine zE_g fun hg => ?_
      refine zq_92_3i hg rfl rfl (fTour_bestFirst_ok (E := E) _ _ _ _ _) fun v10 s11 => ?_
      refine zq_7_4 rfl ?_
      refine zq_4_2 ?_
      refine zq_41 ?_ ?_
      · refine zq_6_0 ?_
        refine zh_61 ?_
        refine zq_4_4 ?_
        refine zE_g fun hg => ?_
        refine zq_92_2i hg rfl rfl (fTour_worthFrom_ok (E := E) _ _ _ _) fun v16 s17 => ?_
        refine zq_56 ?_
        exact zq_95 rfl
      · refine zq_6_0 ?_
        refine zh_61 ?_
        refine zq_4_4 ?_
        refine zE_g fun hg => ?_
        refine zq_92_2i hg rfl rfl (fTour_bitsFrom_ok (E := E) _ _ _ _) fun v13 s14 => ?_
        refine zq_57 ?_
        exact zq_95 rfl
/-! 170: EngraversHouse.month:(I)I -/
noncomputable def fH_month (a0 : Nat) (a1 : Int) (s : zHp) : Option (Int × zHp) :=
  ybd (fH_within a1 0 999 s) fun v1 s2 =>
  if v1 = 0 then
    (some ((-2), s2))
  else
    (ygr 10 14 a0 s2 fun p3 =>
    ygi 7 3 p3 s2 fun v4 =>
    if v4 < 10 then
      (ygr 10 14 a0 s2 fun p5 =>
      ygr 7 4 p5 s2 fun p6 =>
      ygr 10 14 a0 s2 fun p7 =>
      ygi 7 3 p7 s2 fun v8 =>
      ysi p6 v8 a1 s2 fun s9 =>
      ygr 10 14 a0 s9 fun p10 =>
      ygi 7 3 p10 s9 fun v11 =>
      ypi 7 3 p10 (zadd v11 1) s9 fun s12 =>
      ygr 10 14 a0 s12 fun p13 =>
      ygi 7 3 p13 s12 fun v14 =>
      some (v14, s12))
    else
    some ((-4), s2))
theorem fH_month_ok {E : Nat → Nat} (d : Nat) (a0 : Nat) (a1 : Int) (s : zHp) : zE zI Ji E (d + 1) 170 (zB 170 0) (zent 2 [.inr (.inr a0), .inl a1]) [] s (fH_month a0 a1 s) := by
  show zE _ _ _ _ _ _ [some (.inr (.inr a0)), some (.inl a1)] _ _ _
  unfold fH_month
  refine zq_4_1 ?_
  refine zq_1 ?_
  refine zq_1 ?_
  refine zq_90_3i rfl rfl (fH_within_ok (E := E) _ _ _ _ _) fun v1 s2 => ?_
  refine zq_41 ?_ ?_
  · refine zq_1 ?_
    exact zq_95 rfl
  · refine zq_6_0 ?_
    refine zh_61 ?_
    refine zh_60 ?_
    refine zq_1 ?_
    refine zq_48 ?_ ?_
    · refine zq_6_0 ?_
      refine zh_61 ?_
      refine zh_61 ?_
      refine zq_6_0 ?_
      refine zh_61 ?_
      refine zh_60 ?_
      refine zq_4_1 ?_
      refine zh_68 ?_
      refine zq_6_0 ?_
      refine zh_61 ?_
      refine zq_33 ?_
      refine zh_60 ?_
      refine zq_1 ?_
      refine zq_11 ?_
      refine zh_62 ?_
      refine zq_6_0 ?_
      refine zh_61 ?_
      refine zh_60 ?_
      exact zq_95 rfl
    refine zq_1 ?_
    exact zq_95 rfl
/-! 171: EngraversHouse.costs:(III)I -/
noncomputable def fH_costs (a0 : Nat) (a1 : Int) (a2 : Int) (a3 : Int) (s : zHp) : Option (Int × zHp) :=
  ybd (fH_within a1 0 9999 s) fun v1 s2 =>
  if v1 = 0 then
    (some ((-2), s2))
  else
  ybd (fH_within a2 0 99 s2) fun v3 s4 =>
  if v3 = 0 then
    (some ((-2), s4))
  else
  ybd (fH_within a3 1 9999 s4) fun v5 s6 =>
  if v5 = 0 then
    (some ((-2), s6))
  else
    (ygr 10 14 a0 s6 fun p7 =>
    ygi 7 3 p7 s6 fun v8 =>
    ygr 10 14 a0 s6 fun p9 =>
    ypi 7 0 p9 a1 s6 fun s10 =>
    ygr 10 14 a0 s10 fun p11 =>
    ypi 7 1 p11 a2 s10 fun s12 =>
    ygr 10 14 a0 s12 fun p13 =>
    ypi 7 2 p13 a3 s12 fun s14 =>
    ygr 10 14 a0 s14 fun p15 =>
    ypi 7 3 p15 0 s14 fun s16 =>
    some (v8, s16))
theorem fH_costs_ok {E : Nat → Nat} (d : Nat) (a0 : Nat) (a1 : Int) (a2 : Int) (a3 : Int) (s : zHp) : zE zI Ji E (d + 1) 171 (zB 171 0) (zent 5 [.inr (.inr a0), .inl a1, .inl a2, .inl a3]) [] s (fH_costs a0 a1 a2 a3 s) := by
  show zE _ _ _ _ _ _ [some (.inr (.inr a0)), some (.inl a1), some (.inl a2), some (.inl a3), none] _ _ _
  unfold fH_costs
  refine zq_4_1 ?_
  refine zq_1 ?_
  refine zq_1 ?_
  refine zq_90_3i rfl rfl (fH_within_ok (E := E) _ _ _ _ _) fun v1 s2 => ?_
  refine zq_40 ?_ ?_
  · refine zq_1 ?_
    exact zq_95 rfl
  refine zq_4_2 ?_
  refine zq_1 ?_
  refine zq_1 ?_
  refine zq_90_3i rfl rfl (fH_within_ok (E := E) _ _ _ _ _) fun v3 s4 => ?_
  refine zq_40 ?_ ?_
  · refine zq_1 ?_
    exact zq_95 rfl
  refine zq_4_3 ?_
  refine zq_1 ?_
  refine zq_1 ?_
  refine zq_90_3i rfl rfl (fH_within_ok (E := E) _ _ _ _ _) fun v5 s6 => ?_
  refine zq_41 ?_ ?_
  · refine zq_57 ?_
    refine zq_1 ?_
    exact zq_95 rfl
  · refine zq_6_0 ?_
    refine zh_61 ?_
    refine zh_60 ?_
    refine zq_7_4 rfl ?_
    refine zq_6_0 ?_
    refine zh_61 ?_
    refine zq_4_1 ?_
    refine zh_62 ?_
    refine zq_6_0 ?_
    refine zh_61 ?_
    refine zq_4_2 ?_
    refine zh_62 ?_
    refine zq_6_0 ?_
    refine zh_61 ?_
    refine zq_4_3 ?_
    refine zh_62 ?_
    refine zq_6_0 ?_
    refine zh_61 ?_
    refine zq_1 ?_
    refine zh_62 ?_
    refine zq_4_4 ?_
    exact zq_95 rfl
/-! 172: EngraversHouse$PrintPlan.asksTooMuch:()Z -/
noncomputable def fPrintPlan_asksTooMuch_l1 : Nat → Nat → Int → Int → zHp → Option (Int × zHp)
  | 0, _, _, _, _ => none
  | n + 1, x1, x2, x3, s4 =>
   yjn (fun (x5 : Nat) (x6 : Int) (x7 : Int) (s8 : zHp) =>
    yvl (zadd x6 1) fun v10 =>
    fPrintPlan_asksTooMuch_l1 n x5 x7 v10 s8) fun q9 =>
    yjn (fun (x11 : Nat) (x12 : Int) (s13 : zHp) =>
    q9 x11 x12 1 s13) fun q14 =>
    ygi 7 3 x1 s4 fun v15 =>
   if x3 < v15 then
     (if x2 = 0 then
       (ygr 7 4 x1 s4 fun p16 =>
       yai p16 x3 s4 fun v17 =>
       ygi 7 2 x1 s4 fun v18 =>
       if v18 < v17 then
         (q14 x1 x3 s4)
       else
         (q9 x1 x3 0 s4))
     else
       (q14 x1 x3 s4))
   else
     (yrb x2 s4)
theorem fPrintPlan_asksTooMuch_l1_ok {E : Nat → Nat} (d : Nat) : ∀ (n : Nat) (x1 : Nat) (x2 : Int) (x3 : Int) (s4 : zHp), zE zI Ji E (d + 0) 172 (zB 172 1) ([some (.inr (.inr x1)), some (.inl x2), some (.inl x3)]) ([]) s4 (fPrintPlan_asksTooMuch_l1 n x1 x2 x3 s4) := by
  intro n
  induction n with
  | zero => intro x1 x2 x3 s4; exact zE_none
  | succ n ih =>
    intro x1 x2 x3 s4
    unfold fPrintPlan_asksTooMuch_l1
    refine zE_jn (fun q9 => ∀ (y0 : Nat) (y1 : Int) (y2 : Int) (s : zHp), zE zI Ji E (d + 0) 172 (zB 172 4) ([some (.inr (.inr y0)), none, some (.inl y1)]) ([.inl y2]) s (q9 y0 y1 y2 s)) (fun x5 x6 x7 s8 => ?_) (fun q9 hq9 => ?_)
    · refine zq_7_1 rfl ?_
      refine zE_vl ?_
      refine zq_10_2 rfl ?_
      refine zq_56 ?_
      exact zE_w [true, true, true] (ih _ _ _ _)
    refine zE_jn (fun q14 => ∀ (y0 : Nat) (y1 : Int) (s : zHp), zE zI Ji E (d + 0) 172 (zB 172 2) ([some (.inr (.inr y0)), none, some (.inl y1)]) ([]) s (q14 y0 y1 s)) (fun x11 x12 s13 => ?_) (fun q14 hq14 => ?_)
    · refine zq_1 ?_
      refine zq_56 ?_
      exact zE_w [true, false, true] (hq9 _ _ _ _)
    refine zq_4_2 ?_
    refine zq_6_0 ?_
    refine zh_60 ?_
    refine zq_49 ?_ ?_
    · refine zq_4_1 ?_
      refine zq_41 ?_ ?_
      · refine zq_6_0 ?_
        refine zh_61 ?_
        refine zq_4_2 ?_
        refine zh_65 ?_
        refine zq_6_0 ?_
        refine zh_60 ?_
        refine zq_51 ?_ ?_
        · refine zq_57 ?_
          exact zE_w [true, false, true] (hq14 _ _ _)
        · refine zq_1 ?_
          refine zq_57 ?_
          exact zE_w [true, false, true] (hq9 _ _ _ _)
      · exact zE_w [true, false, true] (hq14 _ _ _)
    · refine zq_4_1 ?_
      exact zq_96
noncomputable def fPrintPlan_asksTooMuch (a0 : Nat) (s : zHp) : Option (Int × zHp) :=
  fPrintPlan_asksTooMuch_l1 zFU a0 0 0 s
theorem fPrintPlan_asksTooMuch_ok {E : Nat → Nat} (d : Nat) (a0 : Nat) (s : zHp) : zE zI Ji E (d + 0) 172 (zB 172 0) (zent 3 [.inr (.inr a0)]) [] s (fPrintPlan_asksTooMuch a0 s) := by
  show zE _ _ _ _ _ _ [some (.inr (.inr a0)), none, none] _ _ _
  unfold fPrintPlan_asksTooMuch
  refine zq_1 ?_
  refine zq_7_1 rfl ?_
  refine zq_1 ?_
  refine zq_7_2 rfl ?_
  refine zq_57 ?_
  exact zE_w [true, true, true] (fPrintPlan_asksTooMuch_l1_ok (E := E) d zFU _ _ _ _)
/-! 173: EngraversHouse$PrintPlan.isBetter:(IIII)Z -/
noncomputable def fPrintPlan_isBetter (a0 : Nat) (a1 : Int) (a2 : Int) (a3 : Int) (a4 : Int) (s : zHp) : Option (Int × zHp) :=
  ygr 7 5 a0 s fun p1 =>
  yai p1 a4 s fun v2 =>
  if a1 = v2 then
    (ygr 7 6 a0 s fun p3 =>
    yai p3 a4 s fun v4 =>
    if a2 = v4 then
      (ygr 7 7 a0 s fun p5 =>
      yai p5 a4 s fun v6 =>
      if a3 < v6 then
        (some (1, s))
      else
        (some (0, s)))
    else
    ygr 7 6 a0 s fun p7 =>
    yai p7 a4 s fun v8 =>
    if a2 < v8 then
      (some (1, s))
    else
      (some (0, s)))
  else
  ygr 7 5 a0 s fun p9 =>
  yai p9 a4 s fun v10 =>
  if a1 < v10 then
    (some (1, s))
  else
    (some (0, s))
theorem fPrintPlan_isBetter_ok {E : Nat → Nat} (d : Nat) (a0 : Nat) (a1 : Int) (a2 : Int) (a3 : Int) (a4 : Int) (s : zHp) : zE zI Ji E (d + 0) 173 (zB 173 0) (zent 5 [.inr (.inr a0), .inl a1, .inl a2, .inl a3, .inl a4]) [] s (fPrintPlan_isBetter a0 a1 a2 a3 a4 s) := by
  show zE _ _ _ _ _ _ [some (.inr (.inr a0)), some (.inl a1), some (.inl a2), some (.inl a3), some (.inl a4)] _ _ _
  unfold fPrintPlan_isBetter
  refine zq_4_1 ?_
  refine zq_6_0 ?_
  refine zh_61 ?_
  refine zq_4_4 ?_
  refine zh_65 ?_
  refine zq_46 ?_ ?_
  · refine zq_4_2 ?_
    refine zq_6_0 ?_
    refine zh_61 ?_
    refine zq_4_4 ?_
    refine zh_65 ?_
    refine zq_46 ?_ ?_
    · refine zq_4_3 ?_
      refine zq_6_0 ?_
      refine zh_61 ?_
      refine zq_4_4 ?_
      refine zh_65 ?_
      refine zq_49 ?_ ?_
      · refine zq_1 ?_
        refine zq_56 ?_
        exact zq_96c (by decide)
      · refine zq_1 ?_
        refine zq_57 ?_
        exact zq_96c (by decide)
    refine zq_4_2 ?_
    refine zq_6_0 ?_
    refine zh_61 ?_
    refine zq_4_4 ?_
    refine zh_65 ?_
    refine zq_49 ?_ ?_
    · refine zq_1 ?_
      refine zq_56 ?_
      exact zq_96c (by decide)
    · refine zq_1 ?_
      refine zq_57 ?_
      exact zq_96c (by decide)
  refine zq_4_1 ?_
  refine zq_6_0 ?_
  refine zh_61 ?_
  refine zq_4_4 ?_
  refine zh_65 ?_
  refine zq_49 ?_ ?_
  · refine zq_1 ?_
    refine zq_56 ?_
    exact zq_96c (by decide)
  · refine zq_1 ?_
    refine zq_57 ?_
    exact zq_96c (by decide)
/-! 174: EngraversHouse$PrintPlan.printAt:(I)V -/
noncomputable def fPrintPlan_printAt_l1 : Nat → Nat → Int → Int → Int → Int → zHp → Option (Unit × zHp)
  | 0, _, _, _, _, _, _ => none
  | n + 1, x4, x5, x6, x7, x8, s9 =>
   yjn (fun (x10 : Nat) (x11 : Int) (x12 : Int) (x13 : Int) (x14 : Int) (s15 : zHp) =>
    yvl (zadd x14 1) fun v17 =>
    fPrintPlan_printAt_l1 n x10 x11 x12 x13 v17 s15) fun q16 =>
    yjn (fun (x18 : Nat) (x19 : Int) (x20 : Int) (x21 : Int) (x22 : Int) (x23 : Int) (x24 : Int) (s25 : zHp) =>
    ygr 7 5 x18 s25 fun p27 =>
    ysi p27 x19 x23 s25 fun s28 =>
    ygr 7 6 x18 s28 fun p29 =>
    ygr 7 6 x18 s28 fun p30 =>
    yai p30 x22 s28 fun v31 =>
    ysi p29 x19 (zadd v31 1) s28 fun s32 =>
    ygr 7 7 x18 s32 fun p33 =>
    ysi p33 x19 x24 s32 fun s34 =>
    q16 x18 x19 x20 x21 x22 s34) fun q26 =>
    ygi 7 3 x4 s9 fun v35 =>
   if v35 < x8 then
     (some ((), s9))
   else
   ygr 7 4 x4 s9 fun p36 =>
   yai p36 (zsub x8 1) s9 fun v37 =>
   yvl (zadd x6 v37) fun v38 =>
   ygr 7 4 x4 s9 fun p39 =>
   yai p39 (zsub x8 1) s9 fun v40 =>
   ygi 7 1 x4 s9 fun v41 =>
   yvl (zadd x7 (zmul (zmul v40 (zsub (zsub x8 1) x5)) v41)) fun v42 =>
   if 0 < v38 then
     (ygi 7 2 x4 s9 fun v43 =>
     if v43 < v38 then
       (q16 x4 x5 v38 v42 x8 s9)
     else
     ygr 7 5 x4 s9 fun p44 =>
     yai p44 x8 s9 fun v45 =>
     if v45 = (-1) then
       (q16 x4 x5 v38 v42 x8 s9)
     else
     ygi 7 0 x4 s9 fun v46 =>
     ygr 7 5 x4 s9 fun p47 =>
     yai p47 x8 s9 fun v48 =>
     yvl (zadd (zadd v46 v42) v48) fun v49 =>
     ygr 7 7 x4 s9 fun p50 =>
     yai p50 x8 s9 fun v51 =>
     yvl (zor (zshl 1 x5) v51) fun v52 =>
     ygr 7 5 x4 s9 fun p53 =>
     yai p53 x5 s9 fun v54 =>
     if v54 = (-1) then
       (q26 x4 x5 v38 v42 x8 v49 v52 s9)
     else
     ygr 7 6 x4 s9 fun p55 =>
     yai p55 x8 s9 fun v56 =>
     yck 7 x4 s9 <| ybd (fPrintPlan_isBetter x4 v49 (zadd v56 1) v52 x5 s9) fun v57 s58 =>
     if v57 = 0 then
       (q16 x4 x5 v38 v42 x8 s58)
     else
     q26 x4 x5 v38 v42 x8 v49 v52 s58)
   else
     (q16 x4 x5 v38 v42 x8 s9)
theorem fPrintPlan_printAt_l1_ok {E : Nat → Nat} (d : Nat) : ∀ (n : Nat) (x4 : Nat) (x5 : Int) (x6 : Int) (x7 : Int) (x8 : Int) (s9 : zHp), zE zI Jv E (d + 1) 174 (zB 174 1) ([some (.inr (.inr x4)), some (.inl x5), some (.inl x6), some (.inl x7), some (.inl x8), none, none]) ([]) s9 (fPrintPlan_printAt_l1 n x4 x5 x6 x7 x8 s9) := by
  intro n
  induction n with
  | zero => intro x4 x5 x6 x7 x8 s9; exact zE_none
  | succ n ih =>
    intro x4 x5 x6 x7 x8 s9
    unfold fPrintPlan_printAt_l1
    refine zE_jn (fun q16 => ∀ (y0 : Nat) (y1 : Int) (y2 : Int) (y3 : Int) (y4 : Int) (s : zHp), zE zI Jv E (d + 1) 174 (zB 174 3) ([some (.inr (.inr y0)), some (.inl y1), some (.inl y2), some (.inl y3), some (.inl y4), none, none]) ([]) s (q16 y0 y1 y2 y3 y4 s)) (fun x10 x11 x12 x13 x14 s15 => ?_) (fun q16 hq16 => ?_)
    · refine zE_vl ?_
      refine zq_10_4 rfl ?_
      refine zq_56 ?_
      exact zE_w [true, true, true, true, true, false, false] (ih _ _ _ _ _ _)
    refine zE_jn (fun q26 => ∀ (y0 : Nat) (y1 : Int) (y2 : Int) (y3 : Int) (y4 : Int) (y5 : Int) (y6 : Int) (s : zHp), zE zI Jv E (d + 1) 174 (zB 174 2) ([some (.inr (.inr y0)), some (.inl y1), some (.inl y2), some (.inl y3), some (.inl y4), some (.inl y5), some (.inl y6)]) ([]) s (q26 y0 y1 y2 y3 y4 y5 y6 s)) (fun x18 x19 x20 x21 x22 x23 x24 s25 => ?_) (fun q26 hq26 => ?_)
    · refine zq_6_0 ?_
      refine zh_61 ?_
      refine zq_4_1 ?_
      refine zq_4_5 ?_
      refine zh_68 ?_
      refine zq_6_0 ?_
      refine zh_61 ?_
      refine zq_4_1 ?_
      refine zq_6_0 ?_
      refine zh_61 ?_
      refine zq_4_4 ?_
      refine zh_65 ?_
      refine zq_1 ?_
      refine zq_11 ?_
      refine zh_68 ?_
      refine zq_6_0 ?_
      refine zh_61 ?_
      refine zq_4_1 ?_
      refine zq_4_6 ?_
      refine zh_68 ?_
      refine zq_57 ?_
      exact zE_w [true, true, true, true, true, false, false] (hq16 _ _ _ _ _ _)
    refine zq_4_4 ?_
    refine zq_6_0 ?_
    refine zh_60 ?_
    refine zq_50 ?_ ?_
    · exact zq_101
    refine zq_4_2 ?_
    refine zq_6_0 ?_
    refine zh_61 ?_
    refine zq_4_4 ?_
    refine zq_1 ?_
    refine zq_12 ?_
    refine zh_65 ?_
    refine zq_11 ?_
    refine zE_vl ?_
    refine zq_7_2 rfl ?_
    refine zq_4_3 ?_
    refine zq_6_0 ?_
    refine zh_61 ?_
    refine zq_4_4 ?_
    refine zq_1 ?_
    refine zq_12 ?_
    refine zh_65 ?_
    refine zq_4_4 ?_
    refine zq_1 ?_
    refine zq_12 ?_
    refine zq_4_1 ?_
    refine zq_12 ?_
    refine zq_13 ?_
    refine zq_6_0 ?_
    refine zh_60 ?_
    refine zq_13 ?_
    refine zq_11 ?_
    refine zE_vl ?_
    refine zq_7_3 rfl ?_
    refine zq_4_2 ?_
    refine zq_45 ?_ ?_
    · refine zq_4_2 ?_
      refine zq_6_0 ?_
      refine zh_60 ?_
      refine zq_50 ?_ ?_
      · exact zE_w [true, true, true, true, true, false, false] (hq16 _ _ _ _ _ _)
      refine zq_6_0 ?_
      refine zh_61 ?_
      refine zq_4_4 ?_
      refine zh_65 ?_
      refine zq_1 ?_
      refine zq_46 ?_ ?_
      · exact zE_w [true, true, true, true, true, false, false] (hq16 _ _ _ _ _ _)
      refine zq_6_0 ?_
      refine zh_60 ?_
      refine zq_4_3 ?_
      refine zq_11 ?_
      refine zq_6_0 ?_
      refine zh_61 ?_
      refine zq_4_4 ?_
      refine zh_65 ?_
      refine zq_11 ?_
      refine zE_vl ?_
      refine zq_7_5 rfl ?_
      refine zq_1 ?_
      refine zq_4_1 ?_
      refine zq_17 ?_
      refine zq_6_0 ?_
      refine zh_61 ?_
      refine zq_4_4 ?_
      refine zh_65 ?_
      refine zq_21 ?_
      refine zE_vl ?_
      refine zq_7_6 rfl ?_
      refine zq_6_0 ?_
      refine zh_61 ?_
      refine zq_4_1 ?_
      refine zh_65 ?_
      refine zq_1 ?_
      refine zq_46 ?_ ?_
      · exact zE_w [true, true, true, true, true, true, true] (hq26 _ _ _ _ _ _ _ _)
      refine zq_6_0 ?_
      refine zq_4_5 ?_
      refine zq_6_0 ?_
      refine zh_61 ?_
      refine zq_4_4 ?_
      refine zh_65 ?_
      refine zq_1 ?_
      refine zq_11 ?_
      refine zq_4_6 ?_
      refine zq_4_1 ?_
      refine zE_g fun hg => ?_
      refine zq_92_5i hg rfl rfl (fPrintPlan_isBetter_ok (E := E) _ _ _ _ _ _ _) fun v57 s58 => ?_
      refine zq_40 ?_ ?_
      · exact zE_w [true, true, true, true, true, false, false] (hq16 _ _ _ _ _ _)
      refine zq_57 ?_
      exact zE_w [true, true, true, true, true, true, true] (hq26 _ _ _ _ _ _ _ _)
    · exact zE_w [true, true, true, true, true, false, false] (hq16 _ _ _ _ _ _)
noncomputable def fPrintPlan_printAt (a0 : Nat) (a1 : Int) (s : zHp) : Option (Unit × zHp) :=
  ygr 7 5 a0 s fun p1 =>
  ysi p1 a1 (-1) s fun s2 =>
  yvl (zadd a1 1) fun v3 =>
  fPrintPlan_printAt_l1 zFU a0 a1 0 0 v3 s2
theorem fPrintPlan_printAt_ok {E : Nat → Nat} (d : Nat) (a0 : Nat) (a1 : Int) (s : zHp) : zE zI Jv E (d + 1) 174 (zB 174 0) (zent 7 [.inr (.inr a0), .inl a1]) [] s (fPrintPlan_printAt a0 a1 s) := by
  show zE _ _ _ _ _ _ [some (.inr (.inr a0)), some (.inl a1), none, none, none, none, none] _ _ _
  unfold fPrintPlan_printAt
  refine zq_6_0 ?_
  refine zh_61 ?_
  refine zq_4_1 ?_
  refine zq_1 ?_
  refine zh_68 ?_
  refine zq_1 ?_
  refine zq_7_2 rfl ?_
  refine zq_1 ?_
  refine zq_7_3 rfl ?_
  refine zq_4_1 ?_
  refine zq_1 ?_
  refine zq_11 ?_
  refine zE_vl ?_
  refine zq_7_4 rfl ?_
  refine zq_57 ?_
  exact zE_w [true, true, true, true, true, false, false] (fPrintPlan_printAt_l1_ok (E := E) d zFU _ _ _ _ _ _)
/-! 175: EngraversHouse$PrintPlan.bestFirst:()I -/
noncomputable def fPrintPlan_bestFirst_l1 : Nat → Nat → Int → zHp → (Nat → zHp → Option (Int × zHp)) → Option (Int × zHp)
  | 0, _, _, _, _ => none
  | n + 1, x12, x13, s14, k15 =>
   if x13 < 0 then
     (k15 x12 s14)
   else
   yck 7 x12 s14 <| ybd (fPrintPlan_printAt x12 x13 s14) fun _ s16 =>
   yvl (zadd x13 (-1)) fun v17 =>
   fPrintPlan_bestFirst_l1 n x12 v17 s16 k15
theorem fPrintPlan_bestFirst_l1_ok {E : Nat → Nat} (d : Nat) : ∀ (n : Nat) (x12 : Nat) (x13 : Int) (s14 : zHp) (k15 : Nat → zHp → Option (Int × zHp)) (hk15 : ∀ (y0 : Nat) (s : zHp), zE zI Ji E (d + 2) 175 (zB 175 2) ([some (.inr (.inr y0)), none, none]) ([]) s (k15 y0 s)), zE zI Ji E (d + 2) 175 (zB 175 1) ([some (.inr (.inr x12)), some (.inl x13), none]) ([]) s14 (fPrintPlan_bestFirst_l1 n x12 x13 s14 k15) := by
  intro n
  induction n with
  | zero => intro x12 x13 s14 k15 hk15; exact zE_none
  | succ n ih =>
    intro x12 x13 s14 k15 hk15
    unfold fPrintPlan_bestFirst_l1
    refine zq_4_1 ?_
    refine zq_42 ?_ ?_
    · exact zE_w [true, false, false] (hk15 _ _)
    refine zq_6_0 ?_
    refine zq_4_1 ?_
    refine zE_g fun hg => ?_
    refine zq_92_2v hg rfl rfl (fPrintPlan_printAt_ok (E := E) _ _ _ _) fun _ s16 => ?_
    refine zE_vl ?_
    refine zq_10_1 rfl ?_
    refine zq_56 ?_
    exact zE_w [true, true, false] (ih _ _ _ _ hk15)
noncomputable def fPrintPlan_bestFirst_l3 : Nat → Nat → Int → Int → zHp → Option (Int × zHp)
  | 0, _, _, _, _ => none
  | n + 1, x20, x21, x22, s23 =>
   yjn (fun (x24 : Nat) (x25 : Int) (x26 : Int) (s27 : zHp) =>
    yvl (zadd x26 1) fun v29 =>
    fPrintPlan_bestFirst_l3 n x24 x25 v29 s27) fun q28 =>
    yjn (fun (x30 : Nat) (x31 : Int) (s32 : zHp) =>
    q28 x30 x31 x31 s32) fun q33 =>
    ygi 7 3 x20 s23 fun v34 =>
   if v34 < x22 then
     (some (x21, s23))
   else
   ygr 7 4 x20 s23 fun p35 =>
   yai p35 (zsub x22 1) s23 fun v36 =>
   if v36 = 0 then
     (ygr 7 5 x20 s23 fun p37 =>
     yai p37 x21 s23 fun v38 =>
     if v38 = (-1) then
       (q33 x20 x22 s23)
     else
     ygr 7 5 x20 s23 fun p39 =>
     yai p39 x22 s23 fun v40 =>
     if v40 = (-1) then
       (q28 x20 x21 x22 s23)
     else
     ygr 7 5 x20 s23 fun p41 =>
     yai p41 x22 s23 fun v42 =>
     ygr 7 6 x20 s23 fun p43 =>
     yai p43 x22 s23 fun v44 =>
     ygr 7 7 x20 s23 fun p45 =>
     yai p45 x22 s23 fun v46 =>
     yck 7 x20 s23 <| ybd (fPrintPlan_isBetter x20 v42 v44 v46 x21 s23) fun v47 s48 =>
     if v47 = 0 then
       (q28 x20 x21 x22 s48)
     else
     q33 x20 x22 s48)
   else
     (some (x21, s23))
theorem fPrintPlan_bestFirst_l3_ok {E : Nat → Nat} (d : Nat) : ∀ (n : Nat) (x20 : Nat) (x21 : Int) (x22 : Int) (s23 : zHp), zE zI Ji E (d + 2) 175 (zB 175 3) ([some (.inr (.inr x20)), some (.inl x21), some (.inl x22)]) ([]) s23 (fPrintPlan_bestFirst_l3 n x20 x21 x22 s23) := by
  intro n
  induction n with
  | zero => intro x20 x21 x22 s23; exact zE_none
  | succ n ih =>
    intro x20 x21 x22 s23
    unfold fPrintPlan_bestFirst_l3
    refine zE_jn (fun q28 => ∀ (y0 : Nat) (y1 : Int) (y2 : Int) (s : zHp), zE zI Ji E (d + 2) 175 (zB 175 5) ([some (.inr (.inr y0)), some (.inl y1), some (.inl y2)]) ([]) s (q28 y0 y1 y2 s)) (fun x24 x25 x26 s27 => ?_) (fun q28 hq28 => ?_)
    · refine zE_vl ?_
      refine zq_10_2 rfl ?_
      refine zq_56 ?_
      exact zE_w [true, true, true] (ih _ _ _ _)
    refine zE_jn (fun q33 => ∀ (y0 : Nat) (y1 : Int) (s : zHp), zE zI Ji E (d + 2) 175 (zB 175 4) ([some (.inr (.inr y0)), none, some (.inl y1)]) ([]) s (q33 y0 y1 s)) (fun x30 x31 s32 => ?_) (fun q33 hq33 => ?_)
    · refine zq_4_2 ?_
      refine zq_7_1 rfl ?_
      refine zq_57 ?_
      exact zE_w [true, true, true] (hq28 _ _ _ _)
    refine zq_4_2 ?_
    refine zq_6_0 ?_
    refine zh_60 ?_
    refine zq_50 ?_ ?_
    · refine zq_4_1 ?_
      exact zq_95 rfl
    refine zq_6_0 ?_
    refine zh_61 ?_
    refine zq_4_2 ?_
    refine zq_1 ?_
    refine zq_12 ?_
    refine zh_65 ?_
    refine zq_41 ?_ ?_
    · refine zq_6_0 ?_
      refine zh_61 ?_
      refine zq_4_1 ?_
      refine zh_65 ?_
      refine zq_1 ?_
      refine zq_46 ?_ ?_
      · exact zE_w [true, false, true] (hq33 _ _ _)
      refine zq_6_0 ?_
      refine zh_61 ?_
      refine zq_4_2 ?_
      refine zh_65 ?_
      refine zq_1 ?_
      refine zq_46 ?_ ?_
      · exact zE_w [true, true, true] (hq28 _ _ _ _)
      refine zq_6_0 ?_
      refine zq_6_0 ?_
      refine zh_61 ?_
      refine zq_4_2 ?_
      refine zh_65 ?_
      refine zq_6_0 ?_
      refine zh_61 ?_
      refine zq_4_2 ?_
      refine zh_65 ?_
      refine zq_6_0 ?_
      refine zh_61 ?_
      refine zq_4_2 ?_
      refine zh_65 ?_
      refine zq_4_1 ?_
      refine zE_g fun hg => ?_
      refine zq_92_5i hg rfl rfl (fPrintPlan_isBetter_ok (E := E) _ _ _ _ _ _ _) fun v47 s48 => ?_
      refine zq_40 ?_ ?_
      · exact zE_w [true, true, true] (hq28 _ _ _ _)
      refine zq_57 ?_
      exact zE_w [true, false, true] (hq33 _ _ _)
    · refine zq_4_1 ?_
      exact zq_95 rfl
noncomputable def fPrintPlan_bestFirst (a0 : Nat) (s : zHp) : Option (Int × zHp) :=
  ygr 7 5 a0 s fun p1 =>
  ygi 7 3 a0 s fun v2 =>
  ysi p1 v2 0 s fun s3 =>
  ygr 7 6 a0 s3 fun p4 =>
  ygi 7 3 a0 s3 fun v5 =>
  ysi p4 v5 0 s3 fun s6 =>
  ygr 7 7 a0 s6 fun p7 =>
  ygi 7 3 a0 s6 fun v8 =>
  ysi p7 v8 0 s6 fun s9 =>
  ygi 7 3 a0 s9 fun v10 =>
  yvl (zsub v10 1) fun v11 =>
  fPrintPlan_bestFirst_l1 zFU a0 v11 s9 (fun (x18 : Nat) (s19 : zHp) =>
   fPrintPlan_bestFirst_l3 zFU x18 0 1 s19)
theorem fPrintPlan_bestFirst_ok {E : Nat → Nat} (d : Nat) (a0 : Nat) (s : zHp) : zE zI Ji E (d + 2) 175 (zB 175 0) (zent 3 [.inr (.inr a0)]) [] s (fPrintPlan_bestFirst a0 s) := by
  show zE _ _ _ _ _ _ [some (.inr (.inr a0)), none, none] _ _ _
  unfold fPrintPlan_bestFirst
  refine zq_6_0 ?_
  refine zh_61 ?_
  refine zq_6_0 ?_
  refine zh_60 ?_
  refine zq_1 ?_
  refine zh_68 ?_
  refine zq_6_0 ?_
  refine zh_61 ?_
  refine zq_6_0 ?_
  refine zh_60 ?_
  refine zq_1 ?_
  refine zh_68 ?_
  refine zq_6_0 ?_
  refine zh_61 ?_
  refine zq_6_0 ?_
  refine zh_60 ?_
  refine zq_1 ?_
  refine zh_68 ?_
  refine zq_6_0 ?_
  refine zh_60 ?_
  refine zq_1 ?_
  refine zq_12 ?_
  refine zE_vl ?_
  refine zq_7_1 rfl ?_
  refine zq_57 ?_
  refine zE_w [true, true, false] (fPrintPlan_bestFirst_l1_ok (E := E) d zFU _ _ _ _ (fun x18 s19 => ?_))
  refine zq_1 ?_
  refine zq_7_1 rfl ?_
  refine zq_1 ?_
  refine zq_7_2 rfl ?_
  refine zq_57 ?_
  exact zE_w [true, true, true] (fPrintPlan_bestFirst_l3_ok (E := E) d zFU _ _ _ _)
/-! 176: EngraversHouse.prints:(I)I -/
noncomputable def fH_prints (a0 : Nat) (a1 : Int) (s : zHp) : Option (Int × zHp) :=
  ybd (fH_within a1 0 1 s) fun v1 s2 =>
  if v1 = 0 then
    (some ((-1), s2))
  else
    (ygr 10 14 a0 s2 fun p3 =>
    yck 7 p3 s2 <| ybd (fPrintPlan_asksTooMuch p3 s2) fun v4 s5 =>
    if v4 = 0 then
      (ygr 10 14 a0 s5 fun p6 =>
      yck 7 p6 s5 <| ybd (fPrintPlan_bestFirst p6 s5) fun v7 s8 =>
      if a1 = 0 then
        (ygr 10 14 a0 s8 fun p12 =>
        ygr 7 5 p12 s8 fun p13 =>
        yai p13 v7 s8 fun v14 =>
        some (v14, s8))
      else
        (ygr 10 14 a0 s8 fun p9 =>
        ygr 7 7 p9 s8 fun p10 =>
        yai p10 v7 s8 fun v11 =>
        some (v11, s8)))
    else
    some ((-3), s5))
theorem fH_prints_ok {E : Nat → Nat} (d : Nat) (a0 : Nat) (a1 : Int) (s : zHp) : zE zI Ji E (d + 3) 176 (zB 176 0) (zent 3 [.inr (.inr a0), .inl a1]) [] s (fH_prints a0 a1 s) := by
  show zE _ _ _ _ _ _ [some (.inr (.inr a0)), some (.inl a1), none] _ _ _
  unfold fH_prints
  refine zq_4_1 ?_
  refine zq_1 ?_
  refine zq_1 ?_
  refine zq_90_3i rfl rfl (fH_within_ok (E := E) _ _ _ _ _) fun v1 s2 => ?_
  refine zq_41 ?_ ?_
  · refine zq_1 ?_
    exact zq_95 rfl
  · refine zq_6_0 ?_
    refine zh_61 ?_
    refine zE_g fun hg => ?_
    refine zq_92_1i hg rfl rfl (fPrintPlan_asksTooMuch_ok (E := E) _ _ _) fun v4 s5 => ?_
    refine zq_40 ?_ ?_
    · refine zq_6_0 ?_
      refine zh_61 ?_
      refine zE_g fun hg => ?_
      refine zq_92_1i hg rfl rfl (fPrintPlan_bestFirst_ok (E := E) _ _ _) fun v7 s8 => ?_
      refine zq_7_2 rfl ?_
      refine zq_4_1 ?_
      refine zq_41 ?_ ?_
      · refine zq_6_0 ?_
        refine zh_61 ?_
        refine zh_61 ?_
        refine zq_4_2 ?_
        refine zh_65 ?_
        refine zq_56 ?_
        exact zq_95 rfl
      · refine zq_6_0 ?_
        refine zh_61 ?_
        refine zh_61 ?_
        refine zq_4_2 ?_
        refine zh_65 ?_
        refine zq_57 ?_
        exact zq_95 rfl
    refine zq_1 ?_
    exact zq_95 rfl
/-! 177: EngraversHouse.isHand:(I)Z -/
noncomputable def fH_isHand (a0 : Int) (s : zHp) : Option (Int × zHp) :=
  ybd (fH_within a0 0 3 s) fun v1 s2 =>
  yrb v1 s2
theorem fH_isHand_ok {E : Nat → Nat} (d : Nat) (a0 : Int) (s : zHp) : zE zI Ji E (d + 1) 177 (zB 177 0) (zent 1 [.inl a0]) [] s (fH_isHand a0 s) := by
  show zE _ _ _ _ _ _ [some (.inl a0)] _ _ _
  unfold fH_isHand
  refine zq_4_0 ?_
  refine zq_1 ?_
  refine zq_1 ?_
  refine zq_90_3i rfl rfl (fH_within_ok (E := E) _ _ _ _ _) fun v1 s2 => ?_
  exact zq_96
/-! 178: EngraversHouse.proof:(III)I -/
noncomputable def fH_proof (a0 : Nat) (a1 : Int) (a2 : Int) (a3 : Int) (s : zHp) : Option (Int × zHp) :=
  ybd (fH_isHand a1 s) fun v1 s2 =>
  if v1 = 0 then
    (some ((-1), s2))
  else
  yck 10 a0 s2 <| ybd (fH_thingAt a0 a2 s2) fun p3 s4 =>
  if p3 = 0 then
    (some ((-1), s4))
  else
    (yck 10 a0 s4 <| ybd (fH_plateAt a0 a2 s4) fun p5 s6 =>
    if p5 = 0 then
      (some ((-12), s6))
    else
      (ygr 6 4 p5 s6 fun p7 =>
      yln p7 s6 fun v8 =>
      ybd (fH_within a3 0 (zsub (zshl 1 v8) 1) s6) fun v9 s10 =>
      if v9 = 0 then
        (some ((-2), s10))
      else
        (ygr 6 5 p5 s10 fun p11 =>
        ysi p11 a1 a3 s10 fun s12 =>
        yck 6 p5 s12 <| ybd (fPlate_unlikeBars p5 s12) fun v13 s14 =>
        ybd (fJInteger_bitCount (zand a3 v13) s14) fun v15 s16 =>
        some (v15, s16))))
theorem fH_proof_ok {E : Nat → Nat} (d : Nat) (a0 : Nat) (a1 : Int) (a2 : Int) (a3 : Int) (s : zHp) : zE zI Ji E (d + 5) 178 (zB 178 0) (zent 5 [.inr (.inr a0), .inl a1, .inl a2, .inl a3]) [] s (fH_proof a0 a1 a2 a3 s) := by
  show zE _ _ _ _ _ _ [some (.inr (.inr a0)), some (.inl a1), some (.inl a2), some (.inl a3), none] _ _ _
  unfold fH_proof
  refine zq_4_1 ?_
  refine zq_90_1i rfl rfl (fH_isHand_ok (E := E) _ _ _) fun v1 s2 => ?_
  refine zq_40 ?_ ?_
  · refine zq_1 ?_
    exact zq_95 rfl
  refine zq_6_0 ?_
  refine zq_4_2 ?_
  refine zE_g fun hg => ?_
  refine zq_92_2r hg rfl rfl (fH_thingAt_ok (E := E) _ _ _ _) fun p3 s4 => ?_
  refine zq_55 ?_ ?_
  · refine zq_57 ?_
    refine zq_1 ?_
    exact zq_95 rfl
  · refine zq_6_0 ?_
    refine zq_4_2 ?_
    refine zE_g fun hg => ?_
    refine zq_92_2r hg rfl rfl (fH_plateAt_ok (E := E) _ _ _ _) fun p5 s6 => ?_
    refine zq_9_4 rfl ?_
    refine zq_6_4 ?_
    refine zq_55 ?_ ?_
    · refine zq_1 ?_
      exact zq_95 rfl
    · refine zq_4_3 ?_
      refine zq_1 ?_
      refine zq_1 ?_
      refine zq_6_4 ?_
      refine zh_61 ?_
      refine zh_72 ?_
      refine zq_17 ?_
      refine zq_1 ?_
      refine zq_12 ?_
      refine zq_90_3i rfl rfl (fH_within_ok (E := E) _ _ _ _ _) fun v9 s10 => ?_
      refine zq_41 ?_ ?_
      · refine zq_1 ?_
        exact zq_95 rfl
      · refine zq_6_4 ?_
        refine zh_61 ?_
        refine zq_4_1 ?_
        refine zq_4_3 ?_
        refine zh_68 ?_
        refine zq_4_3 ?_
        refine zq_6_4 ?_
        refine zE_g fun hg => ?_
        refine zq_92_1i hg rfl rfl (fPlate_unlikeBars_ok (E := E) _ _ _) fun v13 s14 => ?_
        refine zq_20 ?_
        refine zq_90_1i rfl rfl (fJInteger_bitCount_ok (E := E) _ _ _) fun v15 s16 => ?_
        exact zq_95 rfl
/-! 179: EngraversHouse.commonDivisor:(II)I -/
noncomputable def fH_commonDivisor_l1 : Nat → Int → Int → Int → zHp → Option (Int × zHp)
  | 0, _, _, _, _ => none
  | n + 1, x1, x2, x3, s4 =>
   yjn (fun (x5 : Int) (x6 : Int) (x7 : Int) (s8 : zHp) =>
    yvl (zadd x7 (-1)) fun v10 =>
    fH_commonDivisor_l1 n x5 x6 v10 s8) fun q9 =>
    if 1 < x3 then
     (ydv x3 <|
     if (zrem x1 x3) = 0 then
       (ydv x3 <|
       if (zrem x2 x3) = 0 then
         (some (x3, s4))
       else
         (q9 x1 x2 x3 s4))
     else
       (q9 x1 x2 x3 s4))
   else
     (some (1, s4))
theorem fH_commonDivisor_l1_ok {E : Nat → Nat} (d : Nat) : ∀ (n : Nat) (x1 : Int) (x2 : Int) (x3 : Int) (s4 : zHp), zE zI Ji E (d + 0) 179 (zB 179 1) ([some (.inl x1), some (.inl x2), some (.inl x3)]) ([]) s4 (fH_commonDivisor_l1 n x1 x2 x3 s4) := by
  intro n
  induction n with
  | zero => intro x1 x2 x3 s4; exact zE_none
  | succ n ih =>
    intro x1 x2 x3 s4
    unfold fH_commonDivisor_l1
    refine zE_jn (fun q9 => ∀ (y0 : Int) (y1 : Int) (y2 : Int) (s : zHp), zE zI Ji E (d + 0) 179 (zB 179 2) ([some (.inl y0), some (.inl y1), some (.inl y2)]) ([]) s (q9 y0 y1 y2 s)) (fun x5 x6 x7 s8 => ?_) (fun q9 hq9 => ?_)
    · refine zE_vl ?_
      refine zq_10_2 rfl ?_
      refine zq_56 ?_
      exact zE_w [true, true, true] (ih _ _ _ _)
    refine zq_4_2 ?_
    refine zq_1 ?_
    refine zq_51 ?_ ?_
    · refine zq_4_0 ?_
      refine zq_4_2 ?_
      refine zq_15 ?_
      refine zq_41 ?_ ?_
      · refine zq_4_1 ?_
        refine zq_4_2 ?_
        refine zq_15 ?_
        refine zq_41 ?_ ?_
        · refine zq_4_2 ?_
          exact zq_95 rfl
        · exact zE_w [true, true, true] (hq9 _ _ _ _)
      · exact zE_w [true, true, true] (hq9 _ _ _ _)
    · refine zq_1 ?_
      exact zq_95 rfl
noncomputable def fH_commonDivisor (a0 : Int) (a1 : Int) (s : zHp) : Option (Int × zHp) :=
  fH_commonDivisor_l1 zFU a0 a1 a1 s
theorem fH_commonDivisor_ok {E : Nat → Nat} (d : Nat) (a0 : Int) (a1 : Int) (s : zHp) : zE zI Ji E (d + 0) 179 (zB 179 0) (zent 3 [.inl a0, .inl a1]) [] s (fH_commonDivisor a0 a1 s) := by
  show zE _ _ _ _ _ _ [some (.inl a0), some (.inl a1), none] _ _ _
  unfold fH_commonDivisor
  refine zq_4_1 ?_
  refine zq_7_2 rfl ?_
  refine zq_57 ?_
  exact zE_w [true, true, true] (fH_commonDivisor_l1_ok (E := E) d zFU _ _ _ _)
/-! 180: EngraversHouse.left:(IIII)J -/
noncomputable def fH_left (a0 : Nat) (a1 : Int) (a2 : Int) (a3 : Int) (a4 : Int) (s : zHp) : Option (Int × zHp) :=
  yck 10 a0 s <| ybd (fH_plateAt a0 a1 s) fun p1 s2 =>
  if p1 = 0 then
    (some ((-9223372036854775808), s2))
  else
  ybd (fH_isHand a2 s2) fun v3 s4 =>
  if v3 = 0 then
    (some ((-9223372036854775808), s4))
  else
  ybd (fH_isHand a3 s4) fun v5 s6 =>
  if v5 = 0 then
    (some ((-9223372036854775808), s6))
  else
  if a2 = a3 then
    (some ((-9223372036854775808), s6))
  else
  ybd (fH_within a4 0 1 s6) fun v7 s8 =>
  if v7 = 0 then
    (some ((-9223372036854775808), s8))
  else
    (ygr 6 5 p1 s8 fun p9 =>
    yai p9 a2 s8 fun v10 =>
    ygr 6 5 p1 s8 fun p11 =>
    yai p11 a3 s8 fun v12 =>
    if v10 = (-1) then
      (some ((-9223372036854775808), s8))
    else
    if v12 = (-1) then
      (some ((-9223372036854775808), s8))
    else
    if (zand v10 v12) = 0 then
      (some ((-9223372036854775808), s8))
    else
      (ybd (fJInteger_bitCount (zand v10 v12) s8) fun v13 s14 =>
      ybd (fJInteger_bitCount v10 s14) fun v15 s16 =>
      ybd (fJInteger_bitCount v12 s16) fun v17 s18 =>
      yvl (zmul (zsub v15 v13) (zsub v17 v13)) fun v19 =>
      ybd (fH_commonDivisor v19 v13 s18) fun v20 s21 =>
      if a4 = 0 then
        (ydv v20 <|
        some (zi2l (zdiv v19 v20), s21))
      else
        (ydv v20 <|
        some (zi2l (zdiv v13 v20), s21))))
theorem fH_left_ok {E : Nat → Nat} (d : Nat) (a0 : Nat) (a1 : Int) (a2 : Int) (a3 : Int) (a4 : Int) (s : zHp) : zE zI Jl E (d + 2) 180 (zB 180 0) (zent 11 [.inr (.inr a0), .inl a1, .inl a2, .inl a3, .inl a4]) [] s (fH_left a0 a1 a2 a3 a4 s) := by
  show zE _ _ _ _ _ _ [some (.inr (.inr a0)), some (.inl a1), some (.inl a2), some (.inl a3), some (.inl a4), none, none, none, none, none, none] _ _ _
  unfold fH_left
  refine zq_6_0 ?_
  refine zq_4_1 ?_
  refine zE_g fun hg => ?_
  refine zq_92_2r hg rfl rfl (fH_plateAt_ok (E := E) _ _ _ _) fun p1 s2 => ?_
  refine zq_9_5 rfl ?_
  refine zq_6_5 ?_
  refine zq_54 ?_ ?_
  · refine zq_2 ?_
    exact zq_99
  refine zq_4_2 ?_
  refine zq_90_1i rfl rfl (fH_isHand_ok (E := E) _ _ _) fun v3 s4 => ?_
  refine zq_40 ?_ ?_
  · refine zq_2 ?_
    exact zq_99
  refine zq_4_3 ?_
  refine zq_90_1i rfl rfl (fH_isHand_ok (E := E) _ _ _) fun v5 s6 => ?_
  refine zq_40 ?_ ?_
  · refine zq_2 ?_
    exact zq_99
  refine zq_4_2 ?_
  refine zq_4_3 ?_
  refine zq_46 ?_ ?_
  · refine zq_2 ?_
    exact zq_99
  refine zq_4_4 ?_
  refine zq_1 ?_
  refine zq_1 ?_
  refine zq_90_3i rfl rfl (fH_within_ok (E := E) _ _ _ _ _) fun v7 s8 => ?_
  refine zq_41 ?_ ?_
  · refine zq_57 ?_
    refine zq_2 ?_
    exact zq_99
  · refine zq_6_5 ?_
    refine zh_61 ?_
    refine zq_4_2 ?_
    refine zh_65 ?_
    refine zq_7_6 rfl ?_
    refine zq_6_5 ?_
    refine zh_61 ?_
    refine zq_4_3 ?_
    refine zh_65 ?_
    refine zq_7_7 rfl ?_
    refine zq_4_6 ?_
    refine zq_1 ?_
    refine zq_46 ?_ ?_
    · refine zq_2 ?_
      exact zq_99
    refine zq_4_7 ?_
    refine zq_1 ?_
    refine zq_46 ?_ ?_
    · refine zq_2 ?_
      exact zq_99
    refine zq_4_6 ?_
    refine zq_4_7 ?_
    refine zq_20 ?_
    refine zq_41 ?_ ?_
    · refine zq_57 ?_
      refine zq_2 ?_
      exact zq_99
    · refine zq_4_6 ?_
      refine zq_4_7 ?_
      refine zq_20 ?_
      refine zq_90_1i rfl rfl (fJInteger_bitCount_ok (E := E) _ _ _) fun v13 s14 => ?_
      refine zq_7_8 rfl ?_
      refine zq_4_6 ?_
      refine zq_90_1i rfl rfl (fJInteger_bitCount_ok (E := E) _ _ _) fun v15 s16 => ?_
      refine zq_4_8 ?_
      refine zq_12 ?_
      refine zq_4_7 ?_
      refine zq_90_1i rfl rfl (fJInteger_bitCount_ok (E := E) _ _ _) fun v17 s18 => ?_
      refine zq_4_8 ?_
      refine zq_12 ?_
      refine zq_13 ?_
      refine zE_vl ?_
      refine zq_7_9 rfl ?_
      refine zq_4_9 ?_
      refine zq_4_8 ?_
      refine zq_90_2i rfl rfl (fH_commonDivisor_ok (E := E) _ _ _ _) fun v20 s21 => ?_
      refine zq_7_10 rfl ?_
      refine zq_4_4 ?_
      refine zq_41 ?_ ?_
      · refine zq_4_9 ?_
        refine zq_4_10 ?_
        refine zq_14 ?_
        refine zq_23 ?_
        refine zq_56 ?_
        exact zq_99
      · refine zq_4_8 ?_
        refine zq_4_10 ?_
        refine zq_14 ?_
        refine zq_23 ?_
        refine zq_57 ?_
        exact zq_99
/-! 181: EngraversHouse.missed:(II)I -/
noncomputable def fH_missed (a0 : Nat) (a1 : Int) (a2 : Int) (s : zHp) : Option (Int × zHp) :=
  ybd (fH_isHand a1 s) fun v1 s2 =>
  if v1 = 0 then
    (some ((-1), s2))
  else
  yck 10 a0 s2 <| ybd (fH_thingAt a0 a2 s2) fun p3 s4 =>
  if p3 = 0 then
    (some ((-1), s4))
  else
    (yck 10 a0 s4 <| ybd (fH_plateAt a0 a2 s4) fun p5 s6 =>
    if p5 = 0 then
      (some ((-12), s6))
    else
      (ygr 6 5 p5 s6 fun p7 =>
      yai p7 a1 s6 fun v8 =>
      if v8 = (-1) then
        (some ((-3), s6))
      else
        (yck 6 p5 s6 <| ybd (fPlate_unlikeBars p5 s6) fun v9 s10 =>
        ygr 6 5 p5 s10 fun p11 =>
        yai p11 a1 s10 fun v12 =>
        ybd (fJInteger_bitCount (zand v9 (zxor v12 (-1))) s10) fun v13 s14 =>
        some (v13, s14))))
theorem fH_missed_ok {E : Nat → Nat} (d : Nat) (a0 : Nat) (a1 : Int) (a2 : Int) (s : zHp) : zE zI Ji E (d + 5) 181 (zB 181 0) (zent 4 [.inr (.inr a0), .inl a1, .inl a2]) [] s (fH_missed a0 a1 a2 s) := by
  show zE _ _ _ _ _ _ [some (.inr (.inr a0)), some (.inl a1), some (.inl a2), none] _ _ _
  unfold fH_missed
  refine zq_4_1 ?_
  refine zq_90_1i rfl rfl (fH_isHand_ok (E := E) _ _ _) fun v1 s2 => ?_
  refine zq_40 ?_ ?_
  · refine zq_1 ?_
    exact zq_95 rfl
  refine zq_6_0 ?_
  refine zq_4_2 ?_
  refine zE_g fun hg => ?_
  refine zq_92_2r hg rfl rfl (fH_thingAt_ok (E := E) _ _ _ _) fun p3 s4 => ?_
  refine zq_55 ?_ ?_
  · refine zq_57 ?_
    refine zq_1 ?_
    exact zq_95 rfl
  · refine zq_6_0 ?_
    refine zq_4_2 ?_
    refine zE_g fun hg => ?_
    refine zq_92_2r hg rfl rfl (fH_plateAt_ok (E := E) _ _ _ _) fun p5 s6 => ?_
    refine zq_9_3 rfl ?_
    refine zq_6_3 ?_
    refine zq_55 ?_ ?_
    · refine zq_1 ?_
      exact zq_95 rfl
    · refine zq_6_3 ?_
      refine zh_61 ?_
      refine zq_4_1 ?_
      refine zh_65 ?_
      refine zq_1 ?_
      refine zq_47 ?_ ?_
      · refine zq_1 ?_
        exact zq_95 rfl
      · refine zq_6_3 ?_
        refine zE_g fun hg => ?_
        refine zq_92_1i hg rfl rfl (fPlate_unlikeBars_ok (E := E) _ _ _) fun v9 s10 => ?_
        refine zq_6_3 ?_
        refine zh_61 ?_
        refine zq_4_1 ?_
        refine zh_65 ?_
        refine zq_1 ?_
        refine zq_22 ?_
        refine zq_20 ?_
        refine zq_90_1i rfl rfl (fJInteger_bitCount_ok (E := E) _ _ _) fun v13 s14 => ?_
        exact zq_95 rfl
/-! 182: EngraversHouse.ownBody:(II)I -/
noncomputable def fH_ownBody (E : Nat → Nat) (a0 : Int) (a1 : Int) (s : zHp) : Option (Int × zHp) :=
  yvl (zadd (zmul a0 3) a1) fun v1 =>
  if v1 < (0 : Int) then
    (some (0, s))
  else
  yln (E 14) s fun v2 =>
  if v1 < v2 then
    (yai (E 14) v1 s fun v3 =>
    some (v3, s))
  else
    (some (0, s))
theorem fH_ownBody_ok {E : Nat → Nat} (d : Nat) (a0 : Int) (a1 : Int) (s : zHp) : zE zI Ji E (d + 0) 182 (zB 182 0) (zent 3 [.inl a0, .inl a1]) [] s (fH_ownBody E a0 a1 s) := by
  show zE _ _ _ _ _ _ [some (.inl a0), some (.inl a1), none] _ _ _
  unfold fH_ownBody
  refine zq_4_0 ?_
  refine zq_1 ?_
  refine zq_13 ?_
  refine zq_4_1 ?_
  refine zq_11 ?_
  refine zE_vl ?_
  refine zq_7_2 rfl ?_
  refine zq_1 ?_
  refine zq_4_2 ?_
  refine zq_50 ?_ ?_
  · refine zq_1 ?_
    refine zq_57 ?_
    exact zq_95 rfl
  refine zq_4_2 ?_
  refine zh_80 ?_
  refine zh_72 ?_
  refine zq_49 ?_ ?_
  · refine zh_80 ?_
    refine zq_4_2 ?_
    refine zh_65 ?_
    refine zq_56 ?_
    exact zq_95 rfl
  · refine zq_1 ?_
    refine zq_57 ?_
    exact zq_95 rfl
/-! 183: EngraversHouse.kindAbove:(I)I -/
noncomputable def fH_kindAbove (E : Nat → Nat) (a0 : Int) (s : zHp) : Option (Int × zHp) :=
  ybd (fH_within a0 1 7 s) fun v1 s2 =>
  if v1 = 0 then
    (some (0, s2))
  else
  yai (E 13) a0 s2 fun v3 =>
  some (v3, s2)
theorem fH_kindAbove_ok {E : Nat → Nat} (d : Nat) (a0 : Int) (s : zHp) : zE zI Ji E (d + 1) 183 (zB 183 0) (zent 1 [.inl a0]) [] s (fH_kindAbove E a0 s) := by
  show zE _ _ _ _ _ _ [some (.inl a0)] _ _ _
  unfold fH_kindAbove
  refine zq_4_0 ?_
  refine zq_1 ?_
  refine zq_1 ?_
  refine zq_90_3i rfl rfl (fH_within_ok (E := E) _ _ _ _ _) fun v1 s2 => ?_
  refine zq_40 ?_ ?_
  · refine zq_1 ?_
    refine zq_57 ?_
    exact zq_95 rfl
  refine zh_80 ?_
  refine zq_4_0 ?_
  refine zh_65 ?_
  refine zq_56 ?_
  exact zq_95 rfl
/-! 184: EngraversHouse.answerOf:(ILEngraversHouse$Thing;III)I -/
noncomputable def fH_answerOf (E : Nat → Nat) (F : Nat → Nat → Int → Int → Int → Int → zHp → Option (Int × zHp)) (a0 : Nat) (a1 : Int) (a2 : Nat) (a3 : Int) (a4 : Int) (a5 : Int) (s : zHp) : Option (Int × zHp) :=
  if a1 = 10 then
    (ygi 20 1 a2 s fun v1 =>
    some (zadd a4 v1, s))
  else if a1 = 11 then
    (ygi 20 0 a2 s fun v2 =>
    yck 10 a0 s <| ybd (F a0 a2 0 v2 a4 a5 s) fun v3 s4 =>
    some (zxor v3 3, s4))
  else if a1 = 12 then
    (ygi 20 0 a2 s fun v5 =>
    yck 10 a0 s <| ybd (F a0 a2 1 v5 a4 a5 s) fun v6 s7 =>
    some (zsub v6 a4, s7))
  else if a1 = 20 then
    (yck 10 a0 s <| ybd (F a0 a2 0 a3 a4 a5 s) fun v8 s9 =>
    some (zmul v8 2, s9))
  else if a1 = 30 then
    (yck 10 a0 s <| ybd (F a0 a2 1 a3 a4 a5 s) fun v10 s11 =>
    ygi 20 0 a2 s11 fun v12 =>
    yck 10 a0 s11 <| ybd (F a0 a2 0 v12 1 a5 s11) fun v13 s14 =>
    some (zadd v10 v13, s14))
  else if a1 = 40 then
    (yck 10 a0 s <| ybd (F a0 a2 2 a3 a4 a5 s) fun v15 s16 =>
    some (zadd v15 7, s16))
  else if a1 = 50 then
    (yck 10 a0 s <| ybd (F a0 a2 0 a3 (zadd a4 4) a5 s) fun v17 s18 =>
    some (v17, s18))
  else if a1 = 60 then
    (yck 10 a0 s <| ybd (F a0 a2 1 a3 a4 a5 s) fun v19 s20 =>
    some (zneg v19, s20))
  else if a1 = 61 then
    (yck 10 a0 s <| ybd (F a0 a2 0 a3 a4 a5 s) fun v21 s22 =>
    some (zadd v21 1, s22))
  else if a1 = 70 then
    (yck 10 a0 s <| ybd (F a0 a2 2 a3 a4 a5 s) fun v23 s24 =>
    ygi 20 0 a2 s24 fun v25 =>
    yck 10 a0 s24 <| ybd (F a0 a2 0 v25 a4 a5 s24) fun v26 s27 =>
    some (zxor v23 v26, s27))
  else if a1 = 80 then
    (ygi 20 0 a2 s fun v28 =>
    yck 10 a0 s <| ybd (F a0 a2 0 v28 a4 a5 s) fun v29 s30 =>
    yck 10 a0 s30 <| ybd (F a0 a2 1 a3 a4 a5 s30) fun v31 s32 =>
    some (zsub v29 v31, s32))
  else some (0, s)
theorem fH_answerOf_ok {E : Nat → Nat} (F : Nat → Nat → Int → Int → Int → Int → zHp → Option (Int × zHp)) (d : Nat) (hF : ∀ (y0 : Nat) (y1 : Nat) (y2 : Int) (y3 : Int) (y4 : Int) (y5 : Int) (s : zHp), zE zI Ji E (d + 1) 185 (zB 185 0) (zent 8 [.inr (.inr y0), .inr (.inr y1), .inl y2, .inl y3, .inl y4, .inl y5]) [] s (F y0 y1 y2 y3 y4 y5 s)) (a0 : Nat) (a1 : Int) (a2 : Nat) (a3 : Int) (a4 : Int) (a5 : Int) (s : zHp) : zE zI Ji E (d + 2) 184 (zB 184 0) (zent 6 [.inr (.inr a0), .inl a1, .inr (.inr a2), .inl a3, .inl a4, .inl a5]) [] s (fH_answerOf E F a0 a1 a2 a3 a4 a5 s) := by
  show zE _ _ _ _ _ _ [some (.inr (.inr a0)), some (.inl a1), some (.inr (.inr a2)), some (.inl a3), some (.inl a4), some (.inl a5)] _ _ _
  unfold fH_answerOf
  refine zq_4_1 ?_
  refine zq_59 ?_
  refine zq_sw ?_ ?_
  · refine zq_4_4 ?_
    refine zq_6_2 ?_
    refine zh_60 ?_
    refine zq_11 ?_
    exact zq_95 rfl
  refine zq_sw ?_ ?_
  · refine zq_6_0 ?_
    refine zq_6_2 ?_
    refine zq_1 ?_
    refine zq_6_2 ?_
    refine zh_60 ?_
    refine zq_4_4 ?_
    refine zq_4_5 ?_
    refine zE_g fun hg => ?_
    refine zq_92_6i hg rfl rfl (zE_d (by omega) <| hF _ _ _ _ _ _ _) fun v3 s4 => ?_
    refine zq_1 ?_
    refine zq_22 ?_
    exact zq_95 rfl
  refine zq_sw ?_ ?_
  · refine zq_6_0 ?_
    refine zq_6_2 ?_
    refine zq_1 ?_
    refine zq_6_2 ?_
    refine zh_60 ?_
    refine zq_4_4 ?_
    refine zq_4_5 ?_
    refine zE_g fun hg => ?_
    refine zq_92_6i hg rfl rfl (zE_d (by omega) <| hF _ _ _ _ _ _ _) fun v6 s7 => ?_
    refine zq_4_4 ?_
    refine zq_12 ?_
    exact zq_95 rfl
  refine zq_sw ?_ ?_
  · refine zq_6_0 ?_
    refine zq_6_2 ?_
    refine zq_1 ?_
    refine zq_4_3 ?_
    refine zq_4_4 ?_
    refine zq_4_5 ?_
    refine zE_g fun hg => ?_
    refine zq_92_6i hg rfl rfl (zE_d (by omega) <| hF _ _ _ _ _ _ _) fun v8 s9 => ?_
    refine zq_1 ?_
    refine zq_13 ?_
    exact zq_95 rfl
  refine zq_sw ?_ ?_
  · refine zq_6_0 ?_
    refine zq_6_2 ?_
    refine zq_1 ?_
    refine zq_4_3 ?_
    refine zq_4_4 ?_
    refine zq_4_5 ?_
    refine zE_g fun hg => ?_
    refine zq_92_6i hg rfl rfl (zE_d (by omega) <| hF _ _ _ _ _ _ _) fun v10 s11 => ?_
    refine zq_6_0 ?_
    refine zq_6_2 ?_
    refine zq_1 ?_
    refine zq_6_2 ?_
    refine zh_60 ?_
    refine zq_1 ?_
    refine zq_4_5 ?_
    refine zE_g fun hg => ?_
    refine zq_92_6i hg rfl rfl (zE_d (by omega) <| hF _ _ _ _ _ _ _) fun v13 s14 => ?_
    refine zq_11 ?_
    exact zq_95 rfl
  refine zq_sw ?_ ?_
  · refine zq_6_0 ?_
    refine zq_6_2 ?_
    refine zq_1 ?_
    refine zq_4_3 ?_
    refine zq_4_4 ?_
    refine zq_4_5 ?_
    refine zE_g fun hg => ?_
    refine zq_92_6i hg rfl rfl (zE_d (by omega) <| hF _ _ _ _ _ _ _) fun v15 s16 => ?_
    refine zq_1 ?_
    refine zq_11 ?_
    exact zq_95 rfl
  refine zq_sw ?_ ?_
  · refine zq_6_0 ?_
    refine zq_6_2 ?_
    refine zq_1 ?_
    refine zq_4_3 ?_
    refine zq_4_4 ?_
    refine zq_1 ?_
    refine zq_11 ?_
    refine zq_4_5 ?_
    refine zE_g fun hg => ?_
    refine zq_92_6i hg rfl rfl (zE_d (by omega) <| hF _ _ _ _ _ _ _) fun v17 s18 => ?_
    exact zq_95 rfl
  refine zq_sw ?_ ?_
  · refine zq_6_0 ?_
    refine zq_6_2 ?_
    refine zq_1 ?_
    refine zq_4_3 ?_
    refine zq_4_4 ?_
    refine zq_4_5 ?_
    refine zE_g fun hg => ?_
    refine zq_92_6i hg rfl rfl (zE_d (by omega) <| hF _ _ _ _ _ _ _) fun v19 s20 => ?_
    refine zq_16 ?_
    exact zq_95 rfl
  refine zq_sw ?_ ?_
  · refine zq_6_0 ?_
    refine zq_6_2 ?_
    refine zq_1 ?_
    refine zq_4_3 ?_
    refine zq_4_4 ?_
    refine zq_4_5 ?_
    refine zE_g fun hg => ?_
    refine zq_92_6i hg rfl rfl (zE_d (by omega) <| hF _ _ _ _ _ _ _) fun v21 s22 => ?_
    refine zq_1 ?_
    refine zq_11 ?_
    exact zq_95 rfl
  refine zq_sw ?_ ?_
  · refine zq_6_0 ?_
    refine zq_6_2 ?_
    refine zq_1 ?_
    refine zq_4_3 ?_
    refine zq_4_4 ?_
    refine zq_4_5 ?_
    refine zE_g fun hg => ?_
    refine zq_92_6i hg rfl rfl (zE_d (by omega) <| hF _ _ _ _ _ _ _) fun v23 s24 => ?_
    refine zq_6_0 ?_
    refine zq_6_2 ?_
    refine zq_1 ?_
    refine zq_6_2 ?_
    refine zh_60 ?_
    refine zq_4_4 ?_
    refine zq_4_5 ?_
    refine zE_g fun hg => ?_
    refine zq_92_6i hg rfl rfl (zE_d (by omega) <| hF _ _ _ _ _ _ _) fun v26 s27 => ?_
    refine zq_22 ?_
    exact zq_95 rfl
  refine zq_sw ?_ ?_
  · refine zq_6_0 ?_
    refine zq_6_2 ?_
    refine zq_1 ?_
    refine zq_6_2 ?_
    refine zh_60 ?_
    refine zq_4_4 ?_
    refine zq_4_5 ?_
    refine zE_g fun hg => ?_
    refine zq_92_6i hg rfl rfl (zE_d (by omega) <| hF _ _ _ _ _ _ _) fun v29 s30 => ?_
    refine zq_6_0 ?_
    refine zq_6_2 ?_
    refine zq_1 ?_
    refine zq_4_3 ?_
    refine zq_4_4 ?_
    refine zq_4_5 ?_
    refine zE_g fun hg => ?_
    refine zq_92_6i hg rfl rfl (zE_d (by omega) <| hF _ _ _ _ _ _ _) fun v31 s32 => ?_
    refine zq_12 ?_
    exact zq_95 rfl
  refine zq_1 ?_
  exact zq_95 rfl
/-! 185: EngraversHouse.runBody:(LEngraversHouse$Thing;IIII)I -/
noncomputable def fH_runBody_l2 (E : Nat → Nat) (F : Nat → Nat → Int → Int → Int → Int → zHp → Option (Int × zHp)) : Nat → Nat → Nat → Int → Int → Int → Int → Int → zHp → (Nat → Nat → Int → Int → Int → Int → zHp → Option (Int × zHp)) → Option (Int × zHp)
  | 0, _, _, _, _, _, _, _, _, _ => none
  | n + 1, x1, x2, x3, x4, x5, x6, x7, s8, k9 =>
   if 7 < x7 then
     (k9 x1 x2 x3 x4 x5 x6 s8)
   else
   if 0 < x6 then
     (ybd (fH_ownBody E x6 x3 s8) fun v10 s11 =>
     if v10 = 0 then
       (ybd (fH_kindAbove E x6 s11) fun v12 s13 =>
       yvl (zadd x7 1) fun v14 =>
       fH_runBody_l2 E F n x1 x2 x3 x4 x5 v12 v14 s13 k9)
     else
       (k9 x1 x2 x3 x4 x5 x6 s11))
   else
     (k9 x1 x2 x3 x4 x5 x6 s8)
theorem fH_runBody_l2_ok {E : Nat → Nat} (F : Nat → Nat → Int → Int → Int → Int → zHp → Option (Int × zHp)) (d : Nat) (hF : ∀ (y0 : Nat) (y1 : Nat) (y2 : Int) (y3 : Int) (y4 : Int) (y5 : Int) (s : zHp), zE zI Ji E (d + 1) 185 (zB 185 0) (zent 8 [.inr (.inr y0), .inr (.inr y1), .inl y2, .inl y3, .inl y4, .inl y5]) [] s (F y0 y1 y2 y3 y4 y5 s)) : ∀ (n : Nat) (x1 : Nat) (x2 : Nat) (x3 : Int) (x4 : Int) (x5 : Int) (x6 : Int) (x7 : Int) (s8 : zHp) (k9 : Nat → Nat → Int → Int → Int → Int → zHp → Option (Int × zHp)) (hk9 : ∀ (y0 : Nat) (y1 : Nat) (y2 : Int) (y3 : Int) (y4 : Int) (y5 : Int) (s : zHp), zE zI Ji E (d + 3) 185 (zB 185 3) ([some (.inr (.inr y0)), some (.inr (.inr y1)), some (.inl y2), none, some (.inl y3), some (.inl y4), some (.inl y5), none]) ([]) s (k9 y0 y1 y2 y3 y4 y5 s)), zE zI Ji E (d + 3) 185 (zB 185 2) ([some (.inr (.inr x1)), some (.inr (.inr x2)), some (.inl x3), none, some (.inl x4), some (.inl x5), some (.inl x6), some (.inl x7)]) ([]) s8 (fH_runBody_l2 E F n x1 x2 x3 x4 x5 x6 x7 s8 k9) := by
  intro n
  induction n with
  | zero => intro x1 x2 x3 x4 x5 x6 x7 s8 k9 hk9; exact zE_none
  | succ n ih =>
    intro x1 x2 x3 x4 x5 x6 x7 s8 k9 hk9
    unfold fH_runBody_l2
    refine zq_4_7 ?_
    refine zq_1 ?_
    refine zq_50 ?_ ?_
    · exact zE_w [true, true, true, false, true, true, true, false] (hk9 _ _ _ _ _ _ _)
    refine zq_4_6 ?_
    refine zq_45 ?_ ?_
    · refine zq_4_6 ?_
      refine zq_4_2 ?_
      refine zq_90_2i rfl rfl (fH_ownBody_ok (E := E) _ _ _ _) fun v10 s11 => ?_
      refine zq_41 ?_ ?_
      · refine zq_4_6 ?_
        refine zq_90_1i rfl rfl (fH_kindAbove_ok (E := E) _ _ _) fun v12 s13 => ?_
        refine zq_7_6 rfl ?_
        refine zE_vl ?_
        refine zq_10_7 rfl ?_
        refine zq_56 ?_
        exact zE_w [true, true, true, false, true, true, true, true] (ih _ _ _ _ _ _ _ _ _ hk9)
      · exact zE_w [true, true, true, false, true, true, true, false] (hk9 _ _ _ _ _ _ _)
    · exact zE_w [true, true, true, false, true, true, true, false] (hk9 _ _ _ _ _ _ _)
noncomputable def fH_runBody_b (E : Nat → Nat) (F : Nat → Nat → Int → Int → Int → Int → zHp → Option (Int × zHp)) (a0 : Nat) (a1 : Nat) (a2 : Int) (a3 : Int) (a4 : Int) (a5 : Int) (s : zHp) : Option (Int × zHp) :=
  if 40 < a5 then
    (some (0, s))
  else
    (fH_runBody_l2 E F zFU a0 a1 a2 a4 a5 a3 0 s (fun (x15 : Nat) (x16 : Nat) (x17 : Int) (x18 : Int) (x19 : Int) (x20 : Int) (s21 : zHp) =>
     yjn (fun (x22 : Nat) (x23 : Nat) (x24 : Int) (x25 : Int) (x26 : Int) (x27 : Int) (s28 : zHp) =>
      ygi 10 19 x22 s28 fun v30 =>
      ypi 10 19 x22 (zadd v30 1) s28 fun s31 =>
      ybd (fH_kindAbove E x26 s31) fun v32 s33 =>
      yck 10 x22 s33 <| ybd (fH_answerOf E F x22 x27 x23 v32 x24 (zadd x25 1) s33) fun v34 s35 =>
      some (v34, s35)) fun q29 =>
      ybd (fH_ownBody E x20 x17 s21) fun v36 s37 =>
     ygi 10 19 x15 s37 fun v38 =>
     if v38 < 20 then
       (ygr 10 18 x15 s37 fun p39 =>
       ygi 10 19 x15 s37 fun v40 =>
       ysi p39 v40 v36 s37 fun s41 =>
       q29 x15 x16 x18 x19 x20 v36 s41)
     else
       (q29 x15 x16 x18 x19 x20 v36 s37)))
theorem fH_runBody_b_ok {E : Nat → Nat} (F : Nat → Nat → Int → Int → Int → Int → zHp → Option (Int × zHp)) (d : Nat) (hF : ∀ (y0 : Nat) (y1 : Nat) (y2 : Int) (y3 : Int) (y4 : Int) (y5 : Int) (s : zHp), zE zI Ji E (d + 1) 185 (zB 185 0) (zent 8 [.inr (.inr y0), .inr (.inr y1), .inl y2, .inl y3, .inl y4, .inl y5]) [] s (F y0 y1 y2 y3 y4 y5 s)) (a0 : Nat) (a1 : Nat) (a2 : Int) (a3 : Int) (a4 : Int) (a5 : Int) (s : zHp) : zE zI Ji E (d + 3) 185 (zB 185 0) (zent 8 [.inr (.inr a0), .inr (.inr a1), .inl a2, .inl a3, .inl a4, .inl a5]) [] s (fH_runBody_b E F a0 a1 a2 a3 a4 a5 s) := by
  show zE _ _ _ _ _ _ [some (.inr (.inr a0)), some (.inr (.inr a1)), some (.inl a2), some (.inl a3), some (.inl a4), some (.inl a5), none, none] _ _ _
  unfold fH_runBody_b
  refine zq_4_5 ?_
  refine zq_1 ?_
  refine zq_51 ?_ ?_
  · refine zq_1 ?_
    exact zq_95 rfl
  · refine zq_4_3 ?_
    refine zq_7_6 rfl ?_
    refine zq_1 ?_
    refine zq_7_7 rfl ?_
    refine zq_57 ?_
    refine zE_w [true, true, true, false, true, true, true, true] (fH_runBody_l2_ok (E := E) F d hF zFU _ _ _ _ _ _ _ _ _ (fun x15 x16 x17 x18 x19 x20 s21 => ?_))
    refine zE_jn (fun q29 => ∀ (y0 : Nat) (y1 : Nat) (y2 : Int) (y3 : Int) (y4 : Int) (y5 : Int) (s : zHp), zE zI Ji E (d + 3) 185 (zB 185 4) ([some (.inr (.inr y0)), some (.inr (.inr y1)), none, none, some (.inl y2), some (.inl y3), some (.inl y4), some (.inl y5)]) ([]) s (q29 y0 y1 y2 y3 y4 y5 s)) (fun x22 x23 x24 x25 x26 x27 s28 => ?_) (fun q29 hq29 => ?_)
    · refine zq_6_0 ?_
      refine zq_33 ?_
      refine zh_60 ?_
      refine zq_1 ?_
      refine zq_11 ?_
      refine zh_62 ?_
      refine zq_6_0 ?_
      refine zq_4_7 ?_
      refine zq_6_1 ?_
      refine zq_4_6 ?_
      refine zq_90_1i rfl rfl (fH_kindAbove_ok (E := E) _ _ _) fun v32 s33 => ?_
      refine zq_4_4 ?_
      refine zq_4_5 ?_
      refine zq_1 ?_
      refine zq_11 ?_
      refine zE_g fun hg => ?_
      refine zq_92_6i hg rfl rfl (fH_answerOf_ok (E := E) F _ hF _ _ _ _ _ _ _) fun v34 s35 => ?_
      exact zq_95 rfl
    refine zq_4_6 ?_
    refine zq_4_2 ?_
    refine zq_90_2i rfl rfl (fH_ownBody_ok (E := E) _ _ _ _) fun v36 s37 => ?_
    refine zq_7_7 rfl ?_
    refine zq_6_0 ?_
    refine zh_60 ?_
    refine zq_1 ?_
    refine zq_49 ?_ ?_
    · refine zq_6_0 ?_
      refine zh_61 ?_
      refine zq_6_0 ?_
      refine zh_60 ?_
      refine zq_4_7 ?_
      refine zh_68 ?_
      refine zq_57 ?_
      exact zE_w [true, true, false, false, true, true, true, true] (hq29 _ _ _ _ _ _ _)
    · exact zE_w [true, true, false, false, true, true, true, true] (hq29 _ _ _ _ _ _ _)
noncomputable def fH_runBody (E : Nat → Nat) : Nat → Nat → Nat → Int → Int → Int → Int → zHp → Option (Int × zHp)
  | 0, _, _, _, _, _, _, _ => none
  | n + 1, a0, a1, a2, a3, a4, a5, s => fH_runBody_b E (fH_runBody E n) a0 a1 a2 a3 a4 a5 s
theorem fH_runBody_ok {E : Nat → Nat} (d : Nat) : ∀ (n : Nat) (a0 : Nat) (a1 : Nat) (a2 : Int) (a3 : Int) (a4 : Int) (a5 : Int) (s : zHp), zE zI Ji E (d + (1 + 2 * n)) 185 (zB 185 0) (zent 8 [.inr (.inr a0), .inr (.inr a1), .inl a2, .inl a3, .inl a4, .inl a5]) [] s (fH_runBody E n a0 a1 a2 a3 a4 a5 s) := by
  intro n
  induction n with
  | zero => intro a0 a1 a2 a3 a4 a5 s; exact zE_none
  | succ n ih =>
    intro a0 a1 a2 a3 a4 a5 s
    have h9 := fH_runBody_b_ok (E := E) (fH_runBody E n) (d + 2 * n) (fun a0 a1 a2 a3 a4 a5 s => zE_d (by omega) (ih a0 a1 a2 a3 a4 a5 s)) a0 a1 a2 a3 a4 a5 s
    exact zE_d (by omega) h9
theorem fH_runBody_okx {E : Nat → Nat} (d : Nat) (a0 : Nat) (a1 : Nat) (a2 : Int) (a3 : Int) (a4 : Int) (a5 : Int) (s : zHp) : zE zI Ji E (d + 29) 185 (zB 185 0) (zent 8 [.inr (.inr a0), .inr (.inr a1), .inl a2, .inl a3, .inl a4, .inl a5]) [] s (fH_runBody E 14 a0 a1 a2 a3 a4 a5 s) := zE_d (by omega) (fH_runBody_ok (E := E) d 14 a0 a1 a2 a3 a4 a5 s)
theorem fH_answerOf_okx {E : Nat → Nat} (d : Nat) (a0 : Nat) (a1 : Int) (a2 : Nat) (a3 : Int) (a4 : Int) (a5 : Int) (s : zHp) : zE zI Ji E (d + 30) 184 (zB 184 0) (zent 6 [.inr (.inr a0), .inl a1, .inr (.inr a2), .inl a3, .inl a4, .inl a5]) [] s (fH_answerOf E (fH_runBody E 14) a0 a1 a2 a3 a4 a5 s) := zE_d (by omega) (fH_answerOf_ok (E := E) (fH_runBody E 14) (d + 28) (fun y0 y1 y2 y3 y4 y5 s => zE_d (by omega) (fH_runBody_ok (E := E) d 14 y0 y1 y2 y3 y4 y5 s)) a0 a1 a2 a3 a4 a5 s)
/-! 186: EngraversHouse.act:(III)I -/
noncomputable def fH_act (E : Nat → Nat) (a0 : Nat) (a1 : Int) (a2 : Int) (a3 : Int) (s : zHp) : Option (Int × zHp) :=
  ypi 10 19 a0 0 s fun s1 =>
  yck 10 a0 s1 <| ybd (fH_thingAt a0 a1 s1) fun p2 s3 =>
  if p2 = 0 then
    (some (0, s3))
  else
  ybd (fH_within a2 0 2 s3) fun v4 s5 =>
  if v4 = 0 then
    (some (0, s5))
  else
    (ygi 20 0 p2 s5 fun v6 =>
    yck 10 a0 s5 <| ybd (fH_runBody E 14 a0 p2 a2 v6 a3 0 s5) fun v7 s8 =>
    some (v7, s8))
theorem fH_act_ok {E : Nat → Nat} (d : Nat) (a0 : Nat) (a1 : Int) (a2 : Int) (a3 : Int) (s : zHp) : zE zI Ji E (d + 30) 186 (zB 186 0) (zent 5 [.inr (.inr a0), .inl a1, .inl a2, .inl a3]) [] s (fH_act E a0 a1 a2 a3 s) := by
  show zE _ _ _ _ _ _ [some (.inr (.inr a0)), some (.inl a1), some (.inl a2), some (.inl a3), none] _ _ _
  unfold fH_act
  refine zq_6_0 ?_
  refine zq_1 ?_
  refine zh_62 ?_
  refine zq_6_0 ?_
  refine zq_4_1 ?_
  refine zE_g fun hg => ?_
  refine zq_92_2r hg rfl rfl (fH_thingAt_ok (E := E) _ _ _ _) fun p2 s3 => ?_
  refine zq_9_4 rfl ?_
  refine zq_6_4 ?_
  refine zq_54 ?_ ?_
  · refine zq_1 ?_
    exact zq_95 rfl
  refine zq_4_2 ?_
  refine zq_1 ?_
  refine zq_1 ?_
  refine zq_90_3i rfl rfl (fH_within_ok (E := E) _ _ _ _ _) fun v4 s5 => ?_
  refine zq_41 ?_ ?_
  · refine zq_57 ?_
    refine zq_1 ?_
    exact zq_95 rfl
  · refine zq_6_0 ?_
    refine zq_6_4 ?_
    refine zq_4_2 ?_
    refine zq_6_4 ?_
    refine zh_60 ?_
    refine zq_4_3 ?_
    refine zq_1 ?_
    refine zE_g fun hg => ?_
    refine zq_92_6i hg rfl rfl (fH_runBody_okx (E := E) _ _ _ _ _ _ _ _) fun v7 s8 => ?_
    exact zq_95 rfl
/-! 187: EngraversHouse.trace:(I)I -/
noncomputable def fH_trace (a0 : Nat) (a1 : Int) (s : zHp) : Option (Int × zHp) :=
  ygi 10 19 a0 s fun v1 =>
  ybd (fH_within a1 0 (zsub (zmin v1 20) 1) s) fun v2 s3 =>
  if v2 = 0 then
    (some ((-1), s3))
  else
  ygr 10 18 a0 s3 fun p4 =>
  yai p4 a1 s3 fun v5 =>
  some (v5, s3)
theorem fH_trace_ok {E : Nat → Nat} (d : Nat) (a0 : Nat) (a1 : Int) (s : zHp) : zE zI Ji E (d + 1) 187 (zB 187 0) (zent 2 [.inr (.inr a0), .inl a1]) [] s (fH_trace a0 a1 s) := by
  show zE _ _ _ _ _ _ [some (.inr (.inr a0)), some (.inl a1)] _ _ _
  unfold fH_trace
  refine zq_4_1 ?_
  refine zq_1 ?_
  refine zq_6_0 ?_
  refine zh_60 ?_
  refine zq_1 ?_
  refine zq_37 rfl ?_
  refine zq_1 ?_
  refine zq_12 ?_
  refine zq_90_3i rfl rfl (fH_within_ok (E := E) _ _ _ _ _) fun v2 s3 => ?_
  refine zq_40 ?_ ?_
  · refine zq_1 ?_
    refine zq_57 ?_
    exact zq_95 rfl
  refine zq_6_0 ?_
  refine zh_61 ?_
  refine zq_4_1 ?_
  refine zh_65 ?_
  refine zq_56 ?_
  exact zq_95 rfl
/-! 188: EngraversHouse.isUnder:(II)Z -/
noncomputable def fH_isUnder_l1 (E : Nat → Nat) : Nat → Int → Int → Int → zHp → (Int → Int → zHp → Option (Int × zHp)) → Option (Int × zHp)
  | 0, _, _, _, _, _ => none
  | n + 1, x1, x2, x3, s4, k5 =>
   if 7 < x3 then
     (k5 x1 x2 s4)
   else
   if 0 < x2 then
     (if x2 = x1 then
       (k5 x1 x2 s4)
     else
     yai (E 13) x2 s4 fun v6 =>
     yvl (zadd x3 1) fun v7 =>
     fH_isUnder_l1 E n x1 v6 v7 s4 k5)
   else
     (k5 x1 x2 s4)
theorem fH_isUnder_l1_ok {E : Nat → Nat} (d : Nat) : ∀ (n : Nat) (x1 : Int) (x2 : Int) (x3 : Int) (s4 : zHp) (k5 : Int → Int → zHp → Option (Int × zHp)) (hk5 : ∀ (y0 : Int) (y1 : Int) (s : zHp), zE zI Ji E (d + 0) 188 (zB 188 2) ([none, some (.inl y0), some (.inl y1), none]) ([]) s (k5 y0 y1 s)), zE zI Ji E (d + 0) 188 (zB 188 1) ([none, some (.inl x1), some (.inl x2), some (.inl x3)]) ([]) s4 (fH_isUnder_l1 E n x1 x2 x3 s4 k5) := by
  intro n
  induction n with
  | zero => intro x1 x2 x3 s4 k5 hk5; exact zE_none
  | succ n ih =>
    intro x1 x2 x3 s4 k5 hk5
    unfold fH_isUnder_l1
    refine zq_4_3 ?_
    refine zq_1 ?_
    refine zq_50 ?_ ?_
    · exact zE_w [false, true, true, false] (hk5 _ _ _)
    refine zq_4_2 ?_
    refine zq_45 ?_ ?_
    · refine zq_4_2 ?_
      refine zq_4_1 ?_
      refine zq_46 ?_ ?_
      · exact zE_w [false, true, true, false] (hk5 _ _ _)
      refine zh_80 ?_
      refine zq_4_2 ?_
      refine zh_65 ?_
      refine zq_7_2 rfl ?_
      refine zE_vl ?_
      refine zq_10_3 rfl ?_
      refine zq_56 ?_
      exact zE_w [false, true, true, true] (ih _ _ _ _ _ hk5)
    · exact zE_w [false, true, true, false] (hk5 _ _ _)
noncomputable def fH_isUnder (E : Nat → Nat) (a0 : Int) (a1 : Int) (s : zHp) : Option (Int × zHp) :=
  fH_isUnder_l1 E zFU a1 a0 0 s (fun (x8 : Int) (x9 : Int) (s10 : zHp) =>
   if x9 = x8 then
     (some (1, s10))
   else
     (some (0, s10)))
theorem fH_isUnder_ok {E : Nat → Nat} (d : Nat) (a0 : Int) (a1 : Int) (s : zHp) : zE zI Ji E (d + 0) 188 (zB 188 0) (zent 4 [.inl a0, .inl a1]) [] s (fH_isUnder E a0 a1 s) := by
  show zE _ _ _ _ _ _ [some (.inl a0), some (.inl a1), none, none] _ _ _
  unfold fH_isUnder
  refine zq_4_0 ?_
  refine zq_7_2 rfl ?_
  refine zq_1 ?_
  refine zq_7_3 rfl ?_
  refine zq_57 ?_
  refine zE_w [false, true, true, true] (fH_isUnder_l1_ok (E := E) d zFU _ _ _ _ _ (fun x8 x9 s10 => ?_))
  refine zq_4_2 ?_
  refine zq_4_1 ?_
  refine zq_47 ?_ ?_
  · refine zq_1 ?_
    refine zq_56 ?_
    exact zq_96c (by decide)
  · refine zq_1 ?_
    refine zq_57 ?_
    exact zq_96c (by decide)
/-! 189: EngraversHouse.taken:(II)I -/
noncomputable def fH_taken (E : Nat → Nat) (a0 : Nat) (a1 : Int) (a2 : Int) (s : zHp) : Option (Int × zHp) :=
  ybd (fH_within a2 0 7 s) fun v1 s2 =>
  if v1 = 0 then
    (some ((-2), s2))
  else
    (yck 10 a0 s2 <| ybd (fH_thingAt a0 a1 s2) fun p3 s4 =>
    if p3 = 0 then
      (some ((-11), s4))
    else
      (ygi 20 0 p3 s4 fun v5 =>
      ybd (fH_isUnder E v5 a2 s4) fun v6 s7 =>
      if v6 = 0 then
        (some ((-12), s7))
      else
      ygi 20 0 p3 s7 fun v8 =>
      some (v8, s7)))
theorem fH_taken_ok {E : Nat → Nat} (d : Nat) (a0 : Nat) (a1 : Int) (a2 : Int) (s : zHp) : zE zI Ji E (d + 1) 189 (zB 189 0) (zent 4 [.inr (.inr a0), .inl a1, .inl a2]) [] s (fH_taken E a0 a1 a2 s) := by
  show zE _ _ _ _ _ _ [some (.inr (.inr a0)), some (.inl a1), some (.inl a2), none] _ _ _
  unfold fH_taken
  refine zq_4_2 ?_
  refine zq_1 ?_
  refine zq_1 ?_
  refine zq_90_3i rfl rfl (fH_within_ok (E := E) _ _ _ _ _) fun v1 s2 => ?_
  refine zq_41 ?_ ?_
  · refine zq_1 ?_
    exact zq_95 rfl
  · refine zq_6_0 ?_
    refine zq_4_1 ?_
    refine zE_g fun hg => ?_
    refine zq_92_2r hg rfl rfl (fH_thingAt_ok (E := E) _ _ _ _) fun p3 s4 => ?_
    refine zq_9_3 rfl ?_
    refine zq_6_3 ?_
    refine zq_55 ?_ ?_
    · refine zq_1 ?_
      exact zq_95 rfl
    · refine zq_6_3 ?_
      refine zh_60 ?_
      refine zq_4_2 ?_
      refine zq_90_2i rfl rfl (fH_isUnder_ok (E := E) _ _ _ _) fun v6 s7 => ?_
      refine zq_40 ?_ ?_
      · refine zq_1 ?_
        refine zq_57 ?_
        exact zq_95 rfl
      refine zq_6_3 ?_
      refine zh_60 ?_
      refine zq_56 ?_
      exact zq_95 rfl
/-! 190: EngraversHouse.count:(I)I -/
noncomputable def fH_count (a0 : Nat) (a1 : Int) (s : zHp) : Option (Int × zHp) :=
  if a1 = 0 then
    (ygi 10 0 a0 s fun v1 =>
    some (v1, s))
  else if a1 = 1 then
    (ygi 10 2 a0 s fun v2 =>
    some (v2, s))
  else if a1 = 2 then
    (ygi 10 4 a0 s fun v3 =>
    some (v3, s))
  else if a1 = 3 then
    (ygi 10 12 a0 s fun v4 =>
    some (v4, s))
  else if a1 = 4 then
    (ygi 10 10 a0 s fun v5 =>
    some (v5, s))
  else if a1 = 5 then
    (ygi 10 7 a0 s fun v6 =>
    some (v6, s))
  else if a1 = 6 then
    (ygr 10 13 a0 s fun p7 =>
    ygi 9 1 p7 s fun v8 =>
    some (v8, s))
  else if a1 = 7 then
    (ygr 10 14 a0 s fun p9 =>
    ygi 7 3 p9 s fun v10 =>
    some (v10, s))
  else if a1 = 8 then
    (ygi 10 19 a0 s fun v11 =>
    some (v11, s))
  else some ((-2), s)
theorem fH_count_ok {E : Nat → Nat} (d : Nat) (a0 : Nat) (a1 : Int) (s : zHp) : zE zI Ji E (d + 0) 190 (zB 190 0) (zent 2 [.inr (.inr a0), .inl a1]) [] s (fH_count a0 a1 s) := by
  show zE _ _ _ _ _ _ [some (.inr (.inr a0)), some (.inl a1)] _ _ _
  unfold fH_count
  refine zq_4_1 ?_
  refine zq_58 ?_
  refine zq_sw ?_ ?_
  · refine zq_6_0 ?_
    refine zh_60 ?_
    exact zq_95 rfl
  refine zq_sw ?_ ?_
  · refine zq_6_0 ?_
    refine zh_60 ?_
    exact zq_95 rfl
  refine zq_sw ?_ ?_
  · refine zq_6_0 ?_
    refine zh_60 ?_
    exact zq_95 rfl
  refine zq_sw ?_ ?_
  · refine zq_6_0 ?_
    refine zh_60 ?_
    exact zq_95 rfl
  refine zq_sw ?_ ?_
  · refine zq_6_0 ?_
    refine zh_60 ?_
    exact zq_95 rfl
  refine zq_sw ?_ ?_
  · refine zq_6_0 ?_
    refine zh_60 ?_
    exact zq_95 rfl
  refine zq_sw ?_ ?_
  · refine zq_6_0 ?_
    refine zh_61 ?_
    refine zh_60 ?_
    exact zq_95 rfl
  refine zq_sw ?_ ?_
  · refine zq_6_0 ?_
    refine zh_61 ?_
    refine zh_60 ?_
    exact zq_95 rfl
  refine zq_sw ?_ ?_
  · refine zq_6_0 ?_
    refine zh_60 ?_
    exact zq_95 rfl
  refine zq_1 ?_
  exact zq_95 rfl
/-! 191: EngraversHouse.tape:(III)I -/
noncomputable def fH_tape (a0 : Nat) (a1 : Int) (a2 : Int) (a3 : Int) (s : zHp) : Option (Int × zHp) :=
  ybd (fH_isTape a1 s) fun v1 s2 =>
  if v1 = 0 then
    (some ((-1), s2))
  else
    (yjn (fun (x3 : Nat) (x4 : Int) (x5 : Int) (x6 : Int) (s7 : zHp) =>
     yjn (fun (x9 : Nat) (x10 : Int) (x11 : Int) (x12 : Int) (s13 : zHp) =>
      yjn (fun (x15 : Nat) (x16 : Int) (x17 : Nat) (x18 : Int) (x19 : Int) (s20 : zHp) =>
       ysi x17 x18 x19 s20 fun s22 =>
       ygr 10 15 x15 s22 fun p23 =>
       yar p23 x16 s22 fun p24 =>
       ybd (fJArrays_fill p24 0 s22) fun _ s25 =>
       some (1, s25)) fun q21 =>
       ygr 10 16 x9 s13 fun p26 =>
      ysi p26 x10 x11 s13 fun s27 =>
      ygr 10 17 x9 s27 fun p28 =>
      if x11 = (-1) then
        (q21 x9 x10 p28 x10 0 s27)
      else
        (q21 x9 x10 p28 x10 x12 s27)) fun q14 =>
      if x5 = (-1) then
       (q14 x3 x4 x5 x6 s7)
     else
     if x6 < 0 then
       (some ((-14), s7))
     else
       (q14 x3 x4 x5 x6 s7)) fun q8 =>
     ybd (fH_within a2 (-1) 3 s2) fun v29 s30 =>
    if v29 = 0 then
      (some ((-2), s30))
    else
    if a2 = (-1) then
      (q8 a0 a1 a2 a3 s30)
    else
    if 60 < a3 then
      (some ((-2), s30))
    else
      (q8 a0 a1 a2 a3 s30))
theorem fH_tape_ok {E : Nat → Nat} (d : Nat) (a0 : Nat) (a1 : Int) (a2 : Int) (a3 : Int) (s : zHp) : zE zI Ji E (d + 2) 191 (zB 191 0) (zent 4 [.inr (.inr a0), .inl a1, .inl a2, .inl a3]) [] s (fH_tape a0 a1 a2 a3 s) := by
  show zE _ _ _ _ _ _ [some (.inr (.inr a0)), some (.inl a1), some (.inl a2), some (.inl a3)] _ _ _
  unfold fH_tape
  refine zq_4_1 ?_
  refine zq_90_1i rfl rfl (fH_isTape_ok (E := E) _ _ _) fun v1 s2 => ?_
  refine zq_41 ?_ ?_
  · refine zq_1 ?_
    exact zq_95 rfl
  · refine zE_jn (fun q8 => ∀ (y0 : Nat) (y1 : Int) (y2 : Int) (y3 : Int) (s : zHp), zE zI Ji E (d + 2) 191 (zB 191 3) ([some (.inr (.inr y0)), some (.inl y1), some (.inl y2), some (.inl y3)]) ([]) s (q8 y0 y1 y2 y3 s)) (fun x3 x4 x5 x6 s7 => ?_) (fun q8 hq8 => ?_)
    · refine zE_jn (fun q14 => ∀ (y0 : Nat) (y1 : Int) (y2 : Int) (y3 : Int) (s : zHp), zE zI Ji E (d + 2) 191 (zB 191 4) ([some (.inr (.inr y0)), some (.inl y1), some (.inl y2), some (.inl y3)]) ([]) s (q14 y0 y1 y2 y3 s)) (fun x9 x10 x11 x12 s13 => ?_) (fun q14 hq14 => ?_)
      · refine zE_jn (fun q21 => ∀ (y0 : Nat) (y1 : Int) (y2 : Nat) (y3 : Int) (y4 : Int) (s : zHp), zE zI Ji E (d + 2) 191 (zB 191 6) ([some (.inr (.inr y0)), some (.inl y1), none, none]) ([.inl y4, .inl y3, .inr (.inr y2)]) s (q21 y0 y1 y2 y3 y4 s)) (fun x15 x16 x17 x18 x19 s20 => ?_) (fun q21 hq21 => ?_)
        · refine zh_68 ?_
          refine zq_6_0 ?_
          refine zh_61 ?_
          refine zq_4_1 ?_
          refine zh_67 ?_
          refine zq_1 ?_
          refine zq_90_2v rfl rfl (fJArrays_fill_ok (E := E) _ _ _ _) fun _ s25 => ?_
          refine zq_1 ?_
          exact zq_95 rfl
        refine zq_6_0 ?_
        refine zh_61 ?_
        refine zq_4_1 ?_
        refine zq_4_2 ?_
        refine zh_68 ?_
        refine zq_6_0 ?_
        refine zh_61 ?_
        refine zq_4_1 ?_
        refine zq_4_2 ?_
        refine zq_1 ?_
        refine zq_47 ?_ ?_
        · refine zq_1 ?_
          refine zq_56 ?_
          exact zE_w [true, true, false, false] (hq21 _ _ _ _ _ _)
        · refine zq_4_3 ?_
          refine zq_57 ?_
          exact zE_w [true, true, false, false] (hq21 _ _ _ _ _ _)
      refine zq_4_2 ?_
      refine zq_1 ?_
      refine zq_46 ?_ ?_
      · exact zE_w [true, true, true, true] (hq14 _ _ _ _ _)
      refine zq_4_3 ?_
      refine zq_43 ?_ ?_
      · refine zq_1 ?_
        exact zq_95 rfl
      · exact zE_w [true, true, true, true] (hq14 _ _ _ _ _)
    refine zq_4_2 ?_
    refine zq_1 ?_
    refine zq_1 ?_
    refine zq_90_3i rfl rfl (fH_within_ok (E := E) _ _ _ _ _) fun v29 s30 => ?_
    refine zq_40 ?_ ?_
    · refine zq_1 ?_
      exact zq_95 rfl
    refine zq_4_2 ?_
    refine zq_1 ?_
    refine zq_46 ?_ ?_
    · exact zE_w [true, true, true, true] (hq8 _ _ _ _ _)
    refine zq_4_3 ?_
    refine zq_1 ?_
    refine zq_51 ?_ ?_
    · refine zq_57 ?_
      refine zq_1 ?_
      exact zq_95 rfl
    · exact zE_w [true, true, true, true] (hq8 _ _ _ _ _)
/-! 192: EngraversHouse.asItem:(II)I -/
noncomputable def fH_asItem (a0 : Int) (a1 : Int) (s : zHp) : Option (Int × zHp) :=
  if a0 = 0 then
    (some (zi2b a1, s))
  else if a0 = 1 then
    (some (zi2s a1, s))
  else if a0 = 2 then
    (some (a1, s))
  else if a0 = 3 then
    (if a1 = 0 then
      (some (0, s))
    else
      (some (1, s)))
  else some (a1, s)
theorem fH_asItem_ok {E : Nat → Nat} (d : Nat) (a0 : Int) (a1 : Int) (s : zHp) : zE zI Ji E (d + 0) 192 (zB 192 0) (zent 2 [.inl a0, .inl a1]) [] s (fH_asItem a0 a1 s) := by
  show zE _ _ _ _ _ _ [some (.inl a0), some (.inl a1)] _ _ _
  unfold fH_asItem
  refine zq_4_0 ?_
  refine zq_58 ?_
  refine zq_sw ?_ ?_
  · refine zq_4_1 ?_
    refine zq_25 ?_
    exact zq_95 rfl
  refine zq_sw ?_ ?_
  · refine zq_4_1 ?_
    refine zq_26 ?_
    exact zq_95 rfl
  refine zq_sw ?_ ?_
  · refine zq_4_1 ?_
    exact zq_95 rfl
  refine zq_sw ?_ ?_
  · refine zq_4_1 ?_
    refine zq_41 ?_ ?_
    · refine zq_1 ?_
      refine zq_56 ?_
      exact zq_95 rfl
    · refine zq_1 ?_
      refine zq_57 ?_
      exact zq_95 rfl
  refine zq_4_1 ?_
  exact zq_95 rfl
/-! 193: EngraversHouse.item:(III)I -/
noncomputable def fH_item (a0 : Nat) (a1 : Int) (a2 : Int) (a3 : Int) (s : zHp) : Option (Int × zHp) :=
  ybd (fH_isTape a1 s) fun v1 s2 =>
  if v1 = 0 then
    (some ((-1), s2))
  else
    (ygr 10 16 a0 s2 fun p3 =>
    yai p3 a1 s2 fun v4 =>
    if v4 = (-1) then
      (some ((-11), s2))
    else
      (yck 10 a0 s2 <| ybd (fH_hasStretch a0 a1 (zi2l a2) 1 s2) fun v5 s6 =>
      if v5 = 0 then
        (some ((-13), s6))
      else
        (ygr 10 15 a0 s6 fun p7 =>
        yar p7 a1 s6 fun p8 =>
        ygr 10 16 a0 s6 fun p9 =>
        yai p9 a1 s6 fun v10 =>
        ybd (fH_asItem v10 a3 s6) fun v11 s12 =>
        ysi p8 a2 v11 s12 fun s13 =>
        some (1, s13))))
theorem fH_item_ok {E : Nat → Nat} (d : Nat) (a0 : Nat) (a1 : Int) (a2 : Int) (a3 : Int) (s : zHp) : zE zI Ji E (d + 3) 193 (zB 193 0) (zent 4 [.inr (.inr a0), .inl a1, .inl a2, .inl a3]) [] s (fH_item a0 a1 a2 a3 s) := by
  show zE _ _ _ _ _ _ [some (.inr (.inr a0)), some (.inl a1), some (.inl a2), some (.inl a3)] _ _ _
  unfold fH_item
  refine zq_4_1 ?_
  refine zq_90_1i rfl rfl (fH_isTape_ok (E := E) _ _ _) fun v1 s2 => ?_
  refine zq_41 ?_ ?_
  · refine zq_1 ?_
    exact zq_95 rfl
  · refine zq_6_0 ?_
    refine zh_61 ?_
    refine zq_4_1 ?_
    refine zh_65 ?_
    refine zq_1 ?_
    refine zq_47 ?_ ?_
    · refine zq_1 ?_
      exact zq_95 rfl
    · refine zq_6_0 ?_
      refine zq_4_1 ?_
      refine zq_4_2 ?_
      refine zq_23 ?_
      refine zq_2 ?_
      refine zE_g fun hg => ?_
      refine zq_92_4i hg rfl rfl (fH_hasStretch_ok (E := E) _ _ _ _ _ _) fun v5 s6 => ?_
      refine zq_41 ?_ ?_
      · refine zq_1 ?_
        exact zq_95 rfl
      · refine zq_6_0 ?_
        refine zh_61 ?_
        refine zq_4_1 ?_
        refine zh_67 ?_
        refine zq_4_2 ?_
        refine zq_6_0 ?_
        refine zh_61 ?_
        refine zq_4_1 ?_
        refine zh_65 ?_
        refine zq_4_3 ?_
        refine zq_90_2i rfl rfl (fH_asItem_ok (E := E) _ _ _ _) fun v11 s12 => ?_
        refine zh_68 ?_
        refine zq_1 ?_
        exact zq_95 rfl
/-! 194: EngraversHouse.read:(II)J -/
noncomputable def fH_read (a0 : Nat) (a1 : Int) (a2 : Int) (s : zHp) : Option (Int × zHp) :=
  ybd (fH_isTape a1 s) fun v1 s2 =>
  if v1 = 0 then
    (some ((-9223372036854775808), s2))
  else
  yck 10 a0 s2 <| ybd (fH_hasStretch a0 a1 (zi2l a2) 1 s2) fun v3 s4 =>
  if v3 = 0 then
    (some ((-9223372036854775808), s4))
  else
  ygr 10 15 a0 s4 fun p5 =>
  yar p5 a1 s4 fun p6 =>
  yai p6 a2 s4 fun v7 =>
  some (zi2l v7, s4)
theorem fH_read_ok {E : Nat → Nat} (d : Nat) (a0 : Nat) (a1 : Int) (a2 : Int) (s : zHp) : zE zI Jl E (d + 3) 194 (zB 194 0) (zent 3 [.inr (.inr a0), .inl a1, .inl a2]) [] s (fH_read a0 a1 a2 s) := by
  show zE _ _ _ _ _ _ [some (.inr (.inr a0)), some (.inl a1), some (.inl a2)] _ _ _
  unfold fH_read
  refine zq_4_1 ?_
  refine zq_90_1i rfl rfl (fH_isTape_ok (E := E) _ _ _) fun v1 s2 => ?_
  refine zq_40 ?_ ?_
  · refine zq_2 ?_
    refine zq_57 ?_
    exact zq_99
  refine zq_6_0 ?_
  refine zq_4_1 ?_
  refine zq_4_2 ?_
  refine zq_23 ?_
  refine zq_2 ?_
  refine zE_g fun hg => ?_
  refine zq_92_4i hg rfl rfl (fH_hasStretch_ok (E := E) _ _ _ _ _ _) fun v3 s4 => ?_
  refine zq_40 ?_ ?_
  · refine zq_2 ?_
    refine zq_57 ?_
    exact zq_99
  refine zq_6_0 ?_
  refine zh_61 ?_
  refine zq_4_1 ?_
  refine zh_67 ?_
  refine zq_4_2 ?_
  refine zh_65 ?_
  refine zq_23 ?_
  refine zq_56 ?_
  exact zq_99
/-! 195: EngraversHouse.shift:(IIIII)I -/
noncomputable def fH_shift (a0 : Nat) (a1 : Int) (a2 : Int) (a3 : Int) (a4 : Int) (a5 : Int) (s : zHp) : Option (Int × zHp) :=
  ybd (fH_isTape a1 s) fun v1 s2 =>
  if v1 = 0 then
    (some ((-1), s2))
  else
  ybd (fH_isTape a3 s2) fun v3 s4 =>
  if v3 = 0 then
    (some ((-1), s4))
  else
    (ygr 10 16 a0 s4 fun p5 =>
    yai p5 a1 s4 fun v6 =>
    if v6 = (-1) then
      (some ((-11), s4))
    else
    ygr 10 16 a0 s4 fun p7 =>
    yai p7 a3 s4 fun v8 =>
    if v8 = (-1) then
      (some ((-11), s4))
    else
      (ygr 10 16 a0 s4 fun p9 =>
      yai p9 a1 s4 fun v10 =>
      ygr 10 16 a0 s4 fun p11 =>
      yai p11 a3 s4 fun v12 =>
      if v10 = v12 then
        (yck 10 a0 s4 <| ybd (fH_hasStretch a0 a1 (zi2l a2) (zi2l a5) s4) fun v13 s14 =>
        if v13 = 0 then
          (some ((-13), s14))
        else
        yck 10 a0 s14 <| ybd (fH_hasStretch a0 a3 (zi2l a4) (zi2l a5) s14) fun v15 s16 =>
        if v15 = 0 then
          (some ((-13), s16))
        else
          (ygr 10 15 a0 s16 fun p17 =>
          yar p17 a1 s16 fun p18 =>
          ygr 10 15 a0 s16 fun p19 =>
          yar p19 a3 s16 fun p20 =>
          ycp p18 a2 p20 a4 a5 s16 fun s21 =>
          some (a5, s21)))
      else
      some ((-12), s4)))
theorem fH_shift_ok {E : Nat → Nat} (d : Nat) (a0 : Nat) (a1 : Int) (a2 : Int) (a3 : Int) (a4 : Int) (a5 : Int) (s : zHp) : zE zI Ji E (d + 3) 195 (zB 195 0) (zent 6 [.inr (.inr a0), .inl a1, .inl a2, .inl a3, .inl a4, .inl a5]) [] s (fH_shift a0 a1 a2 a3 a4 a5 s) := by
  show zE _ _ _ _ _ _ [some (.inr (.inr a0)), some (.inl a1), some (.inl a2), some (.inl a3), some (.inl a4), some (.inl a5)] _ _ _
  unfold fH_shift
  refine zq_4_1 ?_
  refine zq_90_1i rfl rfl (fH_isTape_ok (E := E) _ _ _) fun v1 s2 => ?_
  refine zq_40 ?_ ?_
  · refine zq_1 ?_
    exact zq_95 rfl
  refine zq_4_3 ?_
  refine zq_90_1i rfl rfl (fH_isTape_ok (E := E) _ _ _) fun v3 s4 => ?_
  refine zq_41 ?_ ?_
  · refine zq_57 ?_
    refine zq_1 ?_
    exact zq_95 rfl
  · refine zq_6_0 ?_
    refine zh_61 ?_
    refine zq_4_1 ?_
    refine zh_65 ?_
    refine zq_1 ?_
    refine zq_46 ?_ ?_
    · refine zq_1 ?_
      exact zq_95 rfl
    refine zq_6_0 ?_
    refine zh_61 ?_
    refine zq_4_3 ?_
    refine zh_65 ?_
    refine zq_1 ?_
    refine zq_47 ?_ ?_
    · refine zq_57 ?_
      refine zq_1 ?_
      exact zq_95 rfl
    · refine zq_6_0 ?_
      refine zh_61 ?_
      refine zq_4_1 ?_
      refine zh_65 ?_
      refine zq_6_0 ?_
      refine zh_61 ?_
      refine zq_4_3 ?_
      refine zh_65 ?_
      refine zq_46 ?_ ?_
      · refine zq_6_0 ?_
        refine zq_4_1 ?_
        refine zq_4_2 ?_
        refine zq_23 ?_
        refine zq_4_5 ?_
        refine zq_23 ?_
        refine zE_g fun hg => ?_
        refine zq_92_4i hg rfl rfl (fH_hasStretch_ok (E := E) _ _ _ _ _ _) fun v13 s14 => ?_
        refine zq_40 ?_ ?_
        · refine zq_1 ?_
          exact zq_95 rfl
        refine zq_6_0 ?_
        refine zq_4_3 ?_
        refine zq_4_4 ?_
        refine zq_23 ?_
        refine zq_4_5 ?_
        refine zq_23 ?_
        refine zE_g fun hg => ?_
        refine zq_92_4i hg rfl rfl (fH_hasStretch_ok (E := E) _ _ _ _ _ _) fun v15 s16 => ?_
        refine zq_41 ?_ ?_
        · refine zq_57 ?_
          refine zq_1 ?_
          exact zq_95 rfl
        · refine zq_6_0 ?_
          refine zh_61 ?_
          refine zq_4_1 ?_
          refine zh_67 ?_
          refine zq_4_2 ?_
          refine zq_6_0 ?_
          refine zh_61 ?_
          refine zq_4_3 ?_
          refine zh_67 ?_
          refine zq_4_4 ?_
          refine zq_4_5 ?_
          refine zh_83 rfl ?_
          refine zq_4_5 ?_
          exact zq_95 rfl
      refine zq_1 ?_
      exact zq_95 rfl
/-! 196: EngraversHouseModel.in:(III)Z -/
noncomputable def gM_in (a0 : Int) (a1 : Int) (a2 : Int) (s : zSg) : Option (Int × zSg) :=
  if a0 < a1 then
    (some (0, s))
  else
  if a2 < a0 then
    (some (0, s))
  else
  some (1, s)
theorem gM_in_ok {E : Nat → Nat} {R : Nat} {h0 : zHp} (hw : zRg R h0) (d : Nat) (a0 : Int) (a1 : Int) (a2 : Int) (s : zSg) : zE (zov R h0) Ji E (d + 0) 196 (zB 196 0) (zent 3 [.inl a0, .inl a1, .inl a2]) [] s (gM_in a0 a1 a2 s) := by
  show zE _ _ _ _ _ _ [some (.inl a0), some (.inl a1), some (.inl a2)] _ _ _
  unfold gM_in
  refine zq_4_0 ?_
  refine zq_4_1 ?_
  refine zq_48 ?_ ?_
  · refine zq_1 ?_
    refine zq_57 ?_
    exact zq_96c (by decide)
  refine zq_4_0 ?_
  refine zq_4_2 ?_
  refine zq_50 ?_ ?_
  · refine zq_1 ?_
    refine zq_57 ?_
    exact zq_96c (by decide)
  refine zq_1 ?_
  refine zq_56 ?_
  exact zq_96c (by decide)
/-! 197: EngraversHouseModel.isDay:(I)Z -/
noncomputable def gM_isDay (a0 : Int) (s : zSg) : Option (Int × zSg) :=
  ybd (gM_in a0 0 9999 s) fun v1 s2 =>
  yrb v1 s2
theorem gM_isDay_ok {E : Nat → Nat} {R : Nat} {h0 : zHp} (hw : zRg R h0) (d : Nat) (a0 : Int) (s : zSg) : zE (zov R h0) Ji E (d + 1) 197 (zB 197 0) (zent 1 [.inl a0]) [] s (gM_isDay a0 s) := by
  show zE _ _ _ _ _ _ [some (.inl a0)] _ _ _
  unfold gM_isDay
  refine zq_4_0 ?_
  refine zq_1 ?_
  refine zq_1 ?_
  refine zq_90_3i rfl rfl (gM_in_ok (E := E) hw _ _ _ _ _) fun v1 s2 => ?_
  exact zq_96
/-! 198: EngraversHouseModel.<init>:()V -/
noncomputable def fM_init_l1 : Nat → Nat → Int → zHp → (Nat → zHp → Option (Unit × zHp)) → Option (Unit × zHp)
  | 0, _, _, _, _ => none
  | n + 1, x187, x188, s189, k190 =>
   if x188 < 6 then
     (ygr 11 78 x187 s189 fun p191 =>
     ysi p191 x188 (-1) s189 fun s192 =>
     yvl (zadd x188 1) fun v193 =>
     fM_init_l1 n x187 v193 s192 k190)
   else
     (k190 x187 s189)
set_option maxRecDepth 20000 in
set_option maxHeartbeats 4000000 in
theorem fM_init_l1_ok {E : Nat → Nat} (d : Nat) : ∀ (n : Nat) (x187 : Nat) (x188 : Int) (s189 : zHp) (k190 : Nat → zHp → Option (Unit × zHp)) (hk190 : ∀ (y0 : Nat) (s : zHp), zE zI Jv E (d + 0) 198 (zB 198 2) ([some (.inr (.inr y0)), none, none]) ([]) s (k190 y0 s)), zE zI Jv E (d + 0) 198 (zB 198 1) ([some (.inr (.inr x187)), some (.inl x188), none]) ([]) s189 (fM_init_l1 n x187 x188 s189 k190) := by
  intro n
  induction n with
  | zero => intro x187 x188 s189 k190 hk190; exact zE_none
  | succ n ih =>
    intro x187 x188 s189 k190 hk190
    unfold fM_init_l1
    refine zq_4_1 ?_
    refine zq_1 ?_
    refine zq_49 ?_ ?_
    · refine zq_6_0 ?_
      refine zh_61 ?_
      refine zq_4_1 ?_
      refine zq_1 ?_
      refine zh_68 ?_
      refine zE_vl ?_
      refine zq_10_1 rfl ?_
      refine zq_56 ?_
      exact zE_w [true, true, false] (ih _ _ _ _ hk190)
    · exact zE_w [true, false, false] (hk190 _ _)
noncomputable def fM_init_l3 : Nat → Nat → Int → zHp → (Nat → zHp → Option (Unit × zHp)) → Option (Unit × zHp)
  | 0, _, _, _, _ => none
  | n + 1, x196, x197, s198, k199 =>
   if x197 < 12 then
     (ygr 11 9 x196 s198 fun p200 =>
     ysi p200 x197 (-1) s198 fun s201 =>
     yvl (zadd x197 1) fun v202 =>
     fM_init_l3 n x196 v202 s201 k199)
   else
     (k199 x196 s198)
set_option maxRecDepth 20000 in
set_option maxHeartbeats 4000000 in
theorem fM_init_l3_ok {E : Nat → Nat} (d : Nat) : ∀ (n : Nat) (x196 : Nat) (x197 : Int) (s198 : zHp) (k199 : Nat → zHp → Option (Unit × zHp)) (hk199 : ∀ (y0 : Nat) (s : zHp), zE zI Jv E (d + 0) 198 (zB 198 4) ([some (.inr (.inr y0)), none, none]) ([]) s (k199 y0 s)), zE zI Jv E (d + 0) 198 (zB 198 3) ([some (.inr (.inr x196)), some (.inl x197), none]) ([]) s198 (fM_init_l3 n x196 x197 s198 k199) := by
  intro n
  induction n with
  | zero => intro x196 x197 s198 k199 hk199; exact zE_none
  | succ n ih =>
    intro x196 x197 s198 k199 hk199
    unfold fM_init_l3
    refine zq_4_1 ?_
    refine zq_1 ?_
    refine zq_49 ?_ ?_
    · refine zq_6_0 ?_
      refine zh_61 ?_
      refine zq_4_1 ?_
      refine zq_1 ?_
      refine zh_68 ?_
      refine zE_vl ?_
      refine zq_10_1 rfl ?_
      refine zq_56 ?_
      exact zE_w [true, true, false] (ih _ _ _ _ hk199)
    · exact zE_w [true, false, false] (hk199 _ _)
noncomputable def fM_init_l6 : Nat → Nat → Int → Int → zHp → (Nat → Int → zHp → Option (Unit × zHp)) → Option (Unit × zHp)
  | 0, _, _, _, _, _ => none
  | n + 1, x209, x210, x211, s212, k213 =>
   yjn (fun (x214 : Nat) (x215 : Int) (x216 : Int) (x217 : Nat) (x218 : Int) (x219 : Int) (s220 : zHp) =>
    ysi x217 x218 x219 s220 fun s222 =>
    yvl (zadd x216 1) fun v223 =>
    fM_init_l6 n x214 x215 v223 s222 k213) fun q221 =>
    if x211 < 6 then
     (ygr 11 63 x209 s212 fun p224 =>
     if x210 = x211 then
       (q221 x209 x210 x211 p224 (zadd (zmul 6 x210) x211) 0 s212)
     else
       (q221 x209 x210 x211 p224 (zadd (zmul 6 x210) x211) 1 s212))
   else
     (k213 x209 x210 s212)
set_option maxRecDepth 20000 in
set_option maxHeartbeats 4000000 in
theorem fM_init_l6_ok {E : Nat → Nat} (d : Nat) : ∀ (n : Nat) (x209 : Nat) (x210 : Int) (x211 : Int) (s212 : zHp) (k213 : Nat → Int → zHp → Option (Unit × zHp)) (hk213 : ∀ (y0 : Nat) (y1 : Int) (s : zHp), zE zI Jv E (d + 0) 198 (zB 198 9) ([some (.inr (.inr y0)), some (.inl y1), none]) ([]) s (k213 y0 y1 s)), zE zI Jv E (d + 0) 198 (zB 198 6) ([some (.inr (.inr x209)), some (.inl x210), some (.inl x211)]) ([]) s212 (fM_init_l6 n x209 x210 x211 s212 k213) := by
  intro n
  induction n with
  | zero => intro x209 x210 x211 s212 k213 hk213; exact zE_none
  | succ n ih =>
    intro x209 x210 x211 s212 k213 hk213
    unfold fM_init_l6
    refine zE_jn (fun q221 => ∀ (y0 : Nat) (y1 : Int) (y2 : Int) (y3 : Nat) (y4 : Int) (y5 : Int) (s : zHp), zE zI Jv E (d + 0) 198 (zB 198 8) ([some (.inr (.inr y0)), some (.inl y1), some (.inl y2)]) ([.inl y5, .inl y4, .inr (.inr y3)]) s (q221 y0 y1 y2 y3 y4 y5 s)) (fun x214 x215 x216 x217 x218 x219 s220 => ?_) (fun q221 hq221 => ?_)
    · refine zh_68 ?_
      refine zE_vl ?_
      refine zq_10_2 rfl ?_
      refine zq_56 ?_
      exact zE_w [true, true, true] (ih _ _ _ _ _ hk213)
    refine zq_4_2 ?_
    refine zq_1 ?_
    refine zq_49 ?_ ?_
    · refine zq_6_0 ?_
      refine zh_61 ?_
      refine zq_1 ?_
      refine zq_4_1 ?_
      refine zq_13 ?_
      refine zq_4_2 ?_
      refine zq_11 ?_
      refine zq_4_1 ?_
      refine zq_4_2 ?_
      refine zq_47 ?_ ?_
      · refine zq_1 ?_
        refine zq_56 ?_
        exact zE_w [true, true, true] (hq221 _ _ _ _ _ _ _)
      · refine zq_1 ?_
        refine zq_57 ?_
        exact zE_w [true, true, true] (hq221 _ _ _ _ _ _ _)
    · exact zE_w [true, true, false] (hk213 _ _ _)
noncomputable def fM_init_l5 : Nat → Nat → Int → zHp → (Nat → zHp → Option (Unit × zHp)) → Option (Unit × zHp)
  | 0, _, _, _, _ => none
  | n + 1, x205, x206, s207, k208 =>
   if x206 < 6 then
     (fM_init_l6 zFU x205 x206 0 s207 (fun (x225 : Nat) (x226 : Int) (s227 : zHp) =>
      yvl (zadd x226 1) fun v228 =>
      fM_init_l5 n x225 v228 s227 k208))
   else
     (k208 x205 s207)
set_option maxRecDepth 20000 in
set_option maxHeartbeats 4000000 in
theorem fM_init_l5_ok {E : Nat → Nat} (d : Nat) : ∀ (n : Nat) (x205 : Nat) (x206 : Int) (s207 : zHp) (k208 : Nat → zHp → Option (Unit × zHp)) (hk208 : ∀ (y0 : Nat) (s : zHp), zE zI Jv E (d + 0) 198 (zB 198 10) ([some (.inr (.inr y0)), none, none]) ([]) s (k208 y0 s)), zE zI Jv E (d + 0) 198 (zB 198 5) ([some (.inr (.inr x205)), some (.inl x206), none]) ([]) s207 (fM_init_l5 n x205 x206 s207 k208) := by
  intro n
  induction n with
  | zero => intro x205 x206 s207 k208 hk208; exact zE_none
  | succ n ih =>
    intro x205 x206 s207 k208 hk208
    unfold fM_init_l5
    refine zq_4_1 ?_
    refine zq_1 ?_
    refine zq_49 ?_ ?_
    · refine zq_1 ?_
      refine zq_7_2 rfl ?_
      refine zq_57 ?_
      refine zE_w [true, true, true] (fM_init_l6_ok (E := E) d zFU _ _ _ _ _ (fun x225 x226 s227 => ?_))
      refine zE_vl ?_
      refine zq_10_1 rfl ?_
      refine zq_56 ?_
      exact zE_w [true, true, false] (ih _ _ _ _ hk208)
    · exact zE_w [true, false, false] (hk208 _ _)
noncomputable def fM_init_l11 : Nat → Nat → Int → zHp → (Nat → zHp → Option (Unit × zHp)) → Option (Unit × zHp)
  | 0, _, _, _, _ => none
  | n + 1, x231, x232, s233, k234 =>
   if x232 < 4800 then
     (ygr 11 29 x231 s233 fun p235 =>
     ysi p235 x232 (-1) s233 fun s236 =>
     yvl (zadd x232 1) fun v237 =>
     fM_init_l11 n x231 v237 s236 k234)
   else
     (k234 x231 s233)
set_option maxRecDepth 20000 in
set_option maxHeartbeats 4000000 in
theorem fM_init_l11_ok {E : Nat → Nat} (d : Nat) : ∀ (n : Nat) (x231 : Nat) (x232 : Int) (s233 : zHp) (k234 : Nat → zHp → Option (Unit × zHp)) (hk234 : ∀ (y0 : Nat) (s : zHp), zE zI Jv E (d + 0) 198 (zB 198 12) ([some (.inr (.inr y0)), none, none]) ([]) s (k234 y0 s)), zE zI Jv E (d + 0) 198 (zB 198 11) ([some (.inr (.inr x231)), some (.inl x232), none]) ([]) s233 (fM_init_l11 n x231 x232 s233 k234) := by
  intro n
  induction n with
  | zero => intro x231 x232 s233 k234 hk234; exact zE_none
  | succ n ih =>
    intro x231 x232 s233 k234 hk234
    unfold fM_init_l11
    refine zq_4_1 ?_
    refine zq_1 ?_
    refine zq_49 ?_ ?_
    · refine zq_6_0 ?_
      refine zh_61 ?_
      refine zq_4_1 ?_
      refine zq_1 ?_
      refine zh_68 ?_
      refine zE_vl ?_
      refine zq_10_1 rfl ?_
      refine zq_56 ?_
      exact zE_w [true, true, false] (ih _ _ _ _ hk234)
    · exact zE_w [true, false, false] (hk234 _ _)
noncomputable def fM_init_l13 : Nat → Nat → Int → zHp → (Nat → zHp → Option (Unit × zHp)) → Option (Unit × zHp)
  | 0, _, _, _, _ => none
  | n + 1, x240, x241, s242, k243 =>
   if x241 < 240 then
     (ygr 11 75 x240 s242 fun p244 =>
     ysi p244 x241 (-1) s242 fun s245 =>
     yvl (zadd x241 1) fun v246 =>
     fM_init_l13 n x240 v246 s245 k243)
   else
     (k243 x240 s242)
set_option maxRecDepth 20000 in
set_option maxHeartbeats 4000000 in
theorem fM_init_l13_ok {E : Nat → Nat} (d : Nat) : ∀ (n : Nat) (x240 : Nat) (x241 : Int) (s242 : zHp) (k243 : Nat → zHp → Option (Unit × zHp)) (hk243 : ∀ (y0 : Nat) (s : zHp), zE zI Jv E (d + 0) 198 (zB 198 14) ([some (.inr (.inr y0)), none, none]) ([]) s (k243 y0 s)), zE zI Jv E (d + 0) 198 (zB 198 13) ([some (.inr (.inr x240)), some (.inl x241), none]) ([]) s242 (fM_init_l13 n x240 x241 s242 k243) := by
  intro n
  induction n with
  | zero => intro x240 x241 s242 k243 hk243; exact zE_none
  | succ n ih =>
    intro x240 x241 s242 k243 hk243
    unfold fM_init_l13
    refine zq_4_1 ?_
    refine zq_1 ?_
    refine zq_49 ?_ ?_
    · refine zq_6_0 ?_
      refine zh_61 ?_
      refine zq_4_1 ?_
      refine zq_1 ?_
      refine zh_68 ?_
      refine zE_vl ?_
      refine zq_10_1 rfl ?_
      refine zq_56 ?_
      exact zE_w [true, true, false] (ih _ _ _ _ hk243)
    · exact zE_w [true, false, false] (hk243 _ _)
noncomputable def fM_init (a0 : Nat) (s : zHp) : Option (Unit × zHp) :=
  yn0 a0 <|
  yna 30 60 s fun p1 s2 =>
  ypr 11 3 a0 p1 s2 fun s3 =>
  yna 30 60 s3 fun p4 s5 =>
  ypr 11 4 a0 p4 s5 fun s6 =>
  yna 30 60 s6 fun p7 s8 =>
  ypr 11 5 a0 p7 s8 fun s9 =>
  yna 30 60 s9 fun p10 s11 =>
  ypr 11 6 a0 p10 s11 fun s12 =>
  yna 30 60 s12 fun p13 s14 =>
  ypr 11 7 a0 p13 s14 fun s15 =>
  yna 30 12 s15 fun p16 s17 =>
  ypr 11 9 a0 p16 s17 fun s18 =>
  yna 30 38400 s18 fun p19 s20 =>
  ypr 11 10 a0 p19 s20 fun s21 =>
  yna 30 38400 s21 fun p22 s23 =>
  ypr 11 11 a0 p22 s23 fun s24 =>
  yna 30 38400 s24 fun p25 s26 =>
  ypr 11 12 a0 p25 s26 fun s27 =>
  yna 30 4800 s27 fun p28 s29 =>
  ypr 11 13 a0 p28 s29 fun s30 =>
  yna 30 240 s30 fun p31 s32 =>
  ypr 11 14 a0 p31 s32 fun s33 =>
  yna 30 8 s33 fun p34 s35 =>
  ypr 11 17 a0 p34 s35 fun s36 =>
  yna 30 8 s36 fun p37 s38 =>
  ypr 11 18 a0 p37 s38 fun s39 =>
  yna 30 8 s39 fun p40 s41 =>
  ypr 11 19 a0 p40 s41 fun s42 =>
  yna 30 3840 s42 fun p43 s44 =>
  ypr 11 20 a0 p43 s44 fun s45 =>
  yna 30 3840 s45 fun p46 s47 =>
  ypr 11 21 a0 p46 s47 fun s48 =>
  yna 30 3840 s48 fun p49 s50 =>
  ypr 11 22 a0 p49 s50 fun s51 =>
  yna 30 480 s51 fun p52 s53 =>
  ypr 11 23 a0 p52 s53 fun s54 =>
  yna 30 12 s54 fun p55 s56 =>
  ypr 11 25 a0 p55 s56 fun s57 =>
  yna 30 38400 s57 fun p58 s59 =>
  ypr 11 26 a0 p58 s59 fun s60 =>
  yna 30 38400 s60 fun p61 s62 =>
  ypr 11 27 a0 p61 s62 fun s63 =>
  yna 30 38400 s63 fun p64 s65 =>
  ypr 11 28 a0 p64 s65 fun s66 =>
  yna 30 4800 s66 fun p67 s68 =>
  ypr 11 29 a0 p67 s68 fun s69 =>
  yna 30 60 s69 fun p70 s71 =>
  ypr 11 30 a0 p70 s71 fun s72 =>
  yna 30 60 s72 fun p73 s74 =>
  ypr 11 31 a0 p73 s74 fun s75 =>
  yna 30 60 s75 fun p76 s77 =>
  ypr 11 32 a0 p76 s77 fun s78 =>
  yna 30 20 s78 fun p79 s80 =>
  ypr 11 33 a0 p79 s80 fun s81 =>
  yna 30 20 s81 fun p82 s83 =>
  ypr 11 34 a0 p82 s83 fun s84 =>
  yna 30 441 s84 fun p85 s86 =>
  ypr 11 35 a0 p85 s86 fun s87 =>
  yna 31 60 s87 fun p88 s89 =>
  ypr 11 36 a0 p88 s89 fun s90 =>
  yna 30 20 s90 fun p91 s92 =>
  ypr 11 37 a0 p91 s92 fun s93 =>
  yna 31 20 s93 fun p94 s95 =>
  ypr 11 38 a0 p94 s95 fun s96 =>
  yna 31 20 s96 fun p97 s98 =>
  ypr 11 39 a0 p97 s98 fun s99 =>
  yna 30 84 s99 fun p100 s101 =>
  ypr 11 40 a0 p100 s101 fun s102 =>
  yna 30 84 s102 fun p103 s104 =>
  ypr 11 41 a0 p103 s104 fun s105 =>
  yna 32 120 s105 fun p106 s107 =>
  ypr 11 42 a0 p106 s107 fun s108 =>
  yna 30 13 s108 fun p109 s110 =>
  ypr 11 45 a0 p109 s110 fun s111 =>
  yna 30 13 s111 fun p112 s113 =>
  ypr 11 46 a0 p112 s113 fun s114 =>
  yna 30 13 s114 fun p115 s116 =>
  ypr 11 47 a0 p115 s116 fun s117 =>
  yna 30 13 s117 fun p118 s119 =>
  ypr 11 48 a0 p118 s119 fun s120 =>
  yna 30 13 s120 fun p121 s122 =>
  ypr 11 49 a0 p121 s122 fun s123 =>
  yna 30 104 s123 fun p124 s125 =>
  ypr 11 50 a0 p124 s125 fun s126 =>
  yna 30 104 s126 fun p127 s128 =>
  ypr 11 51 a0 p127 s128 fun s129 =>
  yna 30 104 s129 fun p130 s131 =>
  ypr 11 52 a0 p130 s131 fun s132 =>
  yna 30 104 s132 fun p133 s134 =>
  ypr 11 53 a0 p133 s134 fun s135 =>
  yna 30 104 s135 fun p136 s137 =>
  ypr 11 54 a0 p136 s137 fun s138 =>
  yna 30 1820 s138 fun p139 s140 =>
  ypr 11 55 a0 p139 s140 fun s141 =>
  yna 30 1820 s141 fun p142 s143 =>
  ypr 11 56 a0 p142 s143 fun s144 =>
  yna 31 130 s144 fun p145 s146 =>
  ypr 11 62 a0 p145 s146 fun s147 =>
  yna 30 36 s147 fun p148 s149 =>
  ypr 11 63 a0 p148 s149 fun s150 =>
  yna 30 60 s150 fun p151 s152 =>
  ypr 11 64 a0 p151 s152 fun s153 =>
  yna 30 9 s153 fun p154 s155 =>
  ypr 11 66 a0 p154 s155 fun s156 =>
  yna 30 9 s156 fun p157 s158 =>
  ypr 11 67 a0 p157 s158 fun s159 =>
  yna 30 9 s159 fun p160 s161 =>
  ypr 11 68 a0 p160 s161 fun s162 =>
  yna 30 9 s162 fun p163 s164 =>
  ypr 11 69 a0 p163 s164 fun s165 =>
  yna 30 10 s165 fun p166 s167 =>
  ypr 11 71 a0 p166 s167 fun s168 =>
  yna 30 240 s168 fun p169 s170 =>
  ypr 11 75 a0 p169 s170 fun s171 =>
  yna 30 20 s171 fun p172 s173 =>
  ypr 11 77 a0 p172 s173 fun s174 =>
  yna 30 6 s174 fun p175 s176 =>
  ypr 11 78 a0 p175 s176 fun s177 =>
  yna 30 6 s177 fun p178 s179 =>
  ypr 11 79 a0 p178 s179 fun s180 =>
  yna 30 360 s180 fun p181 s182 =>
  ypr 11 80 a0 p181 s182 fun s183 =>
  yna 30 60 s183 fun p184 s185 =>
  ypr 11 81 a0 p184 s185 fun s186 =>
  fM_init_l1 zFU a0 0 s186 (fun (x194 : Nat) (s195 : zHp) =>
   fM_init_l3 zFU x194 0 s195 (fun (x203 : Nat) (s204 : zHp) =>
    fM_init_l5 zFU x203 0 s204 (fun (x229 : Nat) (s230 : zHp) =>
     fM_init_l11 zFU x229 0 s230 (fun (x238 : Nat) (s239 : zHp) =>
      fM_init_l13 zFU x238 0 s239 (fun (x247 : Nat) (s248 : zHp) =>
       ypi 11 15 x247 (-1) s248 fun s249 =>
       ypi 11 74 x247 9999 s249 fun s250 =>
       some ((), s250))))))
set_option maxRecDepth 20000 in
set_option maxHeartbeats 4000000 in
theorem fM_init_ok {E : Nat → Nat} (d : Nat) (a0 : Nat) (s : zHp) : zE zI Jv E (d + 0) 198 (zB 198 0) (zent 3 [.inr (.inr a0)]) [] s (fM_init a0 s) := by
  show zE _ _ _ _ _ _ [some (.inr (.inr a0)), none, none] _ _ _
  unfold fM_init
  refine zq_6_0 ?_
  refine zh_82 rfl ?_
  refine zq_6_0 ?_
  refine zq_1 ?_
  refine zh_74 ?_
  refine zh_64 ?_
  refine zq_6_0 ?_
  refine zq_1 ?_
  refine zh_74 ?_
  refine zh_64 ?_
  refine zq_6_0 ?_
  refine zq_1 ?_
  refine zh_74 ?_
  refine zh_64 ?_
  refine zq_6_0 ?_
  refine zq_1 ?_
  refine zh_74 ?_
  refine zh_64 ?_
  refine zq_6_0 ?_
  refine zq_1 ?_
  refine zh_74 ?_
  refine zh_64 ?_
  refine zq_6_0 ?_
  refine zq_1 ?_
  refine zh_74 ?_
  refine zh_64 ?_
  refine zq_6_0 ?_
  refine zq_1 ?_
  refine zh_74 ?_
  refine zh_64 ?_
  refine zq_6_0 ?_
  refine zq_1 ?_
  refine zh_74 ?_
  refine zh_64 ?_
  refine zq_6_0 ?_
  refine zq_1 ?_
  refine zh_74 ?_
  refine zh_64 ?_
  refine zq_6_0 ?_
  refine zq_1 ?_
  refine zh_74 ?_
  refine zh_64 ?_
  refine zq_6_0 ?_
  refine zq_1 ?_
  refine zh_74 ?_
  refine zh_64 ?_
  refine zq_6_0 ?_
  refine zq_1 ?_
  refine zh_74 ?_
  refine zh_64 ?_
  refine zq_6_0 ?_
  refine zq_1 ?_
  refine zh_74 ?_
  refine zh_64 ?_
  refine zq_6_0 ?_
  refine zq_1 ?_
  refine zh_74 ?_
  refine zh_64 ?_
  refine zq_6_0 ?_
  refine zq_1 ?_
  refine zh_74 ?_
  refine zh_64 ?_
  refine zq_6_0 ?_
  refine zq_1 ?_
  refine zh_74 ?_
  refine zh_64 ?_
  refine zq_6_0 ?_
  refine zq_1 ?_
  refine zh_74 ?_
  refine zh_64 ?_
  refine zq_6_0 ?_
  refine zq_1 ?_
  refine zh_74 ?_
  refine zh_64 ?_
  refine zq_6_0 ?_
  refine zq_1 ?_
  refine zh_74 ?_
  refine zh_64 ?_
  refine zq_6_0 ?_
  refine zq_1 ?_
  refine zh_74 ?_
  refine zh_64 ?_
  refine zq_6_0 ?_
  refine zq_1 ?_
  refine zh_74 ?_
  refine zh_64 ?_
  refine zq_6_0 ?_
  refine zq_1 ?_
  refine zh_74 ?_
  refine zh_64 ?_
  refine zq_6_0 ?_
  refine zq_1 ?_
  refine zh_74 ?_
  refine zh_64 ?_
  refine zq_6_0 ?_
  refine zq_1 ?_
  refine zh_74 ?_
  refine zh_64 ?_
  refine zq_6_0 ?_
  refine zq_1 ?_
  refine zh_74 ?_
  refine zh_64 ?_
  refine zq_6_0 ?_
  refine zq_1 ?_
  refine zh_74 ?_
  refine zh_64 ?_
  refine zq_6_0 ?_
  refine zq_1 ?_
  refine zh_74 ?_
  refine zh_64 ?_
  refine zq_6_0 ?_
  refine zq_1 ?_
  refine zh_74 ?_
  refine zh_64 ?_
  refine zq_6_0 ?_
  refine zq_1 ?_
  refine zh_74 ?_
  refine zh_64 ?_
  refine zq_6_0 ?_
  refine zq_1 ?_
  refine zh_74 ?_
  refine zh_64 ?_
  refine zq_6_0 ?_
  refine zq_1 ?_
  refine zh_74 ?_
  refine zh_64 ?_
  refine zq_6_0 ?_
  refine zq_1 ?_
  refine zh_74 ?_
  refine zh_64 ?_
  refine zq_6_0 ?_
  refine zq_1 ?_
  refine zh_74 ?_
  refine zh_64 ?_
  refine zq_6_0 ?_
  refine zq_1 ?_
  refine zh_74 ?_
  refine zh_64 ?_
  refine zq_6_0 ?_
  refine zq_1 ?_
  refine zh_74 ?_
  refine zh_64 ?_
  refine zq_6_0 ?_
  refine zq_1 ?_
  refine zh_74 ?_
  refine zh_64 ?_
  refine zq_6_0 ?_
  refine zq_1 ?_
  refine zh_74 ?_
  refine zh_64 ?_
  refine zq_6_0 ?_
  refine zq_1 ?_
  refine zh_74 ?_
  refine zh_64 ?_
  refine zq_6_0 ?_
  refine zq_1 ?_
  refine zh_74 ?_
  refine zh_64 ?_
  refine zq_6_0 ?_
  refine zq_1 ?_
  refine zh_74 ?_
  refine zh_64 ?_
  refine zq_6_0 ?_
  refine zq_1 ?_
  refine zh_74 ?_
  refine zh_64 ?_
  refine zq_6_0 ?_
  refine zq_1 ?_
  refine zh_74 ?_
  refine zh_64 ?_
  refine zq_6_0 ?_
  refine zq_1 ?_
  refine zh_74 ?_
  refine zh_64 ?_
  refine zq_6_0 ?_
  refine zq_1 ?_
  refine zh_74 ?_
  refine zh_64 ?_
  refine zq_6_0 ?_
  refine zq_1 ?_
  refine zh_74 ?_
  refine zh_64 ?_
  refine zq_6_0 ?_
  refine zq_1 ?_
  refine zh_74 ?_
  refine zh_64 ?_
  refine zq_6_0 ?_
  refine zq_1 ?_
  refine zh_74 ?_
  refine zh_64 ?_
  refine zq_6_0 ?_
  refine zq_1 ?_
  refine zh_74 ?_
  refine zh_64 ?_
  refine zq_6_0 ?_
  refine zq_1 ?_
  refine zh_74 ?_
  refine zh_64 ?_
  refine zq_6_0 ?_
  refine zq_1 ?_
  refine zh_74 ?_
  refine zh_64 ?_
  refine zq_6_0 ?_
  refine zq_1 ?_
  refine zh_74 ?_
  refine zh_64 ?_
  refine zq_6_0 ?_
  refine zq_1 ?_
  refine zh_74 ?_
  refine zh_64 ?_
  refine zq_6_0 ?_
  refine zq_1 ?_
  refine zh_74 ?_
  refine zh_64 ?_
  refine zq_6_0 ?_
  refine zq_1 ?_
  refine zh_74 ?_
  refine zh_64 ?_
  refine zq_6_0 ?_
  refine zq_1 ?_
  refine zh_74 ?_
  refine zh_64 ?_
  refine zq_6_0 ?_
  refine zq_1 ?_
  refine zh_74 ?_
  refine zh_64 ?_
  refine zq_6_0 ?_
  refine zq_1 ?_
  refine zh_74 ?_
  refine zh_64 ?_
  refine zq_6_0 ?_
  refine zq_1 ?_
  refine zh_74 ?_
  refine zh_64 ?_
  refine zq_6_0 ?_
  refine zq_1 ?_
  refine zh_74 ?_
  refine zh_64 ?_
  refine zq_6_0 ?_
  refine zq_1 ?_
  refine zh_74 ?_
  refine zh_64 ?_
  refine zq_6_0 ?_
  refine zq_1 ?_
  refine zh_74 ?_
  refine zh_64 ?_
  refine zq_6_0 ?_
  refine zq_1 ?_
  refine zh_74 ?_
  refine zh_64 ?_
  refine zq_1 ?_
  refine zq_7_1 rfl ?_
  refine zq_57 ?_
  refine zE_w [true, true, false] (fM_init_l1_ok (E := E) d zFU _ _ _ _ (fun x194 s195 => ?_))
  refine zq_1 ?_
  refine zq_7_1 rfl ?_
  refine zq_57 ?_
  refine zE_w [true, true, false] (fM_init_l3_ok (E := E) d zFU _ _ _ _ (fun x203 s204 => ?_))
  refine zq_1 ?_
  refine zq_7_1 rfl ?_
  refine zq_57 ?_
  refine zE_w [true, true, false] (fM_init_l5_ok (E := E) d zFU _ _ _ _ (fun x229 s230 => ?_))
  refine zq_1 ?_
  refine zq_7_1 rfl ?_
  refine zq_57 ?_
  refine zE_w [true, true, false] (fM_init_l11_ok (E := E) d zFU _ _ _ _ (fun x238 s239 => ?_))
  refine zq_1 ?_
  refine zq_7_1 rfl ?_
  refine zq_57 ?_
  refine zE_w [true, true, false] (fM_init_l13_ok (E := E) d zFU _ _ _ _ (fun x247 s248 => ?_))
  refine zq_6_0 ?_
  refine zq_1 ?_
  refine zh_62 ?_
  refine zq_6_0 ?_
  refine zq_1 ?_
  refine zh_62 ?_
  exact zq_101
