/-! 136: EngraversHouse$Contract.readTerm:()V -/
noncomputable def fContract_readTerm (E : Nat → Nat) (a0 : Nat) (s : zHp) : Option (Unit × zHp) :=
  yjn (fun (x1 : Nat) (x2 : Int) (s3 : zHp) =>
   yjn (fun (x5 : Nat) (x6 : Int) (x7 : Nat) (x8 : Nat) (s9 : zHp) =>
    yck 1 x7 s9 <| ybd (fContract_skip E x7 x8 s9) fun _ s11 =>
    yck 1 x5 s11 <| ybd (fContract_readNumber E x5 s11) fun v12 s13 =>
    if x6 = 0 then
      (ypi 1 6 x5 v12 s13 fun s14 =>
      some ((), s14))
    else
    ypi 1 5 x5 v12 s13 fun s15 =>
    some ((), s15)) fun q10 =>
    if x2 = 0 then
     (q10 x1 x2 x1 (E 3) s3)
   else
   q10 x1 x2 x1 (E 2) s3) fun q4 =>
   yck 1 a0 s <| ybd (fContract_skip E a0 (E 0) s) fun _ s16 =>
  yck 1 a0 s16 <| ybd (fContract_pick a0 (E 1) s16) fun v17 s18 =>
  if v17 = 0 then
    (q4 a0 1 s18)
  else
    (q4 a0 0 s18)
theorem fContract_readTerm_ok {E : Nat → Nat} (d : Nat) (a0 : Nat) (s : zHp) : zE zI Jv E (d + 6) 136 (zB 136 0) (zent 3 [.inr (.inr a0)]) [] s (fContract_readTerm E a0 s) := by
  show zE _ _ _ _ _ _ [some (.inr (.inr a0)), none, none] _ _ _
  unfold fContract_readTerm
  refine zE_jn (fun q4 => ∀ (y0 : Nat) (y1 : Int) (s : zHp), zE zI Jv E (d + 6) 136 (zB 136 2) ([some (.inr (.inr y0)), none, none]) ([.inl y1]) s (q4 y0 y1 s)) (fun x1 x2 s3 => ?_) (fun q4 hq4 => ?_)
  · refine zE_jn (fun q10 => ∀ (y0 : Nat) (y1 : Int) (y2 : Nat) (y3 : Nat) (s : zHp), zE zI Jv E (d + 6) 136 (zB 136 4) ([some (.inr (.inr y0)), some (.inl y1), none]) ([.inr (.inr y3), .inr (.inr y2)]) s (q10 y0 y1 y2 y3 s)) (fun x5 x6 x7 x8 s9 => ?_) (fun q10 hq10 => ?_)
    · refine zE_g fun hg => ?_
      refine zq_92_2v hg rfl rfl (fContract_skip_ok (E := E) _ _ _ _) fun _ s11 => ?_
      refine zq_6_0 ?_
      refine zE_g fun hg => ?_
      refine zq_92_1i hg rfl rfl (fContract_readNumber_ok (E := E) _ _ _) fun v12 s13 => ?_
      refine zq_7_2 rfl ?_
      refine zq_4_1 ?_
      refine zq_40 ?_ ?_
      · refine zq_6_0 ?_
        refine zq_4_2 ?_
        refine zh_62 ?_
        refine zq_57 ?_
        exact zq_101
      refine zq_6_0 ?_
      refine zq_4_2 ?_
      refine zh_62 ?_
      refine zq_56 ?_
      exact zq_101
    refine zq_7_1 rfl ?_
    refine zq_6_0 ?_
    refine zq_4_1 ?_
    refine zq_40 ?_ ?_
    · refine zh_81 ?_
      refine zq_57 ?_
      exact zE_w [true, true, false] (hq10 _ _ _ _ _)
    refine zh_81 ?_
    refine zq_56 ?_
    exact zE_w [true, true, false] (hq10 _ _ _ _ _)
  refine zq_6_0 ?_
  refine zh_81 ?_
  refine zE_g fun hg => ?_
  refine zq_92_2v hg rfl rfl (fContract_skip_ok (E := E) _ _ _ _) fun _ s16 => ?_
  refine zq_6_0 ?_
  refine zh_81 ?_
  refine zE_g fun hg => ?_
  refine zq_92_2i hg rfl rfl (fContract_pick_ok (E := E) _ _ _ _) fun v17 s18 => ?_
  refine zq_41 ?_ ?_
  · refine zq_1 ?_
    refine zq_56 ?_
    exact zE_w [true, false, false] (hq4 _ _ _)
  · refine zq_1 ?_
    refine zq_57 ?_
    exact zE_w [true, false, false] (hq4 _ _ _)
/-! 139: EngraversHouse$Contract.condition:(I)Z -/
noncomputable def fContract_condition_l1 (E : Nat → Nat) (F : Nat → Int → zHp → Option (Int × zHp)) : Nat → Nat → Int → Int → Int → Int → zHp → Option (Int × zHp)
  | 0, _, _, _, _, _, _ => none
  | n + 1, x1, x2, x3, x4, x5, s6 =>
   yjn (fun (x7 : Nat) (x8 : Int) (x9 : Int) (x10 : Int) (x11 : Int) (s12 : zHp) =>
    yjn (fun (x14 : Nat) (x15 : Int) (x16 : Int) (x17 : Int) (x18 : Int) (s19 : zHp) =>
     ygi 1 3 x14 s19 fun v21 =>
     ypi 1 3 x14 (zadd v21 1) s19 fun s22 =>
     yvl (zadd x18 1) fun v23 =>
     fContract_condition_l1 E F n x14 x15 x16 x17 v23 s22) fun q20 =>
     yjn (fun (x24 : Nat) (x25 : Int) (x26 : Int) (x27 : Int) (s28 : zHp) =>
     yck 1 x24 s28 <| ybd (fContract_sees x24 124 s28) fun v30 s31 =>
     if v30 = 0 then
       (yrb x27 s31)
     else
       (q20 x24 x25 x27 1 x26 s31)) fun q29 =>
     yjn (fun (x32 : Nat) (x33 : Int) (x34 : Int) (s35 : zHp) =>
     q29 x32 x33 x34 1 s35) fun q36 =>
     yck 1 x7 s12 <| ybd (fContract_sees x7 38 s12) fun v37 s38 =>
    if v37 = 0 then
      (if x9 = 0 then
        (if x11 = 0 then
          (q29 x7 x8 x10 0 s38)
        else
        q36 x7 x8 x10 s38)
      else
        (q36 x7 x8 x10 s38))
    else
      (q20 x7 x8 x9 x11 x10 s38)) fun q13 =>
    yjn (fun (x39 : Nat) (x40 : Int) (x41 : Int) (x42 : Int) (s43 : zHp) =>
    q13 x39 x40 x41 x42 0 s43) fun q44 =>
    if x5 < 120 then
     (yck 1 x1 s6 <| ybd (F x1 x2 s6) fun v45 s46 =>
     if x4 = 0 then
       (q44 x1 x2 x3 x5 s46)
     else
     if v45 = 0 then
       (q44 x1 x2 x3 x5 s46)
     else
     q13 x1 x2 x3 x5 1 s46)
   else
     (yrb x3 s6)
theorem fContract_condition_l1_ok {E : Nat → Nat} (F : Nat → Int → zHp → Option (Int × zHp)) (d : Nat) (hF : ∀ (y0 : Nat) (y1 : Int) (s : zHp), zE zI Ji E (d + 5) 138 (zB 138 0) (zent 6 [.inr (.inr y0), .inl y1]) [] s (F y0 y1 s)) : ∀ (n : Nat) (x1 : Nat) (x2 : Int) (x3 : Int) (x4 : Int) (x5 : Int) (s6 : zHp), zE zI Ji E (d + 6) 139 (zB 139 1) ([some (.inr (.inr x1)), some (.inl x2), some (.inl x3), some (.inl x4), some (.inl x5), none]) ([]) s6 (fContract_condition_l1 E F n x1 x2 x3 x4 x5 s6) := by
  intro n
  induction n with
  | zero => intro x1 x2 x3 x4 x5 s6; exact zE_none
  | succ n ih =>
    intro x1 x2 x3 x4 x5 s6
    unfold fContract_condition_l1
    refine zE_jn (fun q13 => ∀ (y0 : Nat) (y1 : Int) (y2 : Int) (y3 : Int) (y4 : Int) (s : zHp), zE zI Ji E (d + 6) 139 (zB 139 3) ([some (.inr (.inr y0)), some (.inl y1), some (.inl y2), none, some (.inl y3), none]) ([.inl y4]) s (q13 y0 y1 y2 y3 y4 s)) (fun x7 x8 x9 x10 x11 s12 => ?_) (fun q13 hq13 => ?_)
    · refine zE_jn (fun q20 => ∀ (y0 : Nat) (y1 : Int) (y2 : Int) (y3 : Int) (y4 : Int) (s : zHp), zE zI Ji E (d + 6) 139 (zB 139 7) ([some (.inr (.inr y0)), some (.inl y1), some (.inl y2), some (.inl y3), some (.inl y4), none]) ([]) s (q20 y0 y1 y2 y3 y4 s)) (fun x14 x15 x16 x17 x18 s19 => ?_) (fun q20 hq20 => ?_)
      · refine zq_6_0 ?_
        refine zq_33 ?_
        refine zh_60 ?_
        refine zq_1 ?_
        refine zq_11 ?_
        refine zh_62 ?_
        refine zE_vl ?_
        refine zq_10_4 rfl ?_
        refine zq_56 ?_
        exact zE_w [true, true, true, true, true, false] (ih _ _ _ _ _ _)
      refine zE_jn (fun q29 => ∀ (y0 : Nat) (y1 : Int) (y2 : Int) (y3 : Int) (s : zHp), zE zI Ji E (d + 6) 139 (zB 139 6) ([some (.inr (.inr y0)), some (.inl y1), none, none, some (.inl y2), none]) ([.inl y3]) s (q29 y0 y1 y2 y3 s)) (fun x24 x25 x26 x27 s28 => ?_) (fun q29 hq29 => ?_)
      · refine zq_7_2 rfl ?_
        refine zq_1 ?_
        refine zq_7_3 rfl ?_
        refine zq_6_0 ?_
        refine zq_1 ?_
        refine zE_g fun hg => ?_
        refine zq_92_2i hg rfl rfl (fContract_sees_ok (E := E) _ _ _ _) fun v30 s31 => ?_
        refine zq_41 ?_ ?_
        · refine zq_4_2 ?_
          exact zq_96
        · exact zE_w [true, true, true, true, true, false] (hq20 _ _ _ _ _ _)
      refine zE_jn (fun q36 => ∀ (y0 : Nat) (y1 : Int) (y2 : Int) (s : zHp), zE zI Ji E (d + 6) 139 (zB 139 4) ([some (.inr (.inr y0)), some (.inl y1), none, none, some (.inl y2), none]) ([]) s (q36 y0 y1 y2 s)) (fun x32 x33 x34 s35 => ?_) (fun q36 hq36 => ?_)
      · refine zq_1 ?_
        refine zq_56 ?_
        exact zE_w [true, true, false, false, true, false] (hq29 _ _ _ _ _)
      refine zq_7_3 rfl ?_
      refine zq_6_0 ?_
      refine zq_1 ?_
      refine zE_g fun hg => ?_
      refine zq_92_2i hg rfl rfl (fContract_sees_ok (E := E) _ _ _ _) fun v37 s38 => ?_
      refine zq_41 ?_ ?_
      · refine zq_4_2 ?_
        refine zq_41 ?_ ?_
        · refine zq_4_3 ?_
          refine zq_40 ?_ ?_
          · refine zq_1 ?_
            refine zq_57 ?_
            exact zE_w [true, true, false, false, true, false] (hq29 _ _ _ _ _)
          refine zq_57 ?_
          exact zE_w [true, true, false, false, true, false] (hq36 _ _ _ _)
        · exact zE_w [true, true, false, false, true, false] (hq36 _ _ _ _)
      · exact zE_w [true, true, true, true, true, false] (hq20 _ _ _ _ _ _)
    refine zE_jn (fun q44 => ∀ (y0 : Nat) (y1 : Int) (y2 : Int) (y3 : Int) (s : zHp), zE zI Ji E (d + 6) 139 (zB 139 2) ([some (.inr (.inr y0)), some (.inl y1), some (.inl y2), none, some (.inl y3), none]) ([]) s (q44 y0 y1 y2 y3 s)) (fun x39 x40 x41 x42 s43 => ?_) (fun q44 hq44 => ?_)
    · refine zq_1 ?_
      refine zq_57 ?_
      exact zE_w [true, true, true, false, true, false] (hq13 _ _ _ _ _ _)
    refine zq_4_4 ?_
    refine zq_1 ?_
    refine zq_49 ?_ ?_
    · refine zq_6_0 ?_
      refine zq_4_1 ?_
      refine zE_g fun hg => ?_
      refine zq_92_2i hg rfl rfl (zE_d (by omega) <| hF _ _ _) fun v45 s46 => ?_
      refine zq_7_5 rfl ?_
      refine zq_4_3 ?_
      refine zq_40 ?_ ?_
      · exact zE_w [true, true, true, false, true, false] (hq44 _ _ _ _ _)
      refine zq_4_5 ?_
      refine zq_40 ?_ ?_
      · exact zE_w [true, true, true, false, true, false] (hq44 _ _ _ _ _)
      refine zq_1 ?_
      refine zq_56 ?_
      exact zE_w [true, true, true, false, true, false] (hq13 _ _ _ _ _ _)
    · refine zq_4_2 ?_
      exact zq_96
noncomputable def fContract_condition (E : Nat → Nat) (F : Nat → Int → zHp → Option (Int × zHp)) (a0 : Nat) (a1 : Int) (s : zHp) : Option (Int × zHp) :=
  fContract_condition_l1 E F zFU a0 a1 0 1 0 s
theorem fContract_condition_ok {E : Nat → Nat} (F : Nat → Int → zHp → Option (Int × zHp)) (d : Nat) (hF : ∀ (y0 : Nat) (y1 : Int) (s : zHp), zE zI Ji E (d + 5) 138 (zB 138 0) (zent 6 [.inr (.inr y0), .inl y1]) [] s (F y0 y1 s)) (a0 : Nat) (a1 : Int) (s : zHp) : zE zI Ji E (d + 6) 139 (zB 139 0) (zent 6 [.inr (.inr a0), .inl a1]) [] s (fContract_condition E F a0 a1 s) := by
  show zE _ _ _ _ _ _ [some (.inr (.inr a0)), some (.inl a1), none, none, none, none] _ _ _
  unfold fContract_condition
  refine zq_1 ?_
  refine zq_7_2 rfl ?_
  refine zq_1 ?_
  refine zq_7_3 rfl ?_
  refine zq_1 ?_
  refine zq_7_4 rfl ?_
  refine zq_57 ?_
  exact zE_w [true, true, true, true, true, false] (fContract_condition_l1_ok (E := E) F d hF zFU _ _ _ _ _ _)
/-! 137: EngraversHouse$Contract.nested:(ZI)Z -/
noncomputable def fContract_nested (E : Nat → Nat) (F : Nat → Int → zHp → Option (Int × zHp)) (a0 : Nat) (a1 : Int) (a2 : Int) (s : zHp) : Option (Int × zHp) :=
  if a1 = 0 then
    (yck 1 a0 s <| ybd (fContract_condition E F a0 a2 s) fun v1 s2 =>
    yck 1 a0 s2 <| ybd (fContract_pick a0 (E 10) s2) fun v3 s4 =>
    yrb v1 s4)
  else
  yck 1 a0 s <| ybd (F a0 a2 s) fun v5 s6 =>
  if v5 = 0 then
    (some (1, s6))
  else
    (some (0, s6))
theorem fContract_nested_ok {E : Nat → Nat} (F : Nat → Int → zHp → Option (Int × zHp)) (d : Nat) (hF : ∀ (y0 : Nat) (y1 : Int) (s : zHp), zE zI Ji E (d + 5) 138 (zB 138 0) (zent 6 [.inr (.inr y0), .inl y1]) [] s (F y0 y1 s)) (a0 : Nat) (a1 : Int) (a2 : Int) (s : zHp) : zE zI Ji E (d + 7) 137 (zB 137 0) (zent 4 [.inr (.inr a0), .inl a1, .inl a2]) [] s (fContract_nested E F a0 a1 a2 s) := by
  show zE _ _ _ _ _ _ [some (.inr (.inr a0)), some (.inl a1), some (.inl a2), none] _ _ _
  unfold fContract_nested
  refine zq_4_1 ?_
  refine zq_40 ?_ ?_
  · refine zq_6_0 ?_
    refine zq_4_2 ?_
    refine zE_g fun hg => ?_
    refine zq_92_2i hg rfl rfl (fContract_condition_ok (E := E) F _ hF _ _ _) fun v1 s2 => ?_
    refine zq_7_3 rfl ?_
    refine zq_6_0 ?_
    refine zh_81 ?_
    refine zE_g fun hg => ?_
    refine zq_92_2i hg rfl rfl (fContract_pick_ok (E := E) _ _ _ _) fun v3 s4 => ?_
    refine zq_35 ?_
    refine zq_4_3 ?_
    exact zq_96
  refine zq_6_0 ?_
  refine zq_4_2 ?_
  refine zE_g fun hg => ?_
  refine zq_92_2i hg rfl rfl (zE_d (by omega) <| hF _ _ _) fun v5 s6 => ?_
  refine zq_41 ?_ ?_
  · refine zq_1 ?_
    refine zq_56 ?_
    exact zq_96c (by decide)
  · refine zq_1 ?_
    refine zq_57 ?_
    exact zq_96c (by decide)
/-! 138: EngraversHouse$Contract.single:(I)Z -/
noncomputable def fContract_single_b (E : Nat → Nat) (F : Nat → Int → zHp → Option (Int × zHp)) (a0 : Nat) (a1 : Int) (s : zHp) : Option (Int × zHp) :=
  yjn (fun (x1 : Nat) (x2 : Int) (s3 : zHp) =>
   yck 1 x1 s3 <| ybd (fContract_pick x1 (E 9) s3) fun v5 s6 =>
   if v5 = 0 then
     (ygi 1 8 x1 s6 fun v30 =>
     yrb v30 s6)
   else
     (yjn (fun (x7 : Int) (x8 : Nat) (x9 : Int) (s10 : zHp) =>
      yck 1 x8 s10 <| ybd (fContract_nested E F x8 x9 (zadd x7 1) s10) fun v12 s13 =>
      yrb v12 s13) fun q11 =>
      if 2 < v5 then
       (if v5 = 3 then
         (q11 x2 x1 1 s6)
       else
         (q11 x2 x1 0 s6))
     else
       (yjn (fun (x14 : Nat) (x15 : Int) (x16 : Int) (s17 : zHp) =>
        yjn (fun (x19 : Int) (x20 : Int) (x21 : Int) (s22 : zHp) =>
         if x19 = 0 then
           (if x20 < x21 then
             (some (1, s22))
           else
             (some (0, s22)))
         else
         if x21 < x20 then
           (some (1, s22))
         else
           (some (0, s22))) fun q23 =>
         yck 1 x14 s17 <| ybd (fContract_readNumber E x14 s17) fun v24 s25 =>
        if x15 = 1 then
          (ygi 1 9 x14 s25 fun v27 =>
          q23 x16 v24 v27 s25)
        else
          (ygi 1 10 x14 s25 fun v26 =>
          q23 x16 v24 v26 s25)) fun q18 =>
        yck 1 x1 s6 <| ybd (fContract_pick x1 (E 11) s6) fun v28 s29 =>
       if v28 = 0 then
         (q18 x1 v5 1 s29)
       else
         (q18 x1 v5 0 s29)))) fun q4 =>
   yjn (fun (x31 : Nat) (x32 : Int) (s33 : zHp) =>
   ypz 1 4 x31 1 s33 fun s35 =>
   q4 x31 x32 s35) fun q34 =>
   if a1 < 5 then
    (q4 a0 a1 s)
  else
  yck 1 a0 s <| ybd (fContract_sees a0 33 s) fun v36 s37 =>
  if v36 = 0 then
    (yck 1 a0 s37 <| ybd (fContract_sees a0 40 s37) fun v38 s39 =>
    if v38 = 0 then
      (q4 a0 a1 s39)
    else
    q34 a0 a1 s39)
  else
    (q34 a0 a1 s37)
theorem fContract_single_b_ok {E : Nat → Nat} (F : Nat → Int → zHp → Option (Int × zHp)) (d : Nat) (hF : ∀ (y0 : Nat) (y1 : Int) (s : zHp), zE zI Ji E (d + 5) 138 (zB 138 0) (zent 6 [.inr (.inr y0), .inl y1]) [] s (F y0 y1 s)) (a0 : Nat) (a1 : Int) (s : zHp) : zE zI Ji E (d + 8) 138 (zB 138 0) (zent 6 [.inr (.inr a0), .inl a1]) [] s (fContract_single_b E F a0 a1 s) := by
  show zE _ _ _ _ _ _ [some (.inr (.inr a0)), some (.inl a1), none, none, none, none] _ _ _
  unfold fContract_single_b
  refine zE_jn (fun q4 => ∀ (y0 : Nat) (y1 : Int) (s : zHp), zE zI Ji E (d + 8) 138 (zB 138 2) ([some (.inr (.inr y0)), some (.inl y1), none, none, none, none]) ([]) s (q4 y0 y1 s)) (fun x1 x2 s3 => ?_) (fun q4 hq4 => ?_)
  · refine zq_6_0 ?_
    refine zh_81 ?_
    refine zE_g fun hg => ?_
    refine zq_92_2i hg rfl rfl (fContract_pick_ok (E := E) _ _ _ _) fun v5 s6 => ?_
    refine zq_7_2 rfl ?_
    refine zq_4_2 ?_
    refine zq_41 ?_ ?_
    · refine zq_6_0 ?_
      refine zh_60 ?_
      exact zq_96
    · refine zE_jn (fun q11 => ∀ (y0 : Int) (y1 : Nat) (y2 : Int) (s : zHp), zE zI Ji E (d + 8) 138 (zB 138 5) ([none, some (.inl y0), none, none, none, none]) ([.inl y2, .inr (.inr y1)]) s (q11 y0 y1 y2 s)) (fun x7 x8 x9 s10 => ?_) (fun q11 hq11 => ?_)
      · refine zq_4_1 ?_
        refine zq_1 ?_
        refine zq_11 ?_
        refine zE_g fun hg => ?_
        refine zq_92_3i hg rfl rfl (fContract_nested_ok (E := E) F _ hF _ _ _ _) fun v12 s13 => ?_
        exact zq_96
      refine zq_4_2 ?_
      refine zq_1 ?_
      refine zq_51 ?_ ?_
      · refine zq_6_0 ?_
        refine zq_4_2 ?_
        refine zq_1 ?_
        refine zq_47 ?_ ?_
        · refine zq_1 ?_
          refine zq_56 ?_
          exact zE_w [false, true, false, false, false, false] (hq11 _ _ _ _)
        · refine zq_1 ?_
          refine zq_57 ?_
          exact zE_w [false, true, false, false, false, false] (hq11 _ _ _ _)
      · refine zE_jn (fun q18 => ∀ (y0 : Nat) (y1 : Int) (y2 : Int) (s : zHp), zE zI Ji E (d + 8) 138 (zB 138 8) ([some (.inr (.inr y0)), none, some (.inl y1), none, none, none]) ([.inl y2]) s (q18 y0 y1 y2 s)) (fun x14 x15 x16 s17 => ?_) (fun q18 hq18 => ?_)
        · refine zE_jn (fun q23 => ∀ (y0 : Int) (y1 : Int) (y2 : Int) (s : zHp), zE zI Ji E (d + 8) 138 (zB 138 10) ([none, none, none, some (.inl y0), some (.inl y1), none]) ([.inl y2]) s (q23 y0 y1 y2 s)) (fun x19 x20 x21 s22 => ?_) (fun q23 hq23 => ?_)
          · refine zq_7_5 rfl ?_
            refine zq_4_3 ?_
            refine zq_40 ?_ ?_
            · refine zq_4_5 ?_
              refine zq_4_4 ?_
              refine zq_51 ?_ ?_
              · refine zq_1 ?_
                refine zq_56 ?_
                exact zq_96c (by decide)
              · refine zq_1 ?_
                refine zq_57 ?_
                exact zq_96c (by decide)
            refine zq_4_5 ?_
            refine zq_4_4 ?_
            refine zq_49 ?_ ?_
            · refine zq_1 ?_
              refine zq_56 ?_
              exact zq_96c (by decide)
            · refine zq_1 ?_
              refine zq_56 ?_
              exact zq_96c (by decide)
          refine zq_7_3 rfl ?_
          refine zq_6_0 ?_
          refine zE_g fun hg => ?_
          refine zq_92_1i hg rfl rfl (fContract_readNumber_ok (E := E) _ _ _) fun v24 s25 => ?_
          refine zq_7_4 rfl ?_
          refine zq_4_2 ?_
          refine zq_1 ?_
          refine zq_47 ?_ ?_
          · refine zq_6_0 ?_
            refine zh_60 ?_
            refine zq_56 ?_
            exact zE_w [false, false, false, true, true, false] (hq23 _ _ _ _)
          · refine zq_6_0 ?_
            refine zh_60 ?_
            refine zq_57 ?_
            exact zE_w [false, false, false, true, true, false] (hq23 _ _ _ _)
        refine zq_6_0 ?_
        refine zh_81 ?_
        refine zE_g fun hg => ?_
        refine zq_92_2i hg rfl rfl (fContract_pick_ok (E := E) _ _ _ _) fun v28 s29 => ?_
        refine zq_41 ?_ ?_
        · refine zq_1 ?_
          refine zq_56 ?_
          exact zE_w [true, false, true, false, false, false] (hq18 _ _ _ _)
        · refine zq_1 ?_
          refine zq_57 ?_
          exact zE_w [true, false, true, false, false, false] (hq18 _ _ _ _)
  refine zE_jn (fun q34 => ∀ (y0 : Nat) (y1 : Int) (s : zHp), zE zI Ji E (d + 8) 138 (zB 138 1) ([some (.inr (.inr y0)), some (.inl y1), none, none, none, none]) ([]) s (q34 y0 y1 s)) (fun x31 x32 s33 => ?_) (fun q34 hq34 => ?_)
  · refine zq_6_0 ?_
    refine zq_1 ?_
    refine zh_63 ?_
    refine zq_57 ?_
    exact zE_w [true, true, false, false, false, false] (hq4 _ _ _)
  refine zq_4_1 ?_
  refine zq_1 ?_
  refine zq_48 ?_ ?_
  · exact zE_w [true, true, false, false, false, false] (hq4 _ _ _)
  refine zq_6_0 ?_
  refine zq_1 ?_
  refine zE_g fun hg => ?_
  refine zq_92_2i hg rfl rfl (fContract_sees_ok (E := E) _ _ _ _) fun v36 s37 => ?_
  refine zq_41 ?_ ?_
  · refine zq_6_0 ?_
    refine zq_1 ?_
    refine zE_g fun hg => ?_
    refine zq_92_2i hg rfl rfl (fContract_sees_ok (E := E) _ _ _ _) fun v38 s39 => ?_
    refine zq_40 ?_ ?_
    · exact zE_w [true, true, false, false, false, false] (hq4 _ _ _)
    refine zq_57 ?_
    exact zE_w [true, true, false, false, false, false] (hq34 _ _ _)
  · exact zE_w [true, true, false, false, false, false] (hq34 _ _ _)
noncomputable def fContract_single (E : Nat → Nat) : Nat → Nat → Int → zHp → Option (Int × zHp)
  | 0, _, _, _ => none
  | n + 1, a0, a1, s => fContract_single_b E (fContract_single E n) a0 a1 s
theorem fContract_single_ok {E : Nat → Nat} (d : Nat) : ∀ (n : Nat) (a0 : Nat) (a1 : Int) (s : zHp), zE zI Ji E (d + (5 + 3 * n)) 138 (zB 138 0) (zent 6 [.inr (.inr a0), .inl a1]) [] s (fContract_single E n a0 a1 s) := by
  intro n
  induction n with
  | zero => intro a0 a1 s; exact zE_none
  | succ n ih =>
    intro a0 a1 s
    have h9 := fContract_single_b_ok (E := E) (fContract_single E n) (d + 3 * n) (fun a0 a1 s => zE_d (by omega) (ih a0 a1 s)) a0 a1 s
    exact zE_d (by omega) h9
theorem fContract_single_okx {E : Nat → Nat} (d : Nat) (a0 : Nat) (a1 : Int) (s : zHp) : zE zI Ji E (d + 41) 138 (zB 138 0) (zent 6 [.inr (.inr a0), .inl a1]) [] s (fContract_single E 12 a0 a1 s) := zE_d (by omega) (fContract_single_ok (E := E) d 12 a0 a1 s)
theorem fContract_nested_okx {E : Nat → Nat} (d : Nat) (a0 : Nat) (a1 : Int) (a2 : Int) (s : zHp) : zE zI Ji E (d + 43) 137 (zB 137 0) (zent 4 [.inr (.inr a0), .inl a1, .inl a2]) [] s (fContract_nested E (fContract_single E 12) a0 a1 a2 s) := zE_d (by omega) (fContract_nested_ok (E := E) (fContract_single E 12) (d + 36) (fun y0 y1 s => zE_d (by omega) (fContract_single_ok (E := E) d 12 y0 y1 s)) a0 a1 a2 s)
theorem fContract_condition_okx {E : Nat → Nat} (d : Nat) (a0 : Nat) (a1 : Int) (s : zHp) : zE zI Ji E (d + 42) 139 (zB 139 0) (zent 6 [.inr (.inr a0), .inl a1]) [] s (fContract_condition E (fContract_single E 12) a0 a1 s) := zE_d (by omega) (fContract_condition_ok (E := E) (fContract_single E 12) (d + 36) (fun y0 y1 s => zE_d (by omega) (fContract_single_ok (E := E) d 12 y0 y1 s)) a0 a1 s)
/-! 140: EngraversHouse$Contract.readClause:(II)V -/
noncomputable def fContract_readClause (E : Nat → Nat) (a0 : Nat) (a1 : Int) (a2 : Int) (s : zHp) : Option (Unit × zHp) :=
  yck 1 a0 s <| ybd (fContract_sees a0 108 s) fun v1 s2 =>
  if v1 = 0 then
    (yjn (fun (x3 : Nat) (x4 : Int) (x5 : Int) (x6 : Int) (x7 : Int) (x8 : Int) (x9 : Int) (s10 : zHp) =>
     ygi 1 7 x3 s10 fun v12 =>
     ypi 1 7 x3 (zadd v12 1) s10 fun s13 =>
     if x6 = x4 then
       (if x7 = x5 then
         (if x9 = 0 then
           (some ((), s13))
         else
         ygi 1 4 x3 s13 fun v14 =>
         if v14 = 0 then
           (ygi 1 11 x3 s13 fun v15 =>
           ypi 1 11 x3 (zadd v15 x8) s13 fun s16 =>
           ypz 1 12 x3 1 s16 fun s17 =>
           some ((), s17))
         else
           (some ((), s13)))
       else
         (some ((), s13)))
     else
       (some ((), s13))) fun q11 =>
     yck 1 a0 s2 <| ybd (fContract_pick a0 (E 5) s2) fun v18 s19 =>
    yck 1 a0 s19 <| ybd (fContract_pick a0 (E 6) s19) fun v20 s21 =>
    yck 1 a0 s21 <| ybd (fContract_skip E a0 (E 7) s21) fun _ s22 =>
    yck 1 a0 s22 <| ybd (fContract_readNumber E a0 s22) fun v23 s24 =>
    yck 1 a0 s24 <| ybd (fContract_sees a0 32 s24) fun v25 s26 =>
    if v25 = 0 then
      (q11 a0 a1 a2 v18 v20 v23 1 s26)
    else
    yck 1 a0 s26 <| ybd (fContract_skip E a0 (E 8) s26) fun _ s27 =>
    yck 1 a0 s27 <| ybd (fContract_condition E (fContract_single E 12) a0 0 s27) fun v28 s29 =>
    q11 a0 a1 a2 v18 v20 v23 v28 s29)
  else
  yck 1 a0 s2 <| ybd (fContract_readTerm E a0 s2) fun _ s30 =>
  some ((), s30)
theorem fContract_readClause_ok {E : Nat → Nat} (d : Nat) (a0 : Nat) (a1 : Int) (a2 : Int) (s : zHp) : zE zI Jv E (d + 43) 140 (zB 140 0) (zent 7 [.inr (.inr a0), .inl a1, .inl a2]) [] s (fContract_readClause E a0 a1 a2 s) := by
  show zE _ _ _ _ _ _ [some (.inr (.inr a0)), some (.inl a1), some (.inl a2), none, none, none, none] _ _ _
  unfold fContract_readClause
  refine zq_6_0 ?_
  refine zq_1 ?_
  refine zE_g fun hg => ?_
  refine zq_92_2i hg rfl rfl (fContract_sees_ok (E := E) _ _ _ _) fun v1 s2 => ?_
  refine zq_40 ?_ ?_
  · refine zE_jn (fun q11 => ∀ (y0 : Nat) (y1 : Int) (y2 : Int) (y3 : Int) (y4 : Int) (y5 : Int) (y6 : Int) (s : zHp), zE zI Jv E (d + 43) 140 (zB 140 2) ([some (.inr (.inr y0)), some (.inl y1), some (.inl y2), some (.inl y3), some (.inl y4), some (.inl y5), some (.inl y6)]) ([]) s (q11 y0 y1 y2 y3 y4 y5 y6 s)) (fun x3 x4 x5 x6 x7 x8 x9 s10 => ?_) (fun q11 hq11 => ?_)
    · refine zq_6_0 ?_
      refine zq_33 ?_
      refine zh_60 ?_
      refine zq_1 ?_
      refine zq_11 ?_
      refine zh_62 ?_
      refine zq_4_3 ?_
      refine zq_4_1 ?_
      refine zq_47 ?_ ?_
      · refine zq_4_4 ?_
        refine zq_4_2 ?_
        refine zq_47 ?_ ?_
        · refine zq_4_6 ?_
          refine zq_40 ?_ ?_
          · exact zq_101
          refine zq_6_0 ?_
          refine zh_60 ?_
          refine zq_41 ?_ ?_
          · refine zq_6_0 ?_
            refine zq_33 ?_
            refine zh_60 ?_
            refine zq_4_5 ?_
            refine zq_11 ?_
            refine zh_62 ?_
            refine zq_6_0 ?_
            refine zq_1 ?_
            refine zh_63 ?_
            refine zq_57 ?_
            exact zq_101
          · exact zq_101
        · exact zq_101
      · exact zq_101
    refine zq_6_0 ?_
    refine zh_81 ?_
    refine zE_g fun hg => ?_
    refine zq_92_2i hg rfl rfl (fContract_pick_ok (E := E) _ _ _ _) fun v18 s19 => ?_
    refine zq_7_3 rfl ?_
    refine zq_6_0 ?_
    refine zh_81 ?_
    refine zE_g fun hg => ?_
    refine zq_92_2i hg rfl rfl (fContract_pick_ok (E := E) _ _ _ _) fun v20 s21 => ?_
    refine zq_7_4 rfl ?_
    refine zq_6_0 ?_
    refine zh_81 ?_
    refine zE_g fun hg => ?_
    refine zq_92_2v hg rfl rfl (fContract_skip_ok (E := E) _ _ _ _) fun _ s22 => ?_
    refine zq_6_0 ?_
    refine zE_g fun hg => ?_
    refine zq_92_1i hg rfl rfl (fContract_readNumber_ok (E := E) _ _ _) fun v23 s24 => ?_
    refine zq_7_5 rfl ?_
    refine zq_1 ?_
    refine zq_7_6 rfl ?_
    refine zq_6_0 ?_
    refine zq_1 ?_
    refine zE_g fun hg => ?_
    refine zq_92_2i hg rfl rfl (fContract_sees_ok (E := E) _ _ _ _) fun v25 s26 => ?_
    refine zq_40 ?_ ?_
    · exact zE_w [true, true, true, true, true, true, true] (hq11 _ _ _ _ _ _ _ _)
    refine zq_6_0 ?_
    refine zh_81 ?_
    refine zE_g fun hg => ?_
    refine zq_92_2v hg rfl rfl (fContract_skip_ok (E := E) _ _ _ _) fun _ s27 => ?_
    refine zq_6_0 ?_
    refine zq_1 ?_
    refine zE_g fun hg => ?_
    refine zq_92_2i hg rfl rfl (fContract_condition_okx (E := E) _ _ _ _) fun v28 s29 => ?_
    refine zq_7_6 rfl ?_
    refine zq_57 ?_
    exact zE_w [true, true, true, true, true, true, true] (hq11 _ _ _ _ _ _ _ _)
  refine zq_6_0 ?_
  refine zE_g fun hg => ?_
  refine zq_92_1v hg rfl rfl (fContract_readTerm_ok (E := E) _ _ _) fun _ s30 => ?_
  exact zq_101
/-! 141: EngraversHouse$Contract.readAll:(II)Z -/
noncomputable def fContract_readAll_l1 (E : Nat → Nat) : Nat → Nat → Int → Int → Int → Int → zHp → (Nat → zHp → Option (Int × zHp)) → Option (Int × zHp)
  | 0, _, _, _, _, _, _, _ => none
  | n + 1, x6, x7, x8, x9, x10, s11, k12 =>
   yjn (fun (x13 : Nat) (x14 : Int) (x15 : Int) (x16 : Int) (x17 : Int) (s18 : zHp) =>
    yjn (fun (x20 : Nat) (x21 : Int) (x22 : Int) (x23 : Int) (x24 : Int) (s25 : zHp) =>
     yvl (zadd x24 1) fun v27 =>
     fContract_readAll_l1 E n x20 x21 x22 x23 v27 s25 k12) fun q26 =>
     if x17 = 0 then
      (q26 x13 x14 x15 x17 x16 s18)
    else
    ygi 1 3 x13 s18 fun v28 =>
    ypi 1 3 x13 (zadd v28 1) s18 fun s29 =>
    q26 x13 x14 x15 x17 x16 s29) fun q19 =>
    yjn (fun (x30 : Nat) (x31 : Int) (x32 : Int) (x33 : Int) (s34 : zHp) =>
    q19 x30 x31 x32 x33 0 s34) fun q35 =>
    if 8 < x10 then
     (k12 x6 s11)
   else
   if x9 = 0 then
     (k12 x6 s11)
   else
   yck 1 x6 s11 <| ybd (fContract_readClause E x6 x7 x8 s11) fun _ s36 =>
   if x10 < 8 then
     (yck 1 x6 s36 <| ybd (fContract_sees x6 59 s36) fun v37 s38 =>
     if v37 = 0 then
       (q35 x6 x7 x8 x10 s38)
     else
     q19 x6 x7 x8 x10 1 s38)
   else
     (q35 x6 x7 x8 x10 s36)
theorem fContract_readAll_l1_ok {E : Nat → Nat} (d : Nat) : ∀ (n : Nat) (x6 : Nat) (x7 : Int) (x8 : Int) (x9 : Int) (x10 : Int) (s11 : zHp) (k12 : Nat → zHp → Option (Int × zHp)) (hk12 : ∀ (y0 : Nat) (s : zHp), zE zI Ji E (d + 44) 141 (zB 141 5) ([some (.inr (.inr y0)), none, none, none, none]) ([]) s (k12 y0 s)), zE zI Ji E (d + 44) 141 (zB 141 1) ([some (.inr (.inr x6)), some (.inl x7), some (.inl x8), some (.inl x9), some (.inl x10)]) ([]) s11 (fContract_readAll_l1 E n x6 x7 x8 x9 x10 s11 k12) := by
  intro n
  induction n with
  | zero => intro x6 x7 x8 x9 x10 s11 k12 hk12; exact zE_none
  | succ n ih =>
    intro x6 x7 x8 x9 x10 s11 k12 hk12
    unfold fContract_readAll_l1
    refine zE_jn (fun q19 => ∀ (y0 : Nat) (y1 : Int) (y2 : Int) (y3 : Int) (y4 : Int) (s : zHp), zE zI Ji E (d + 44) 141 (zB 141 3) ([some (.inr (.inr y0)), some (.inl y1), some (.inl y2), none, some (.inl y3)]) ([.inl y4]) s (q19 y0 y1 y2 y3 y4 s)) (fun x13 x14 x15 x16 x17 s18 => ?_) (fun q19 hq19 => ?_)
    · refine zE_jn (fun q26 => ∀ (y0 : Nat) (y1 : Int) (y2 : Int) (y3 : Int) (y4 : Int) (s : zHp), zE zI Ji E (d + 44) 141 (zB 141 4) ([some (.inr (.inr y0)), some (.inl y1), some (.inl y2), some (.inl y3), some (.inl y4)]) ([]) s (q26 y0 y1 y2 y3 y4 s)) (fun x20 x21 x22 x23 x24 s25 => ?_) (fun q26 hq26 => ?_)
      · refine zE_vl ?_
        refine zq_10_4 rfl ?_
        refine zq_56 ?_
        exact zE_w [true, true, true, true, true] (ih _ _ _ _ _ _ _ hk12)
      refine zq_7_3 rfl ?_
      refine zq_4_3 ?_
      refine zq_40 ?_ ?_
      · exact zE_w [true, true, true, true, true] (hq26 _ _ _ _ _ _)
      refine zq_6_0 ?_
      refine zq_33 ?_
      refine zh_60 ?_
      refine zq_1 ?_
      refine zq_11 ?_
      refine zh_62 ?_
      refine zq_57 ?_
      exact zE_w [true, true, true, true, true] (hq26 _ _ _ _ _ _)
    refine zE_jn (fun q35 => ∀ (y0 : Nat) (y1 : Int) (y2 : Int) (y3 : Int) (s : zHp), zE zI Ji E (d + 44) 141 (zB 141 2) ([some (.inr (.inr y0)), some (.inl y1), some (.inl y2), none, some (.inl y3)]) ([]) s (q35 y0 y1 y2 y3 s)) (fun x30 x31 x32 x33 s34 => ?_) (fun q35 hq35 => ?_)
    · refine zq_1 ?_
      refine zq_57 ?_
      exact zE_w [true, true, true, false, true] (hq19 _ _ _ _ _ _)
    refine zq_4_4 ?_
    refine zq_1 ?_
    refine zq_50 ?_ ?_
    · exact zE_w [true, false, false, false, false] (hk12 _ _)
    refine zq_4_3 ?_
    refine zq_40 ?_ ?_
    · exact zE_w [true, false, false, false, false] (hk12 _ _)
    refine zq_6_0 ?_
    refine zq_4_1 ?_
    refine zq_4_2 ?_
    refine zE_g fun hg => ?_
    refine zq_92_3v hg rfl rfl (fContract_readClause_ok (E := E) _ _ _ _ _) fun _ s36 => ?_
    refine zq_4_4 ?_
    refine zq_1 ?_
    refine zq_49 ?_ ?_
    · refine zq_6_0 ?_
      refine zq_1 ?_
      refine zE_g fun hg => ?_
      refine zq_92_2i hg rfl rfl (fContract_sees_ok (E := E) _ _ _ _) fun v37 s38 => ?_
      refine zq_40 ?_ ?_
      · exact zE_w [true, true, true, false, true] (hq35 _ _ _ _ _)
      refine zq_1 ?_
      refine zq_56 ?_
      exact zE_w [true, true, true, false, true] (hq19 _ _ _ _ _ _)
    · exact zE_w [true, true, true, false, true] (hq35 _ _ _ _ _)
noncomputable def fContract_readAll (E : Nat → Nat) (a0 : Nat) (a1 : Int) (a2 : Int) (s : zHp) : Option (Int × zHp) :=
  ypi 1 3 a0 0 s fun s1 =>
  ypz 1 4 a0 0 s1 fun s2 =>
  ypi 1 7 a0 0 s2 fun s3 =>
  ypi 1 11 a0 0 s3 fun s4 =>
  ypz 1 12 a0 0 s4 fun s5 =>
  fContract_readAll_l1 E zFU a0 a1 a2 1 1 s5 (fun (x39 : Nat) (s40 : zHp) =>
   ygi 1 4 x39 s40 fun v41 =>
   if v41 = 0 then
     (ygi 1 3 x39 s40 fun v42 =>
     ygr 1 2 x39 s40 fun p43 =>
     yln p43 s40 fun v44 =>
     if v42 = v44 then
       (some (1, s40))
     else
       (some (0, s40)))
   else
     (some (0, s40)))
theorem fContract_readAll_ok {E : Nat → Nat} (d : Nat) (a0 : Nat) (a1 : Int) (a2 : Int) (s : zHp) : zE zI Ji E (d + 44) 141 (zB 141 0) (zent 5 [.inr (.inr a0), .inl a1, .inl a2]) [] s (fContract_readAll E a0 a1 a2 s) := by
  show zE _ _ _ _ _ _ [some (.inr (.inr a0)), some (.inl a1), some (.inl a2), none, none] _ _ _
  unfold fContract_readAll
  refine zq_6_0 ?_
  refine zq_1 ?_
  refine zh_62 ?_
  refine zq_6_0 ?_
  refine zq_1 ?_
  refine zh_63 ?_
  refine zq_6_0 ?_
  refine zq_1 ?_
  refine zh_62 ?_
  refine zq_6_0 ?_
  refine zq_1 ?_
  refine zh_62 ?_
  refine zq_6_0 ?_
  refine zq_1 ?_
  refine zh_63 ?_
  refine zq_1 ?_
  refine zq_7_3 rfl ?_
  refine zq_1 ?_
  refine zq_7_4 rfl ?_
  refine zq_57 ?_
  refine zE_w [true, true, true, true, true] (fContract_readAll_l1_ok (E := E) d zFU _ _ _ _ _ _ _ (fun x39 s40 => ?_))
  refine zq_6_0 ?_
  refine zh_60 ?_
  refine zq_41 ?_ ?_
  · refine zq_6_0 ?_
    refine zh_60 ?_
    refine zq_6_0 ?_
    refine zh_61 ?_
    refine zh_72 ?_
    refine zq_47 ?_ ?_
    · refine zq_1 ?_
      refine zq_56 ?_
      exact zq_96c (by decide)
    · refine zq_1 ?_
      refine zq_57 ?_
      exact zq_96c (by decide)
  · refine zq_1 ?_
    refine zq_57 ?_
    exact zq_96c (by decide)
/-! 142: EngraversHouse.contract:(II)I -/
noncomputable def fH_contract (E : Nat → Nat) (a0 : Nat) (a1 : Int) (a2 : Int) (s : zHp) : Option (Int × zHp) :=
  ybd (fH_within a1 0 3 s) fun v1 s2 =>
  if v1 = 0 then
    (some ((-1), s2))
  else
    (ybd (fH_isDay a2 s2) fun v3 s4 =>
    if v3 = 0 then
      (some ((-2), s4))
    else
      (ygi 10 12 a0 s4 fun v5 =>
      if v5 < 12 then
        (ynw 1 13 s4 fun p6 s7 =>
        ygr 10 9 a0 s7 fun p8 =>
        ygi 10 10 a0 s7 fun v9 =>
        ybd (fJArrays_copyOf p8 v9 s7) fun p10 s11 =>
        yn0 p6 <| ybd (fContract_init p6 a1 a2 p10 s11) fun _ s12 =>
        ypi 10 10 a0 0 s12 fun s13 =>
        yck 1 p6 s13 <| ybd (fContract_readAll E p6 (-1) (-1) s13) fun v14 s15 =>
        if v14 = 0 then
          (ygi 1 3 p6 s15 fun v22 =>
          some (zsub (-10) v22, s15))
        else
          (ygr 10 11 a0 s15 fun p16 =>
          ygi 10 12 a0 s15 fun v17 =>
          ysr p16 v17 p6 s15 fun s18 =>
          ygi 10 12 a0 s18 fun v19 =>
          ypi 10 12 a0 (zadd v19 1) s18 fun s20 =>
          ygi 10 12 a0 s20 fun v21 =>
          some (zsub v21 1, s20)))
      else
      some ((-4), s4)))
theorem fH_contract_ok {E : Nat → Nat} (d : Nat) (a0 : Nat) (a1 : Int) (a2 : Int) (s : zHp) : zE zI Ji E (d + 45) 142 (zB 142 0) (zent 4 [.inr (.inr a0), .inl a1, .inl a2]) [] s (fH_contract E a0 a1 a2 s) := by
  show zE _ _ _ _ _ _ [some (.inr (.inr a0)), some (.inl a1), some (.inl a2), none] _ _ _
  unfold fH_contract
  refine zq_4_1 ?_
  refine zq_1 ?_
  refine zq_1 ?_
  refine zq_90_3i rfl rfl (fH_within_ok (E := E) _ _ _ _ _) fun v1 s2 => ?_
  refine zq_41 ?_ ?_
  · refine zq_1 ?_
    exact zq_95 rfl
  · refine zq_4_2 ?_
    refine zq_90_1i rfl rfl (fH_isDay_ok (E := E) _ _ _) fun v3 s4 => ?_
    refine zq_41 ?_ ?_
    · refine zq_1 ?_
      exact zq_95 rfl
    · refine zq_6_0 ?_
      refine zh_60 ?_
      refine zq_1 ?_
      refine zq_48 ?_ ?_
      · refine zh_73 ?_
        refine zq_33 ?_
        refine zq_4_1 ?_
        refine zq_4_2 ?_
        refine zq_6_0 ?_
        refine zh_61 ?_
        refine zq_6_0 ?_
        refine zh_60 ?_
        refine zq_90_2r rfl rfl (fJArrays_copyOf_ok (E := E) _ _ _ _) fun p10 s11 => ?_
        refine zq_91_4v rfl rfl (fContract_init_ok (E := E) _ _ _ _ _ _) fun _ s12 => ?_
        refine zq_9_3 rfl ?_
        refine zq_6_0 ?_
        refine zq_1 ?_
        refine zh_62 ?_
        refine zq_6_3 ?_
        refine zq_1 ?_
        refine zq_1 ?_
        refine zE_g fun hg => ?_
        refine zq_92_3i hg rfl rfl (fContract_readAll_ok (E := E) _ _ _ _ _) fun v14 s15 => ?_
        refine zq_41 ?_ ?_
        · refine zq_1 ?_
          refine zq_6_3 ?_
          refine zh_60 ?_
          refine zq_12 ?_
          exact zq_95 rfl
        · refine zq_6_0 ?_
          refine zh_61 ?_
          refine zq_6_0 ?_
          refine zh_60 ?_
          refine zq_6_3 ?_
          refine zh_71 ?_
          refine zq_6_0 ?_
          refine zq_33 ?_
          refine zh_60 ?_
          refine zq_1 ?_
          refine zq_11 ?_
          refine zh_62 ?_
          refine zq_6_0 ?_
          refine zh_60 ?_
          refine zq_1 ?_
          refine zq_12 ?_
          exact zq_95 rfl
      refine zq_1 ?_
      exact zq_95 rfl
/-! 143: EngraversHouse.contractAt:(I)LEngraversHouse$Contract; -/
noncomputable def fH_contractAt (a0 : Nat) (a1 : Int) (s : zHp) : Option (Nat × zHp) :=
  if a1 < (0 : Int) then
    (some (0, s))
  else
  ygi 10 12 a0 s fun v1 =>
  if a1 < v1 then
    (if a1 < 12 then
      (ygr 10 11 a0 s fun p2 =>
      yar p2 a1 s fun p3 =>
      some (p3, s))
    else
      (some (0, s)))
  else
    (some (0, s))
theorem fH_contractAt_ok {E : Nat → Nat} (d : Nat) (a0 : Nat) (a1 : Int) (s : zHp) : zE zI Jr E (d + 0) 143 (zB 143 0) (zent 2 [.inr (.inr a0), .inl a1]) [] s (fH_contractAt a0 a1 s) := by
  show zE _ _ _ _ _ _ [some (.inr (.inr a0)), some (.inl a1)] _ _ _
  unfold fH_contractAt
  refine zq_1 ?_
  refine zq_4_1 ?_
  refine zq_50 ?_ ?_
  · refine zq_3 ?_
    refine zq_57 ?_
    exact zq_100
  refine zq_4_1 ?_
  refine zq_6_0 ?_
  refine zh_60 ?_
  refine zq_49 ?_ ?_
  · refine zq_4_1 ?_
    refine zq_1 ?_
    refine zq_49 ?_ ?_
    · refine zq_6_0 ?_
      refine zh_61 ?_
      refine zq_4_1 ?_
      refine zh_67 ?_
      refine zq_56 ?_
      exact zq_100
    · refine zq_3 ?_
      refine zq_57 ?_
      exact zq_100
  · refine zq_3 ?_
    refine zq_57 ?_
    exact zq_100
/-! 144: EngraversHouse.contractNumber:(II)I -/
noncomputable def fH_contractNumber_l1 : Nat → Nat → Int → Int → Int → Int → Int → zHp → Option (Int × zHp)
  | 0, _, _, _, _, _, _, _ => none
  | n + 1, x1, x2, x3, x4, x5, x6, s7 =>
   yjn (fun (x8 : Nat) (x9 : Int) (x10 : Int) (x11 : Int) (x12 : Int) (x13 : Int) (s14 : zHp) =>
    yvl (zadd x13 1) fun v16 =>
    fH_contractNumber_l1 n x8 x9 x10 x11 x12 v16 s14) fun q15 =>
    ygi 10 12 x1 s7 fun v17 =>
   if x6 < v17 then
     (yck 10 x1 s7 <| ybd (fH_contractAt x1 x6 s7) fun p18 s19 =>
     if p18 = 0 then
       (q15 x1 x2 x3 x4 x5 x6 s19)
     else
     ygi 1 0 p18 s19 fun v20 =>
     if v20 = x2 then
       (ygi 1 1 p18 s19 fun v21 =>
       if x3 < v21 then
         (q15 x1 x2 x3 x4 x5 x6 s19)
       else
       ygi 1 1 p18 s19 fun v22 =>
       if v22 < x5 then
         (q15 x1 x2 x3 x4 x5 x6 s19)
       else
       ygi 1 1 p18 s19 fun v23 =>
       q15 x1 x2 x3 x6 v23 x6 s19)
     else
       (q15 x1 x2 x3 x4 x5 x6 s19))
   else
     (some (x4, s7))
theorem fH_contractNumber_l1_ok {E : Nat → Nat} (d : Nat) : ∀ (n : Nat) (x1 : Nat) (x2 : Int) (x3 : Int) (x4 : Int) (x5 : Int) (x6 : Int) (s7 : zHp), zE zI Ji E (d + 1) 144 (zB 144 1) ([some (.inr (.inr x1)), some (.inl x2), some (.inl x3), some (.inl x4), some (.inl x5), some (.inl x6), none]) ([]) s7 (fH_contractNumber_l1 n x1 x2 x3 x4 x5 x6 s7) := by
  intro n
  induction n with
  | zero => intro x1 x2 x3 x4 x5 x6 s7; exact zE_none
  | succ n ih =>
    intro x1 x2 x3 x4 x5 x6 s7
    unfold fH_contractNumber_l1
    refine zE_jn (fun q15 => ∀ (y0 : Nat) (y1 : Int) (y2 : Int) (y3 : Int) (y4 : Int) (y5 : Int) (s : zHp), zE zI Ji E (d + 1) 144 (zB 144 2) ([some (.inr (.inr y0)), some (.inl y1), some (.inl y2), some (.inl y3), some (.inl y4), some (.inl y5), none]) ([]) s (q15 y0 y1 y2 y3 y4 y5 s)) (fun x8 x9 x10 x11 x12 x13 s14 => ?_) (fun q15 hq15 => ?_)
    · refine zE_vl ?_
      refine zq_10_5 rfl ?_
      refine zq_56 ?_
      exact zE_w [true, true, true, true, true, true, false] (ih _ _ _ _ _ _ _)
    refine zq_4_5 ?_
    refine zq_6_0 ?_
    refine zh_60 ?_
    refine zq_49 ?_ ?_
    · refine zq_6_0 ?_
      refine zq_4_5 ?_
      refine zE_g fun hg => ?_
      refine zq_92_2r hg rfl rfl (fH_contractAt_ok (E := E) _ _ _ _) fun p18 s19 => ?_
      refine zq_9_6 rfl ?_
      refine zq_6_6 ?_
      refine zq_54 ?_ ?_
      · exact zE_w [true, true, true, true, true, true, false] (hq15 _ _ _ _ _ _ _)
      refine zq_6_6 ?_
      refine zh_60 ?_
      refine zq_4_1 ?_
      refine zq_47 ?_ ?_
      · refine zq_6_6 ?_
        refine zh_60 ?_
        refine zq_4_2 ?_
        refine zq_50 ?_ ?_
        · exact zE_w [true, true, true, true, true, true, false] (hq15 _ _ _ _ _ _ _)
        refine zq_6_6 ?_
        refine zh_60 ?_
        refine zq_4_4 ?_
        refine zq_48 ?_ ?_
        · exact zE_w [true, true, true, true, true, true, false] (hq15 _ _ _ _ _ _ _)
        refine zq_4_5 ?_
        refine zq_7_3 rfl ?_
        refine zq_6_6 ?_
        refine zh_60 ?_
        refine zq_7_4 rfl ?_
        refine zq_57 ?_
        exact zE_w [true, true, true, true, true, true, false] (hq15 _ _ _ _ _ _ _)
      · exact zE_w [true, true, true, true, true, true, false] (hq15 _ _ _ _ _ _ _)
    · refine zq_4_3 ?_
      exact zq_95 rfl
noncomputable def fH_contractNumber (a0 : Nat) (a1 : Int) (a2 : Int) (s : zHp) : Option (Int × zHp) :=
  fH_contractNumber_l1 zFU a0 a1 a2 (-1) (-1) 0 s
theorem fH_contractNumber_ok {E : Nat → Nat} (d : Nat) (a0 : Nat) (a1 : Int) (a2 : Int) (s : zHp) : zE zI Ji E (d + 1) 144 (zB 144 0) (zent 7 [.inr (.inr a0), .inl a1, .inl a2]) [] s (fH_contractNumber a0 a1 a2 s) := by
  show zE _ _ _ _ _ _ [some (.inr (.inr a0)), some (.inl a1), some (.inl a2), none, none, none, none] _ _ _
  unfold fH_contractNumber
  refine zq_1 ?_
  refine zq_7_3 rfl ?_
  refine zq_1 ?_
  refine zq_7_4 rfl ?_
  refine zq_1 ?_
  refine zq_7_5 rfl ?_
  refine zq_57 ?_
  exact zE_w [true, true, true, true, true, true, false] (fH_contractNumber_l1_ok (E := E) d zFU _ _ _ _ _ _ _)
/-! 145: EngraversHouse.lifeBy:(LEngraversHouse$Contract;)I -/
noncomputable def fH_lifeBy (a0 : Nat) (s : zHp) : Option (Int × zHp) :=
  if a0 = 0 then
    (some (10, s))
  else
    (ygi 1 5 a0 s fun v1 =>
    some (v1, s))
theorem fH_lifeBy_ok {E : Nat → Nat} (d : Nat) (a0 : Nat) (s : zHp) : zE zI Ji E (d + 0) 145 (zB 145 0) (zent 1 [.inr (.inr a0)]) [] s (fH_lifeBy a0 s) := by
  show zE _ _ _ _ _ _ [some (.inr (.inr a0))] _ _ _
  unfold fH_lifeBy
  refine zq_6_0 ?_
  refine zq_55 ?_ ?_
  · refine zq_1 ?_
    refine zq_56 ?_
    exact zq_95 rfl
  · refine zq_6_0 ?_
    refine zh_60 ?_
    refine zq_57 ?_
    exact zq_95 rfl
/-! 146: EngraversHouse.lawful:(III)I -/
noncomputable def fH_lawful (a0 : Nat) (a1 : Int) (a2 : Int) (a3 : Int) (s : zHp) : Option (Int × zHp) :=
  ybd (fH_within a1 0 3 s) fun v1 s2 =>
  if v1 = 0 then
    (some ((-5), s2))
  else
  ybd (fH_isDay a2 s2) fun v3 s4 =>
  if v3 = 0 then
    (some ((-5), s4))
  else
    (yck 10 a0 s4 <| ybd (fH_contractNumber a0 a1 a2 s4) fun v5 s6 =>
    yck 10 a0 s6 <| ybd (fH_contractAt a0 v5 s6) fun p7 s8 =>
    if a3 = 0 then
      (some (v5, s8))
    else if a3 = 1 then
      (ybd (fH_lifeBy p7 s8) fun v9 s10 =>
      some (v9, s10))
    else if a3 = 2 then
      (if p7 = 0 then
        (some (0, s8))
      else
        (ygi 1 6 p7 s8 fun v11 =>
        some (v11, s8)))
    else if a3 = 3 then
      (if p7 = 0 then
        (some (0, s8))
      else
        (ygi 1 7 p7 s8 fun v12 =>
        some (v12, s8)))
    else some ((-5), s8))
theorem fH_lawful_ok {E : Nat → Nat} (d : Nat) (a0 : Nat) (a1 : Int) (a2 : Int) (a3 : Int) (s : zHp) : zE zI Ji E (d + 2) 146 (zB 146 0) (zent 6 [.inr (.inr a0), .inl a1, .inl a2, .inl a3]) [] s (fH_lawful a0 a1 a2 a3 s) := by
  show zE _ _ _ _ _ _ [some (.inr (.inr a0)), some (.inl a1), some (.inl a2), some (.inl a3), none, none] _ _ _
  unfold fH_lawful
  refine zq_4_1 ?_
  refine zq_1 ?_
  refine zq_1 ?_
  refine zq_90_3i rfl rfl (fH_within_ok (E := E) _ _ _ _ _) fun v1 s2 => ?_
  refine zq_40 ?_ ?_
  · refine zq_1 ?_
    exact zq_95 rfl
  refine zq_4_2 ?_
  refine zq_90_1i rfl rfl (fH_isDay_ok (E := E) _ _ _) fun v3 s4 => ?_
  refine zq_41 ?_ ?_
  · refine zq_57 ?_
    refine zq_1 ?_
    exact zq_95 rfl
  · refine zq_6_0 ?_
    refine zq_4_1 ?_
    refine zq_4_2 ?_
    refine zE_g fun hg => ?_
    refine zq_92_3i hg rfl rfl (fH_contractNumber_ok (E := E) _ _ _ _ _) fun v5 s6 => ?_
    refine zq_7_4 rfl ?_
    refine zq_6_0 ?_
    refine zq_4_4 ?_
    refine zE_g fun hg => ?_
    refine zq_92_2r hg rfl rfl (fH_contractAt_ok (E := E) _ _ _ _) fun p7 s8 => ?_
    refine zq_9_5 rfl ?_
    refine zq_4_3 ?_
    refine zq_58 ?_
    refine zq_sw ?_ ?_
    · refine zq_4_4 ?_
      exact zq_95 rfl
    refine zq_sw ?_ ?_
    · refine zq_6_5 ?_
      refine zq_90_1i rfl rfl (fH_lifeBy_ok (E := E) _ _ _) fun v9 s10 => ?_
      exact zq_95 rfl
    refine zq_sw ?_ ?_
    · refine zq_6_5 ?_
      refine zq_55 ?_ ?_
      · refine zq_1 ?_
        refine zq_56 ?_
        exact zq_95 rfl
      · refine zq_6_5 ?_
        refine zh_60 ?_
        refine zq_57 ?_
        exact zq_95 rfl
    refine zq_sw ?_ ?_
    · refine zq_6_5 ?_
      refine zq_55 ?_ ?_
      · refine zq_1 ?_
        refine zq_56 ?_
        exact zq_95 rfl
      · refine zq_6_5 ?_
        refine zh_60 ?_
        refine zq_57 ?_
        exact zq_95 rfl
    refine zq_1 ?_
    exact zq_95 rfl
/-! 147: EngraversHouse.daysSinceDeath:(II)I -/
noncomputable def fH_daysSinceDeath (a0 : Nat) (a1 : Int) (a2 : Int) (s : zHp) : Option (Int × zHp) :=
  yck 10 a0 s <| ybd (fH_isAuthor a0 a1 s) fun v1 s2 =>
  if v1 = 0 then
    (some ((-1), s2))
  else
  ygr 10 1 a0 s2 fun p3 =>
  yai p3 a1 s2 fun v4 =>
  if v4 = (-1) then
    (some ((-1), s2))
  else
  ygr 10 1 a0 s2 fun p5 =>
  yai p5 a1 s2 fun v6 =>
  if a2 < v6 then
    (some ((-1), s2))
  else
    (ygr 10 1 a0 s2 fun p7 =>
    yai p7 a1 s2 fun v8 =>
    some (zsub a2 v8, s2))
theorem fH_daysSinceDeath_ok {E : Nat → Nat} (d : Nat) (a0 : Nat) (a1 : Int) (a2 : Int) (s : zHp) : zE zI Ji E (d + 1) 147 (zB 147 0) (zent 3 [.inr (.inr a0), .inl a1, .inl a2]) [] s (fH_daysSinceDeath a0 a1 a2 s) := by
  show zE _ _ _ _ _ _ [some (.inr (.inr a0)), some (.inl a1), some (.inl a2)] _ _ _
  unfold fH_daysSinceDeath
  refine zq_6_0 ?_
  refine zq_4_1 ?_
  refine zE_g fun hg => ?_
  refine zq_92_2i hg rfl rfl (fH_isAuthor_ok (E := E) _ _ _ _) fun v1 s2 => ?_
  refine zq_40 ?_ ?_
  · refine zq_1 ?_
    exact zq_95 rfl
  refine zq_6_0 ?_
  refine zh_61 ?_
  refine zq_4_1 ?_
  refine zh_65 ?_
  refine zq_1 ?_
  refine zq_46 ?_ ?_
  · refine zq_1 ?_
    exact zq_95 rfl
  refine zq_4_2 ?_
  refine zq_6_0 ?_
  refine zh_61 ?_
  refine zq_4_1 ?_
  refine zh_65 ?_
  refine zq_49 ?_ ?_
  · refine zq_57 ?_
    refine zq_1 ?_
    exact zq_95 rfl
  · refine zq_4_2 ?_
    refine zq_6_0 ?_
    refine zh_61 ?_
    refine zq_4_1 ?_
    refine zh_65 ?_
    refine zq_12 ?_
    exact zq_95 rfl
/-! 148: EngraversHouse.hasRight:(ILEngraversHouse$Contract;I)Z -/
noncomputable def fH_hasRight (a0 : Nat) (a1 : Int) (a2 : Nat) (a3 : Int) (s : zHp) : Option (Int × zHp) :=
  yck 10 a0 s <| ybd (fH_daysSinceDeath a0 a1 a3 s) fun v1 s2 =>
  if v1 = (-1) then
    (some (1, s2))
  else
  ybd (fH_lifeBy a2 s2) fun v3 s4 =>
  if v1 < (zmul v3 365) then
    (some (1, s4))
  else
    (some (0, s4))
theorem fH_hasRight_ok {E : Nat → Nat} (d : Nat) (a0 : Nat) (a1 : Int) (a2 : Nat) (a3 : Int) (s : zHp) : zE zI Ji E (d + 2) 148 (zB 148 0) (zent 5 [.inr (.inr a0), .inl a1, .inr (.inr a2), .inl a3]) [] s (fH_hasRight a0 a1 a2 a3 s) := by
  show zE _ _ _ _ _ _ [some (.inr (.inr a0)), some (.inl a1), some (.inr (.inr a2)), some (.inl a3), none] _ _ _
  unfold fH_hasRight
  refine zq_6_0 ?_
  refine zq_4_1 ?_
  refine zq_4_3 ?_
  refine zE_g fun hg => ?_
  refine zq_92_3i hg rfl rfl (fH_daysSinceDeath_ok (E := E) _ _ _ _ _) fun v1 s2 => ?_
  refine zq_7_4 rfl ?_
  refine zq_4_4 ?_
  refine zq_1 ?_
  refine zq_46 ?_ ?_
  · refine zq_1 ?_
    refine zq_56 ?_
    exact zq_96c (by decide)
  refine zq_4_4 ?_
  refine zq_6_2 ?_
  refine zq_90_1i rfl rfl (fH_lifeBy_ok (E := E) _ _ _) fun v3 s4 => ?_
  refine zq_1 ?_
  refine zq_13 ?_
  refine zq_49 ?_ ?_
  · refine zq_57 ?_
    refine zq_1 ?_
    refine zq_56 ?_
    exact zq_96c (by decide)
  · refine zq_1 ?_
    refine zq_57 ?_
    exact zq_96c (by decide)
/-! 149: EngraversHouse.right:(III)I -/
noncomputable def fH_right (a0 : Nat) (a1 : Int) (a2 : Int) (a3 : Int) (s : zHp) : Option (Int × zHp) :=
  yck 10 a0 s <| ybd (fH_isAuthor a0 a1 s) fun v1 s2 =>
  if v1 = 0 then
    (some ((-1), s2))
  else
  ybd (fH_within a2 0 3 s2) fun v3 s4 =>
  if v3 = 0 then
    (some ((-1), s4))
  else
    (ybd (fH_isDay a3 s4) fun v5 s6 =>
    if v5 = 0 then
      (some ((-2), s6))
    else
      (yck 10 a0 s6 <| ybd (fH_contractNumber a0 a2 a3 s6) fun v7 s8 =>
      yck 10 a0 s8 <| ybd (fH_contractAt a0 v7 s8) fun p9 s10 =>
      yck 10 a0 s10 <| ybd (fH_hasRight a0 a1 p9 a3 s10) fun v11 s12 =>
      if v11 = 0 then
        (some (0, s12))
      else
      some (1, s12)))
theorem fH_right_ok {E : Nat → Nat} (d : Nat) (a0 : Nat) (a1 : Int) (a2 : Int) (a3 : Int) (s : zHp) : zE zI Ji E (d + 3) 149 (zB 149 0) (zent 4 [.inr (.inr a0), .inl a1, .inl a2, .inl a3]) [] s (fH_right a0 a1 a2 a3 s) := by
  show zE _ _ _ _ _ _ [some (.inr (.inr a0)), some (.inl a1), some (.inl a2), some (.inl a3)] _ _ _
  unfold fH_right
  refine zq_6_0 ?_
  refine zq_4_1 ?_
  refine zE_g fun hg => ?_
  refine zq_92_2i hg rfl rfl (fH_isAuthor_ok (E := E) _ _ _ _) fun v1 s2 => ?_
  refine zq_40 ?_ ?_
  · refine zq_1 ?_
    exact zq_95 rfl
  refine zq_4_2 ?_
  refine zq_1 ?_
  refine zq_1 ?_
  refine zq_90_3i rfl rfl (fH_within_ok (E := E) _ _ _ _ _) fun v3 s4 => ?_
  refine zq_41 ?_ ?_
  · refine zq_57 ?_
    refine zq_1 ?_
    exact zq_95 rfl
  · refine zq_4_3 ?_
    refine zq_90_1i rfl rfl (fH_isDay_ok (E := E) _ _ _) fun v5 s6 => ?_
    refine zq_41 ?_ ?_
    · refine zq_1 ?_
      exact zq_95 rfl
    · refine zq_6_0 ?_
      refine zq_4_1 ?_
      refine zq_6_0 ?_
      refine zq_6_0 ?_
      refine zq_4_2 ?_
      refine zq_4_3 ?_
      refine zE_g fun hg => ?_
      refine zq_92_3i hg rfl rfl (fH_contractNumber_ok (E := E) _ _ _ _ _) fun v7 s8 => ?_
      refine zE_g fun hg => ?_
      refine zq_92_2r hg rfl rfl (fH_contractAt_ok (E := E) _ _ _ _) fun p9 s10 => ?_
      refine zq_4_3 ?_
      refine zE_g fun hg => ?_
      refine zq_92_4i hg rfl rfl (fH_hasRight_ok (E := E) _ _ _ _ _ _) fun v11 s12 => ?_
      refine zq_40 ?_ ?_
      · refine zq_1 ?_
        refine zq_57 ?_
        exact zq_95 rfl
      refine zq_1 ?_
      refine zq_56 ?_
      exact zq_95 rfl
/-! 150: EngraversHouse.wholeYearsSince:(II)I -/
noncomputable def fH_wholeYearsSince (a0 : Nat) (a1 : Int) (a2 : Int) (s : zHp) : Option (Int × zHp) :=
  yck 10 a0 s <| ybd (fH_daysSinceDeath a0 a1 a2 s) fun v1 s2 =>
  some (zdiv (zmax 0 v1) 365, s2)
theorem fH_wholeYearsSince_ok {E : Nat → Nat} (d : Nat) (a0 : Nat) (a1 : Int) (a2 : Int) (s : zHp) : zE zI Ji E (d + 2) 150 (zB 150 0) (zent 3 [.inr (.inr a0), .inl a1, .inl a2]) [] s (fH_wholeYearsSince a0 a1 a2 s) := by
  show zE _ _ _ _ _ _ [some (.inr (.inr a0)), some (.inl a1), some (.inl a2)] _ _ _
  unfold fH_wholeYearsSince
  refine zq_1 ?_
  refine zq_6_0 ?_
  refine zq_4_1 ?_
  refine zq_4_2 ?_
  refine zE_g fun hg => ?_
  refine zq_92_3i hg rfl rfl (fH_daysSinceDeath_ok (E := E) _ _ _ _ _) fun v1 s2 => ?_
  refine zq_36 rfl ?_
  refine zq_1 ?_
  refine zq_14c (by decide) ?_
  exact zq_95 rfl
/-! 151: EngraversHouse$Contract.asked:(ZII)V -/
noncomputable def fContract_asked (a0 : Nat) (a1 : Int) (a2 : Int) (a3 : Int) (s : zHp) : Option (Unit × zHp) :=
  ypz 1 8 a0 a1 s fun s1 =>
  ypi 1 9 a0 a2 s1 fun s2 =>
  ypi 1 10 a0 a3 s2 fun s3 =>
  some ((), s3)
theorem fContract_asked_ok {E : Nat → Nat} (d : Nat) (a0 : Nat) (a1 : Int) (a2 : Int) (a3 : Int) (s : zHp) : zE zI Jv E (d + 0) 151 (zB 151 0) (zent 4 [.inr (.inr a0), .inl a1, .inl a2, .inl a3]) [] s (fContract_asked a0 a1 a2 a3 s) := by
  show zE _ _ _ _ _ _ [some (.inr (.inr a0)), some (.inl a1), some (.inl a2), some (.inl a3)] _ _ _
  unfold fContract_asked
  refine zq_6_0 ?_
  refine zq_4_1 ?_
  refine zh_63 ?_
  refine zq_6_0 ?_
  refine zq_4_2 ?_
  refine zh_62 ?_
  refine zq_6_0 ?_
  refine zq_4_3 ?_
  refine zh_62 ?_
  exact zq_101
/-! 152: EngraversHouse$Contract.shareOf:(III)I -/
noncomputable def fContract_shareOf (E : Nat → Nat) (a0 : Nat) (a1 : Int) (a2 : Int) (a3 : Int) (s : zHp) : Option (Int × zHp) :=
  yck 1 a0 s <| ybd (fContract_readAll E a0 a1 a2 s) fun v1 s2 =>
  ygi 1 11 a0 s2 fun v3 =>
  yvl (zl2i (zldiv (zlmul (zi2l a3) (zi2l v3)) 1000)) fun v4 =>
  ygi 1 12 a0 s2 fun v5 =>
  if v5 = 0 then
    (some (0, s2))
  else
  ygi 1 6 a0 s2 fun v6 =>
  some (zmax v4 v6, s2)
theorem fContract_shareOf_ok {E : Nat → Nat} (d : Nat) (a0 : Nat) (a1 : Int) (a2 : Int) (a3 : Int) (s : zHp) : zE zI Ji E (d + 45) 152 (zB 152 0) (zent 5 [.inr (.inr a0), .inl a1, .inl a2, .inl a3]) [] s (fContract_shareOf E a0 a1 a2 a3 s) := by
  show zE _ _ _ _ _ _ [some (.inr (.inr a0)), some (.inl a1), some (.inl a2), some (.inl a3), none] _ _ _
  unfold fContract_shareOf
  refine zq_6_0 ?_
  refine zq_4_1 ?_
  refine zq_4_2 ?_
  refine zE_g fun hg => ?_
  refine zq_92_3i hg rfl rfl (fContract_readAll_ok (E := E) _ _ _ _ _) fun v1 s2 => ?_
  refine zq_35 ?_
  refine zq_4_3 ?_
  refine zq_23 ?_
  refine zq_6_0 ?_
  refine zh_60 ?_
  refine zq_23 ?_
  refine zq_29 ?_
  refine zq_2 ?_
  refine zq_30c (by decide) ?_
  refine zq_24 ?_
  refine zE_vl ?_
  refine zq_7_4 rfl ?_
  refine zq_6_0 ?_
  refine zh_60 ?_
  refine zq_40 ?_ ?_
  · refine zq_1 ?_
    refine zq_57 ?_
    exact zq_95 rfl
  refine zq_4_4 ?_
  refine zq_6_0 ?_
  refine zh_60 ?_
  refine zq_36 rfl ?_
  refine zq_56 ?_
  exact zq_95 rfl
/-! 153: EngraversHouse.paid:(IIIIIII)I -/
noncomputable def fH_paid (E : Nat → Nat) (a0 : Nat) (a1 : Int) (a2 : Int) (a3 : Int) (a4 : Int) (a5 : Int) (a6 : Int) (a7 : Int) (s : zHp) : Option (Int × zHp) :=
  yck 10 a0 s <| ybd (fH_thingAt a0 a1 s) fun p1 s2 =>
  if p1 = 0 then
    (some ((-1), s2))
  else
  ybd (fH_within a2 0 3 s2) fun v3 s4 =>
  if v3 = 0 then
    (some ((-1), s4))
  else
  ybd (fH_within a7 0 2 s4) fun v5 s6 =>
  if v5 = 0 then
    (some ((-1), s6))
  else
    (yck 10 a0 s6 <| ybd (fH_scoreAt a0 a1 s6) fun p7 s8 =>
    if p7 = 0 then
      (some ((-12), s8))
    else
      (ybd (fH_isDay a3 s8) fun v9 s10 =>
      if v9 = 0 then
        (some ((-2), s10))
      else
      ybd (fH_within a4 0 2 s10) fun v11 s12 =>
      if v11 = 0 then
        (some ((-2), s12))
      else
      ybd (fH_within a5 0 100000 s12) fun v13 s14 =>
      if v13 = 0 then
        (some ((-2), s14))
      else
      ybd (fH_within a6 0 999 s14) fun v15 s16 =>
      if v15 = 0 then
        (some ((-2), s16))
      else
        (yjn (fun (x17 : Nat) (x18 : Int) (x19 : Int) (x20 : Int) (x21 : Int) (x22 : Int) (x23 : Nat) (x24 : Nat) (x25 : Int) (x26 : Int) (s27 : zHp) =>
         yjn (fun (x29 : Nat) (x30 : Int) (x31 : Int) (x32 : Int) (x33 : Int) (x34 : Nat) (x35 : Nat) (x36 : Int) (x37 : Int) (s38 : zHp) =>
          yjn (fun (x40 : Nat) (x41 : Int) (x42 : Int) (x43 : Int) (x44 : Int) (x45 : Nat) (x46 : Nat) (x47 : Int) (x48 : Int) (s49 : zHp) =>
           yjn (fun (x51 : Int) (x52 : Int) (x53 : Int) (x54 : Int) (s55 : zHp) =>
            yvl (zmin x54 (zsub x51 x53)) fun v57 =>
            if x52 = 2 then
              (some (zsub (zsub x51 x53) v57, s55))
            else
              (if x52 = 0 then
                (some (x53, s55))
              else
                (some (v57, s55)))) fun q56 =>
            yjn (fun (x58 : Int) (x59 : Int) (x60 : Int) (s61 : zHp) =>
            q56 x58 x59 x60 0 s61) fun q62 =>
            yvl (zmin x48 x43) fun v63 =>
           if x46 = 0 then
             (q62 x43 x44 v63 s49)
           else
           if x47 = 0 then
             (q62 x43 x44 v63 s49)
           else
           ygi 8 3 x45 s49 fun v64 =>
           yck 10 x40 s49 <| ybd (fH_hasRight x40 v64 x46 x41 s49) fun v65 s66 =>
           if v65 = 0 then
             (q62 x43 x44 v63 s66)
           else
           yck 1 x46 s66 <| ybd (fContract_shareOf E x46 1 x42 x43 s66) fun v67 s68 =>
           q56 x43 x44 v63 v67 s68) fun q50 =>
           yjn (fun (x69 : Nat) (x70 : Int) (x71 : Int) (x72 : Int) (x73 : Int) (x74 : Nat) (x75 : Nat) (x76 : Int) (s77 : zHp) =>
           q50 x69 x70 x71 x72 x73 x74 x75 x76 0 s77) fun q78 =>
           if x35 = 0 then
            (q78 x29 x30 x31 x32 x33 x34 x35 x37 s38)
          else
          yck 10 x29 s38 <| ybd (fH_hasRight x29 x36 x35 x30 s38) fun v79 s80 =>
          if v79 = 0 then
            (q78 x29 x30 x31 x32 x33 x34 x35 x37 s80)
          else
          yck 1 x35 s80 <| ybd (fContract_shareOf E x35 0 x31 x32 s80) fun v81 s82 =>
          q50 x29 x30 x31 x32 x33 x34 x35 x37 v81 s82) fun q39 =>
          if x24 = 0 then
           (q39 x17 x18 x19 x20 x22 x23 x24 x25 x26 s27)
         else
         yck 10 x17 s27 <| ybd (fH_wholeYearsSince x17 x25 x18 s27) fun v83 s84 =>
         yck 1 x24 s84 <| ybd (fContract_asked x24 x26 v83 x21 s84) fun _ s85 =>
         q39 x17 x18 x19 x20 x22 x23 x24 x25 x26 s85) fun q28 =>
         yck 10 a0 s16 <| ybd (fH_contractNumber a0 a2 a3 s16) fun v86 s87 =>
        yck 10 a0 s87 <| ybd (fH_contractAt a0 v86 s87) fun p88 s89 =>
        yck 8 p7 s89 <| ybd (fScore_rootScore p7 s89) fun p90 s91 =>
        ygi 8 3 p90 s91 fun v92 =>
        ygi 8 0 p7 s91 fun v93 =>
        if v93 = 6 then
          (q28 a0 a3 a4 a5 a6 a7 p7 p88 v92 1 s91)
        else
          (q28 a0 a3 a4 a5 a6 a7 p7 p88 v92 0 s91))))
theorem fH_paid_ok {E : Nat → Nat} (d : Nat) (a0 : Nat) (a1 : Int) (a2 : Int) (a3 : Int) (a4 : Int) (a5 : Int) (a6 : Int) (a7 : Int) (s : zHp) : zE zI Ji E (d + 46) 153 (zB 153 0) (zent 14 [.inr (.inr a0), .inl a1, .inl a2, .inl a3, .inl a4, .inl a5, .inl a6, .inl a7]) [] s (fH_paid E a0 a1 a2 a3 a4 a5 a6 a7 s) := by
  show zE _ _ _ _ _ _ [some (.inr (.inr a0)), some (.inl a1), some (.inl a2), some (.inl a3), some (.inl a4), some (.inl a5), some (.inl a6), some (.inl a7), none, none, none, none, none, none] _ _ _
  unfold fH_paid
  refine zq_6_0 ?_
  refine zq_4_1 ?_
  refine zE_g fun hg => ?_
  refine zq_92_2r hg rfl rfl (fH_thingAt_ok (E := E) _ _ _ _) fun p1 s2 => ?_
  refine zq_54 ?_ ?_
  · refine zq_1 ?_
    exact zq_95 rfl
  refine zq_4_2 ?_
  refine zq_1 ?_
  refine zq_1 ?_
  refine zq_90_3i rfl rfl (fH_within_ok (E := E) _ _ _ _ _) fun v3 s4 => ?_
  refine zq_40 ?_ ?_
  · refine zq_1 ?_
    exact zq_95 rfl
  refine zq_4_7 ?_
  refine zq_1 ?_
  refine zq_1 ?_
  refine zq_90_3i rfl rfl (fH_within_ok (E := E) _ _ _ _ _) fun v5 s6 => ?_
  refine zq_41 ?_ ?_
  · refine zq_57 ?_
    refine zq_1 ?_
    exact zq_95 rfl
  · refine zq_6_0 ?_
    refine zq_4_1 ?_
    refine zE_g fun hg => ?_
    refine zq_92_2r hg rfl rfl (fH_scoreAt_ok (E := E) _ _ _ _) fun p7 s8 => ?_
    refine zq_9_8 rfl ?_
    refine zq_6_8 ?_
    refine zq_55 ?_ ?_
    · refine zq_1 ?_
      exact zq_95 rfl
    · refine zq_4_3 ?_
      refine zq_90_1i rfl rfl (fH_isDay_ok (E := E) _ _ _) fun v9 s10 => ?_
      refine zq_40 ?_ ?_
      · refine zq_1 ?_
        exact zq_95 rfl
      refine zq_4_4 ?_
      refine zq_1 ?_
      refine zq_1 ?_
      refine zq_90_3i rfl rfl (fH_within_ok (E := E) _ _ _ _ _) fun v11 s12 => ?_
      refine zq_40 ?_ ?_
      · refine zq_1 ?_
        exact zq_95 rfl
      refine zq_4_5 ?_
      refine zq_1 ?_
      refine zq_1 ?_
      refine zq_90_3i rfl rfl (fH_within_ok (E := E) _ _ _ _ _) fun v13 s14 => ?_
      refine zq_40 ?_ ?_
      · refine zq_1 ?_
        exact zq_95 rfl
      refine zq_4_6 ?_
      refine zq_1 ?_
      refine zq_1 ?_
      refine zq_90_3i rfl rfl (fH_within_ok (E := E) _ _ _ _ _) fun v15 s16 => ?_
      refine zq_41 ?_ ?_
      · refine zq_57 ?_
        refine zq_1 ?_
        exact zq_95 rfl
      · refine zE_jn (fun q28 => ∀ (y0 : Nat) (y1 : Int) (y2 : Int) (y3 : Int) (y4 : Int) (y5 : Int) (y6 : Nat) (y7 : Nat) (y8 : Int) (y9 : Int) (s : zHp), zE zI Ji E (d + 46) 153 (zB 153 7) ([some (.inr (.inr y0)), none, none, some (.inl y1), some (.inl y2), some (.inl y3), some (.inl y4), some (.inl y5), some (.inr (.inr y6)), some (.inr (.inr y7)), some (.inl y8), none, none, none]) ([.inl y9]) s (q28 y0 y1 y2 y3 y4 y5 y6 y7 y8 y9 s)) (fun x17 x18 x19 x20 x21 x22 x23 x24 x25 x26 s27 => ?_) (fun q28 hq28 => ?_)
        · refine zE_jn (fun q39 => ∀ (y0 : Nat) (y1 : Int) (y2 : Int) (y3 : Int) (y4 : Int) (y5 : Nat) (y6 : Nat) (y7 : Int) (y8 : Int) (s : zHp), zE zI Ji E (d + 46) 153 (zB 153 8) ([some (.inr (.inr y0)), none, none, some (.inl y1), some (.inl y2), some (.inl y3), none, some (.inl y4), some (.inr (.inr y5)), some (.inr (.inr y6)), some (.inl y7), some (.inl y8), none, none]) ([]) s (q39 y0 y1 y2 y3 y4 y5 y6 y7 y8 s)) (fun x29 x30 x31 x32 x33 x34 x35 x36 x37 s38 => ?_) (fun q39 hq39 => ?_)
          · refine zE_jn (fun q50 => ∀ (y0 : Nat) (y1 : Int) (y2 : Int) (y3 : Int) (y4 : Int) (y5 : Nat) (y6 : Nat) (y7 : Int) (y8 : Int) (s : zHp), zE zI Ji E (d + 46) 153 (zB 153 10) ([some (.inr (.inr y0)), none, none, some (.inl y1), some (.inl y2), some (.inl y3), none, some (.inl y4), some (.inr (.inr y5)), some (.inr (.inr y6)), none, some (.inl y7), none, none]) ([.inl y8]) s (q50 y0 y1 y2 y3 y4 y5 y6 y7 y8 s)) (fun x40 x41 x42 x43 x44 x45 x46 x47 x48 s49 => ?_) (fun q50 hq50 => ?_)
            · refine zE_jn (fun q56 => ∀ (y0 : Int) (y1 : Int) (y2 : Int) (y3 : Int) (s : zHp), zE zI Ji E (d + 46) 153 (zB 153 12) ([none, none, none, none, none, some (.inl y0), none, some (.inl y1), none, none, none, none, some (.inl y2), none]) ([.inl y3]) s (q56 y0 y1 y2 y3 s)) (fun x51 x52 x53 x54 s55 => ?_) (fun q56 hq56 => ?_)
              · refine zq_7_13 rfl ?_
                refine zq_4_13 ?_
                refine zq_4_5 ?_
                refine zq_4_12 ?_
                refine zq_12 ?_
                refine zq_37 rfl ?_
                refine zE_vl ?_
                refine zq_7_13 rfl ?_
                refine zq_4_7 ?_
                refine zq_1 ?_
                refine zq_47 ?_ ?_
                · refine zq_4_5 ?_
                  refine zq_4_12 ?_
                  refine zq_12 ?_
                  refine zq_4_13 ?_
                  refine zq_12 ?_
                  exact zq_95 rfl
                · refine zq_4_7 ?_
                  refine zq_41 ?_ ?_
                  · refine zq_4_12 ?_
                    refine zq_56 ?_
                    exact zq_95 rfl
                  · refine zq_4_13 ?_
                    refine zq_57 ?_
                    exact zq_95 rfl
              refine zE_jn (fun q62 => ∀ (y0 : Int) (y1 : Int) (y2 : Int) (s : zHp), zE zI Ji E (d + 46) 153 (zB 153 11) ([none, none, none, none, none, some (.inl y0), none, some (.inl y1), none, none, none, none, some (.inl y2), none]) ([]) s (q62 y0 y1 y2 s)) (fun x58 x59 x60 s61 => ?_) (fun q62 hq62 => ?_)
              · refine zq_1 ?_
                refine zq_57 ?_
                exact zE_w [false, false, false, false, false, true, false, true, false, false, false, false, true, false] (hq56 _ _ _ _ _)
              refine zq_7_12 rfl ?_
              refine zq_4_12 ?_
              refine zq_4_5 ?_
              refine zq_37 rfl ?_
              refine zE_vl ?_
              refine zq_7_12 rfl ?_
              refine zq_6_9 ?_
              refine zq_54 ?_ ?_
              · exact zE_w [false, false, false, false, false, true, false, true, false, false, false, false, true, false] (hq62 _ _ _ _)
              refine zq_4_11 ?_
              refine zq_40 ?_ ?_
              · exact zE_w [false, false, false, false, false, true, false, true, false, false, false, false, true, false] (hq62 _ _ _ _)
              refine zq_6_0 ?_
              refine zq_6_8 ?_
              refine zh_60 ?_
              refine zq_6_9 ?_
              refine zq_4_3 ?_
              refine zE_g fun hg => ?_
              refine zq_92_4i hg rfl rfl (fH_hasRight_ok (E := E) _ _ _ _ _ _) fun v65 s66 => ?_
              refine zq_40 ?_ ?_
              · exact zE_w [false, false, false, false, false, true, false, true, false, false, false, false, true, false] (hq62 _ _ _ _)
              refine zq_6_9 ?_
              refine zq_1 ?_
              refine zq_4_4 ?_
              refine zq_4_5 ?_
              refine zE_g fun hg => ?_
              refine zq_92_4i hg rfl rfl (fContract_shareOf_ok (E := E) _ _ _ _ _ _) fun v67 s68 => ?_
              refine zq_56 ?_
              exact zE_w [false, false, false, false, false, true, false, true, false, false, false, false, true, false] (hq56 _ _ _ _ _)
            refine zE_jn (fun q78 => ∀ (y0 : Nat) (y1 : Int) (y2 : Int) (y3 : Int) (y4 : Int) (y5 : Nat) (y6 : Nat) (y7 : Int) (s : zHp), zE zI Ji E (d + 46) 153 (zB 153 9) ([some (.inr (.inr y0)), none, none, some (.inl y1), some (.inl y2), some (.inl y3), none, some (.inl y4), some (.inr (.inr y5)), some (.inr (.inr y6)), none, some (.inl y7), none, none]) ([]) s (q78 y0 y1 y2 y3 y4 y5 y6 y7 s)) (fun x69 x70 x71 x72 x73 x74 x75 x76 s77 => ?_) (fun q78 hq78 => ?_)
            · refine zq_1 ?_
              refine zq_57 ?_
              exact zE_w [true, false, false, true, true, true, false, true, true, true, false, true, false, false] (hq50 _ _ _ _ _ _ _ _ _ _)
            refine zq_6_9 ?_
            refine zq_54 ?_ ?_
            · exact zE_w [true, false, false, true, true, true, false, true, true, true, false, true, false, false] (hq78 _ _ _ _ _ _ _ _ _)
            refine zq_6_0 ?_
            refine zq_4_10 ?_
            refine zq_6_9 ?_
            refine zq_4_3 ?_
            refine zE_g fun hg => ?_
            refine zq_92_4i hg rfl rfl (fH_hasRight_ok (E := E) _ _ _ _ _ _) fun v79 s80 => ?_
            refine zq_40 ?_ ?_
            · exact zE_w [true, false, false, true, true, true, false, true, true, true, false, true, false, false] (hq78 _ _ _ _ _ _ _ _ _)
            refine zq_6_9 ?_
            refine zq_1 ?_
            refine zq_4_4 ?_
            refine zq_4_5 ?_
            refine zE_g fun hg => ?_
            refine zq_92_4i hg rfl rfl (fContract_shareOf_ok (E := E) _ _ _ _ _ _) fun v81 s82 => ?_
            refine zq_56 ?_
            exact zE_w [true, false, false, true, true, true, false, true, true, true, false, true, false, false] (hq50 _ _ _ _ _ _ _ _ _ _)
          refine zq_7_11 rfl ?_
          refine zq_6_9 ?_
          refine zq_54 ?_ ?_
          · exact zE_w [true, false, false, true, true, true, false, true, true, true, true, true, false, false] (hq39 _ _ _ _ _ _ _ _ _ _)
          refine zq_6_9 ?_
          refine zq_4_11 ?_
          refine zq_6_0 ?_
          refine zq_4_10 ?_
          refine zq_4_3 ?_
          refine zE_g fun hg => ?_
          refine zq_92_3i hg rfl rfl (fH_wholeYearsSince_ok (E := E) _ _ _ _ _) fun v83 s84 => ?_
          refine zq_4_6 ?_
          refine zE_g fun hg => ?_
          refine zq_92_4v hg rfl rfl (fContract_asked_ok (E := E) _ _ _ _ _ _) fun _ s85 => ?_
          refine zq_57 ?_
          exact zE_w [true, false, false, true, true, true, false, true, true, true, true, true, false, false] (hq39 _ _ _ _ _ _ _ _ _ _)
        refine zq_6_0 ?_
        refine zq_6_0 ?_
        refine zq_4_2 ?_
        refine zq_4_3 ?_
        refine zE_g fun hg => ?_
        refine zq_92_3i hg rfl rfl (fH_contractNumber_ok (E := E) _ _ _ _ _) fun v86 s87 => ?_
        refine zE_g fun hg => ?_
        refine zq_92_2r hg rfl rfl (fH_contractAt_ok (E := E) _ _ _ _) fun p88 s89 => ?_
        refine zq_9_9 rfl ?_
        refine zq_6_8 ?_
        refine zE_g fun hg => ?_
        refine zq_92_1r hg rfl rfl (fScore_rootScore_ok (E := E) _ _ _) fun p90 s91 => ?_
        refine zh_60 ?_
        refine zq_7_10 rfl ?_
        refine zq_6_8 ?_
        refine zh_60 ?_
        refine zq_1 ?_
        refine zq_47 ?_ ?_
        · refine zq_1 ?_
          refine zq_56 ?_
          exact zE_w [true, false, false, true, true, true, true, true, true, true, true, false, false, false] (hq28 _ _ _ _ _ _ _ _ _ _ _)
        · refine zq_1 ?_
          refine zq_57 ?_
          exact zE_w [true, false, false, true, true, true, true, true, true, true, true, false, false, false] (hq28 _ _ _ _ _ _ _ _ _ _ _)
/-! 154: EngraversHouse.set:(I)I -/
noncomputable def fH_set (a0 : Nat) (a1 : Int) (s : zHp) : Option (Int × zHp) :=
  yck 10 a0 s <| ybd (fH_partAt a0 a1 s) fun p1 s2 =>
  if p1 = 0 then
    (yck 10 a0 s2 <| ybd (fH_lacking a0 a1 s2) fun v13 s14 =>
    some (v13, s14))
  else
    (ygi 10 4 a0 s2 fun v3 =>
    if v3 < 60 then
      (ynw 5 7 s2 fun p4 s5 =>
      ygi 10 4 a0 s5 fun v6 =>
      ygr 5 2 p1 s5 fun p7 =>
      ygi 5 3 p1 s5 fun v8 =>
      ygi 5 4 p1 s5 fun v9 =>
      yn0 p4 <| ybd (fPart_init p4 5 v6 p7 v8 v9 s5) fun _ s10 =>
      yck 10 a0 s10 <| ybd (fH_keep a0 p4 s10) fun v11 s12 =>
      some (v11, s12))
    else
    some ((-4), s2))
theorem fH_set_ok {E : Nat → Nat} (d : Nat) (a0 : Nat) (a1 : Int) (s : zHp) : zE zI Ji E (d + 2) 154 (zB 154 0) (zent 3 [.inr (.inr a0), .inl a1]) [] s (fH_set a0 a1 s) := by
  show zE _ _ _ _ _ _ [some (.inr (.inr a0)), some (.inl a1), none] _ _ _
  unfold fH_set
  refine zq_6_0 ?_
  refine zq_4_1 ?_
  refine zE_g fun hg => ?_
  refine zq_92_2r hg rfl rfl (fH_partAt_ok (E := E) _ _ _ _) fun p1 s2 => ?_
  refine zq_9_2 rfl ?_
  refine zq_6_2 ?_
  refine zq_55 ?_ ?_
  · refine zq_6_0 ?_
    refine zq_4_1 ?_
    refine zE_g fun hg => ?_
    refine zq_92_2i hg rfl rfl (fH_lacking_ok (E := E) _ _ _ _) fun v13 s14 => ?_
    exact zq_95 rfl
  · refine zq_6_0 ?_
    refine zh_60 ?_
    refine zq_1 ?_
    refine zq_48 ?_ ?_
    · refine zq_6_0 ?_
      refine zh_73 ?_
      refine zq_33 ?_
      refine zq_1 ?_
      refine zq_6_0 ?_
      refine zh_60 ?_
      refine zq_6_2 ?_
      refine zh_61 ?_
      refine zq_6_2 ?_
      refine zh_60 ?_
      refine zq_6_2 ?_
      refine zh_60 ?_
      refine zq_91_6v rfl rfl (fPart_init_ok (E := E) _ _ _ _ _ _ _ _) fun _ s10 => ?_
      refine zE_g fun hg => ?_
      refine zq_92_2i hg rfl rfl (fH_keep_ok (E := E) _ _ _ _) fun v11 s12 => ?_
      exact zq_95 rfl
    refine zq_1 ?_
    exact zq_95 rfl
/-! 155: EngraversHouse.isTown:(I)Z -/
noncomputable def fH_isTown (a0 : Int) (s : zHp) : Option (Int × zHp) :=
  ybd (fH_within a0 0 5 s) fun v1 s2 =>
  yrb v1 s2
theorem fH_isTown_ok {E : Nat → Nat} (d : Nat) (a0 : Int) (s : zHp) : zE zI Ji E (d + 1) 155 (zB 155 0) (zent 1 [.inl a0]) [] s (fH_isTown a0 s) := by
  show zE _ _ _ _ _ _ [some (.inl a0)] _ _ _
  unfold fH_isTown
  refine zq_4_0 ?_
  refine zq_1 ?_
  refine zq_1 ?_
  refine zq_90_3i rfl rfl (fH_within_ok (E := E) _ _ _ _ _) fun v1 s2 => ?_
  exact zq_96
/-! 156: EngraversHouse.setAt:(I)LEngraversHouse$Part; -/
noncomputable def fH_setAt (a0 : Nat) (a1 : Int) (s : zHp) : Option (Nat × zHp) :=
  yck 10 a0 s <| ybd (fH_partAt a0 a1 s) fun p1 s2 =>
  if p1 = 0 then
    (some (0, s2))
  else
  ygi 5 0 p1 s2 fun v3 =>
  if v3 = 5 then
    (some (p1, s2))
  else
    (some (0, s2))
theorem fH_setAt_ok {E : Nat → Nat} (d : Nat) (a0 : Nat) (a1 : Int) (s : zHp) : zE zI Jr E (d + 2) 156 (zB 156 0) (zent 3 [.inr (.inr a0), .inl a1]) [] s (fH_setAt a0 a1 s) := by
  show zE _ _ _ _ _ _ [some (.inr (.inr a0)), some (.inl a1), none] _ _ _
  unfold fH_setAt
  refine zq_6_0 ?_
  refine zq_4_1 ?_
  refine zE_g fun hg => ?_
  refine zq_92_2r hg rfl rfl (fH_partAt_ok (E := E) _ _ _ _) fun p1 s2 => ?_
  refine zq_9_2 rfl ?_
  refine zq_6_2 ?_
  refine zq_54 ?_ ?_
  · refine zq_3 ?_
    refine zq_57 ?_
    exact zq_100
  refine zq_6_2 ?_
  refine zh_60 ?_
  refine zq_1 ?_
  refine zq_47 ?_ ?_
  · refine zq_6_2 ?_
    refine zq_56 ?_
    exact zq_100
  · refine zq_3 ?_
    refine zq_57 ?_
    exact zq_100
/-! 157: EngraversHouse.stands:(II)I -/
noncomputable def fH_stands (a0 : Nat) (a1 : Int) (a2 : Int) (s : zHp) : Option (Int × zHp) :=
  yck 10 a0 s <| ybd (fH_thingAt a0 a1 s) fun p1 s2 =>
  if p1 = 0 then
    (some ((-1), s2))
  else
  ybd (fH_isTown a2 s2) fun v3 s4 =>
  if v3 = 0 then
    (some ((-1), s4))
  else
    (yck 10 a0 s4 <| ybd (fH_setAt a0 a1 s4) fun p5 s6 =>
    if p5 = 0 then
      (some ((-12), s6))
    else
      (ygi 5 5 p5 s6 fun v7 =>
      ypi 5 5 p5 a2 s6 fun s8 =>
      some (v7, s8)))
theorem fH_stands_ok {E : Nat → Nat} (d : Nat) (a0 : Nat) (a1 : Int) (a2 : Int) (s : zHp) : zE zI Ji E (d + 3) 157 (zB 157 0) (zent 5 [.inr (.inr a0), .inl a1, .inl a2]) [] s (fH_stands a0 a1 a2 s) := by
  show zE _ _ _ _ _ _ [some (.inr (.inr a0)), some (.inl a1), some (.inl a2), none, none] _ _ _
  unfold fH_stands
  refine zq_6_0 ?_
  refine zq_4_1 ?_
  refine zE_g fun hg => ?_
  refine zq_92_2r hg rfl rfl (fH_thingAt_ok (E := E) _ _ _ _) fun p1 s2 => ?_
  refine zq_54 ?_ ?_
  · refine zq_1 ?_
    exact zq_95 rfl
  refine zq_4_2 ?_
  refine zq_90_1i rfl rfl (fH_isTown_ok (E := E) _ _ _) fun v3 s4 => ?_
  refine zq_41 ?_ ?_
  · refine zq_57 ?_
    refine zq_1 ?_
    exact zq_95 rfl
  · refine zq_6_0 ?_
    refine zq_4_1 ?_
    refine zE_g fun hg => ?_
    refine zq_92_2r hg rfl rfl (fH_setAt_ok (E := E) _ _ _ _) fun p5 s6 => ?_
    refine zq_9_3 rfl ?_
    refine zq_6_3 ?_
    refine zq_55 ?_ ?_
    · refine zq_1 ?_
      exact zq_95 rfl
    · refine zq_6_3 ?_
      refine zh_60 ?_
      refine zq_7_4 rfl ?_
      refine zq_6_3 ?_
      refine zq_4_2 ?_
      refine zh_62 ?_
      refine zq_4_4 ?_
      exact zq_95 rfl
/-! 158: EngraversHouse$Tour.wayBetween:(II)I -/
noncomputable def fTour_wayBetween (a0 : Nat) (a1 : Int) (a2 : Int) (s : zHp) : Option (Int × zHp) :=
  ybd (fH_isTown a1 s) fun v1 s2 =>
  if v1 = 0 then
    (some (0, s2))
  else
  ybd (fH_isTown a2 s2) fun v3 s4 =>
  if v3 = 0 then
    (some (0, s4))
  else
  ygr 9 0 a0 s4 fun p5 =>
  yai p5 (zadd (zmul a1 6) a2) s4 fun v6 =>
  some (v6, s4)
theorem fTour_wayBetween_ok {E : Nat → Nat} (d : Nat) (a0 : Nat) (a1 : Int) (a2 : Int) (s : zHp) : zE zI Ji E (d + 2) 158 (zB 158 0) (zent 3 [.inr (.inr a0), .inl a1, .inl a2]) [] s (fTour_wayBetween a0 a1 a2 s) := by
  show zE _ _ _ _ _ _ [some (.inr (.inr a0)), some (.inl a1), some (.inl a2)] _ _ _
  unfold fTour_wayBetween
  refine zq_4_1 ?_
  refine zq_90_1i rfl rfl (fH_isTown_ok (E := E) _ _ _) fun v1 s2 => ?_
  refine zq_40 ?_ ?_
  · refine zq_1 ?_
    refine zq_57 ?_
    exact zq_95 rfl
  refine zq_4_2 ?_
  refine zq_90_1i rfl rfl (fH_isTown_ok (E := E) _ _ _) fun v3 s4 => ?_
  refine zq_40 ?_ ?_
  · refine zq_1 ?_
    refine zq_57 ?_
    exact zq_95 rfl
  refine zq_6_0 ?_
  refine zh_61 ?_
  refine zq_4_1 ?_
  refine zq_1 ?_
  refine zq_13 ?_
  refine zq_4_2 ?_
  refine zq_11 ?_
  refine zh_65 ?_
  refine zq_56 ?_
  exact zq_95 rfl
/-! 159: EngraversHouse$Tour.changeWay:(III)I -/
noncomputable def fTour_changeWay (a0 : Nat) (a1 : Int) (a2 : Int) (a3 : Int) (s : zHp) : Option (Int × zHp) :=
  yck 9 a0 s <| ybd (fTour_wayBetween a0 a1 a2 s) fun v1 s2 =>
  ybd (fH_isTown a1 s2) fun v3 s4 =>
  if v3 = 0 then
    (some (v1, s4))
  else
  ybd (fH_isTown a2 s4) fun v5 s6 =>
  if v5 = 0 then
    (some (v1, s6))
  else
  ygr 9 0 a0 s6 fun p7 =>
  ysi p7 (zadd (zmul a1 6) a2) a3 s6 fun s8 =>
  ygr 9 0 a0 s8 fun p9 =>
  ysi p9 (zadd (zmul a2 6) a1) a3 s8 fun s10 =>
  some (v1, s10)
theorem fTour_changeWay_ok {E : Nat → Nat} (d : Nat) (a0 : Nat) (a1 : Int) (a2 : Int) (a3 : Int) (s : zHp) : zE zI Ji E (d + 3) 159 (zB 159 0) (zent 5 [.inr (.inr a0), .inl a1, .inl a2, .inl a3]) [] s (fTour_changeWay a0 a1 a2 a3 s) := by
  show zE _ _ _ _ _ _ [some (.inr (.inr a0)), some (.inl a1), some (.inl a2), some (.inl a3), none] _ _ _
  unfold fTour_changeWay
  refine zq_6_0 ?_
  refine zq_4_1 ?_
  refine zq_4_2 ?_
  refine zE_g fun hg => ?_
  refine zq_92_3i hg rfl rfl (fTour_wayBetween_ok (E := E) _ _ _ _ _) fun v1 s2 => ?_
  refine zq_7_4 rfl ?_
  refine zq_4_1 ?_
  refine zq_90_1i rfl rfl (fH_isTown_ok (E := E) _ _ _) fun v3 s4 => ?_
  refine zq_40 ?_ ?_
  · refine zq_4_4 ?_
    exact zq_95 rfl
  refine zq_4_2 ?_
  refine zq_90_1i rfl rfl (fH_isTown_ok (E := E) _ _ _) fun v5 s6 => ?_
  refine zq_40 ?_ ?_
  · refine zq_4_4 ?_
    exact zq_95 rfl
  refine zq_6_0 ?_
  refine zh_61 ?_
  refine zq_4_1 ?_
  refine zq_1 ?_
  refine zq_13 ?_
  refine zq_4_2 ?_
  refine zq_11 ?_
  refine zq_4_3 ?_
  refine zh_68 ?_
  refine zq_6_0 ?_
  refine zh_61 ?_
  refine zq_4_2 ?_
  refine zq_1 ?_
  refine zq_13 ?_
  refine zq_4_1 ?_
  refine zq_11 ?_
  refine zq_4_3 ?_
  refine zh_68 ?_
  refine zq_57 ?_
  refine zq_4_4 ?_
  exact zq_95 rfl
/-! 160: EngraversHouse.way:(III)I -/
noncomputable def fH_way (a0 : Nat) (a1 : Int) (a2 : Int) (a3 : Int) (s : zHp) : Option (Int × zHp) :=
  ybd (fH_isTown a1 s) fun v1 s2 =>
  if v1 = 0 then
    (some ((-1), s2))
  else
  ybd (fH_isTown a2 s2) fun v3 s4 =>
  if v3 = 0 then
    (some ((-1), s4))
  else
    (if a1 = a2 then
      (some ((-2), s4))
    else
    ybd (fH_within a3 0 99 s4) fun v5 s6 =>
    if v5 = 0 then
      (some ((-2), s6))
    else
      (ygr 10 13 a0 s6 fun p7 =>
      yck 9 p7 s6 <| ybd (fTour_changeWay p7 a1 a2 a3 s6) fun v8 s9 =>
      some (v8, s9)))
theorem fH_way_ok {E : Nat → Nat} (d : Nat) (a0 : Nat) (a1 : Int) (a2 : Int) (a3 : Int) (s : zHp) : zE zI Ji E (d + 4) 160 (zB 160 0) (zent 4 [.inr (.inr a0), .inl a1, .inl a2, .inl a3]) [] s (fH_way a0 a1 a2 a3 s) := by
  show zE _ _ _ _ _ _ [some (.inr (.inr a0)), some (.inl a1), some (.inl a2), some (.inl a3)] _ _ _
  unfold fH_way
  refine zq_4_1 ?_
  refine zq_90_1i rfl rfl (fH_isTown_ok (E := E) _ _ _) fun v1 s2 => ?_
  refine zq_40 ?_ ?_
  · refine zq_1 ?_
    exact zq_95 rfl
  refine zq_4_2 ?_
  refine zq_90_1i rfl rfl (fH_isTown_ok (E := E) _ _ _) fun v3 s4 => ?_
  refine zq_41 ?_ ?_
  · refine zq_57 ?_
    refine zq_1 ?_
    exact zq_95 rfl
  · refine zq_4_1 ?_
    refine zq_4_2 ?_
    refine zq_46 ?_ ?_
    · refine zq_1 ?_
      exact zq_95 rfl
    refine zq_4_3 ?_
    refine zq_1 ?_
    refine zq_1 ?_
    refine zq_90_3i rfl rfl (fH_within_ok (E := E) _ _ _ _ _) fun v5 s6 => ?_
    refine zq_41 ?_ ?_
    · refine zq_57 ?_
      refine zq_1 ?_
      exact zq_95 rfl
    · refine zq_6_0 ?_
      refine zh_61 ?_
      refine zq_4_1 ?_
      refine zq_4_2 ?_
      refine zq_4_3 ?_
      refine zE_g fun hg => ?_
      refine zq_92_4i hg rfl rfl (fTour_changeWay_ok (E := E) _ _ _ _ _ _) fun v8 s9 => ?_
      exact zq_95 rfl
/-! 161: EngraversHouse$Tour.addAsk:(IIII)I -/
noncomputable def fTour_addAsk_l2 : Nat → Nat → Int → Int → zHp → (Nat → Int → zHp → Option (Int × zHp)) → Option (Int × zHp)
  | 0, _, _, _, _, _ => none
  | n + 1, x15, x16, x17, s18, k19 =>
   if 0 < x17 then
     (ygr 9 3 x15 s18 fun p20 =>
     ygr 9 6 x15 s18 fun p21 =>
     yai p21 (zsub x17 1) s18 fun v22 =>
     yai p20 v22 s18 fun v23 =>
     if x16 < v23 then
       (ygr 9 6 x15 s18 fun p24 =>
       ygr 9 6 x15 s18 fun p25 =>
       yai p25 (zsub x17 1) s18 fun v26 =>
       ysi p24 x17 v26 s18 fun s27 =>
       yvl (zadd x17 (-1)) fun v28 =>
       fTour_addAsk_l2 n x15 x16 v28 s27 k19)
     else
       (k19 x15 x17 s18))
   else
     (k19 x15 x17 s18)
theorem fTour_addAsk_l2_ok {E : Nat → Nat} (d : Nat) : ∀ (n : Nat) (x15 : Nat) (x16 : Int) (x17 : Int) (s18 : zHp) (k19 : Nat → Int → zHp → Option (Int × zHp)) (hk19 : ∀ (y0 : Nat) (y1 : Int) (s : zHp), zE zI Ji E (d + 0) 161 (zB 161 3) ([some (.inr (.inr y0)), none, none, none, none, some (.inl y1)]) ([]) s (k19 y0 y1 s)), zE zI Ji E (d + 0) 161 (zB 161 2) ([some (.inr (.inr x15)), none, some (.inl x16), none, none, some (.inl x17)]) ([]) s18 (fTour_addAsk_l2 n x15 x16 x17 s18 k19) := by
  intro n
  induction n with
  | zero => intro x15 x16 x17 s18 k19 hk19; exact zE_none
  | succ n ih =>
    intro x15 x16 x17 s18 k19 hk19
    unfold fTour_addAsk_l2
    refine zq_4_5 ?_
    refine zq_45 ?_ ?_
    · refine zq_6_0 ?_
      refine zh_61 ?_
      refine zq_6_0 ?_
      refine zh_61 ?_
      refine zq_4_5 ?_
      refine zq_1 ?_
      refine zq_12 ?_
      refine zh_65 ?_
      refine zh_65 ?_
      refine zq_4_2 ?_
      refine zq_51 ?_ ?_
      · refine zq_6_0 ?_
        refine zh_61 ?_
        refine zq_4_5 ?_
        refine zq_6_0 ?_
        refine zh_61 ?_
        refine zq_4_5 ?_
        refine zq_1 ?_
        refine zq_12 ?_
        refine zh_65 ?_
        refine zh_68 ?_
        refine zE_vl ?_
        refine zq_10_5 rfl ?_
        refine zq_56 ?_
        exact zE_w [true, false, true, false, false, true] (ih _ _ _ _ _ hk19)
      · exact zE_w [true, false, false, false, false, true] (hk19 _ _ _)
    · exact zE_w [true, false, false, false, false, true] (hk19 _ _ _)
noncomputable def fTour_addAsk (a0 : Nat) (a1 : Int) (a2 : Int) (a3 : Int) (a4 : Int) (s : zHp) : Option (Int × zHp) :=
  ygi 9 1 a0 s fun v1 =>
  if v1 < 9 then
    (ygr 9 2 a0 s fun p2 =>
    ygi 9 1 a0 s fun v3 =>
    ysi p2 v3 a1 s fun s4 =>
    ygr 9 3 a0 s4 fun p5 =>
    ygi 9 1 a0 s4 fun v6 =>
    ysi p5 v6 a2 s4 fun s7 =>
    ygr 9 4 a0 s7 fun p8 =>
    ygi 9 1 a0 s7 fun v9 =>
    ysi p8 v9 a3 s7 fun s10 =>
    ygr 9 5 a0 s10 fun p11 =>
    ygi 9 1 a0 s10 fun v12 =>
    ysi p11 v12 a4 s10 fun s13 =>
    ygi 9 1 a0 s13 fun v14 =>
    fTour_addAsk_l2 zFU a0 a2 v14 s13 (fun (x29 : Nat) (x30 : Int) (s31 : zHp) =>
     ygr 9 6 x29 s31 fun p32 =>
     ygi 9 1 x29 s31 fun v33 =>
     ysi p32 x30 v33 s31 fun s34 =>
     ygi 9 1 x29 s34 fun v35 =>
     ypi 9 1 x29 (zadd v35 1) s34 fun s36 =>
     ygi 9 1 x29 s36 fun v37 =>
     some (zsub v37 1, s36)))
  else
  some ((-4), s)
theorem fTour_addAsk_ok {E : Nat → Nat} (d : Nat) (a0 : Nat) (a1 : Int) (a2 : Int) (a3 : Int) (a4 : Int) (s : zHp) : zE zI Ji E (d + 0) 161 (zB 161 0) (zent 6 [.inr (.inr a0), .inl a1, .inl a2, .inl a3, .inl a4]) [] s (fTour_addAsk a0 a1 a2 a3 a4 s) := by
  show zE _ _ _ _ _ _ [some (.inr (.inr a0)), some (.inl a1), some (.inl a2), some (.inl a3), some (.inl a4), none] _ _ _
  unfold fTour_addAsk
  refine zq_6_0 ?_
  refine zh_60 ?_
  refine zq_1 ?_
  refine zq_48 ?_ ?_
  · refine zq_6_0 ?_
    refine zh_61 ?_
    refine zq_6_0 ?_
    refine zh_60 ?_
    refine zq_4_1 ?_
    refine zh_68 ?_
    refine zq_6_0 ?_
    refine zh_61 ?_
    refine zq_6_0 ?_
    refine zh_60 ?_
    refine zq_4_2 ?_
    refine zh_68 ?_
    refine zq_6_0 ?_
    refine zh_61 ?_
    refine zq_6_0 ?_
    refine zh_60 ?_
    refine zq_4_3 ?_
    refine zh_68 ?_
    refine zq_6_0 ?_
    refine zh_61 ?_
    refine zq_6_0 ?_
    refine zh_60 ?_
    refine zq_4_4 ?_
    refine zh_68 ?_
    refine zq_6_0 ?_
    refine zh_60 ?_
    refine zq_7_5 rfl ?_
    refine zq_57 ?_
    refine zE_w [true, false, true, false, false, true] (fTour_addAsk_l2_ok (E := E) d zFU _ _ _ _ _ (fun x29 x30 s31 => ?_))
    refine zq_6_0 ?_
    refine zh_61 ?_
    refine zq_4_5 ?_
    refine zq_6_0 ?_
    refine zh_60 ?_
    refine zh_68 ?_
    refine zq_6_0 ?_
    refine zq_33 ?_
    refine zh_60 ?_
    refine zq_1 ?_
    refine zq_11 ?_
    refine zh_62 ?_
    refine zq_6_0 ?_
    refine zh_60 ?_
    refine zq_1 ?_
    refine zq_12 ?_
    exact zq_95 rfl
  refine zq_1 ?_
  exact zq_95 rfl
/-! 162: EngraversHouse.ask:(IIII)I -/
noncomputable def fH_ask (a0 : Nat) (a1 : Int) (a2 : Int) (a3 : Int) (a4 : Int) (s : zHp) : Option (Int × zHp) :=
  ybd (fH_isTown a1 s) fun v1 s2 =>
  if v1 = 0 then
    (some ((-1), s2))
  else
    (ybd (fH_isDay a2 s2) fun v3 s4 =>
    if v3 = 0 then
      (some ((-2), s4))
    else
    ybd (fH_within a3 a2 9999 s4) fun v5 s6 =>
    if v5 = 0 then
      (some ((-2), s6))
    else
    ybd (fH_within a4 0 999 s6) fun v7 s8 =>
    if v7 = 0 then
      (some ((-2), s8))
    else
      (ygr 10 13 a0 s8 fun p9 =>
      ygi 9 1 p9 s8 fun v10 =>
      if v10 < 9 then
        (ygr 10 13 a0 s8 fun p11 =>
        yck 9 p11 s8 <| ybd (fTour_addAsk p11 a1 a2 a3 a4 s8) fun v12 s13 =>
        some (v12, s13))
      else
      some ((-4), s8)))
theorem fH_ask_ok {E : Nat → Nat} (d : Nat) (a0 : Nat) (a1 : Int) (a2 : Int) (a3 : Int) (a4 : Int) (s : zHp) : zE zI Ji E (d + 2) 162 (zB 162 0) (zent 5 [.inr (.inr a0), .inl a1, .inl a2, .inl a3, .inl a4]) [] s (fH_ask a0 a1 a2 a3 a4 s) := by
  show zE _ _ _ _ _ _ [some (.inr (.inr a0)), some (.inl a1), some (.inl a2), some (.inl a3), some (.inl a4)] _ _ _
  unfold fH_ask
  refine zq_4_1 ?_
  refine zq_90_1i rfl rfl (fH_isTown_ok (E := E) _ _ _) fun v1 s2 => ?_
  refine zq_41 ?_ ?_
  · refine zq_1 ?_
    exact zq_95 rfl
  · refine zq_4_2 ?_
    refine zq_90_1i rfl rfl (fH_isDay_ok (E := E) _ _ _) fun v3 s4 => ?_
    refine zq_40 ?_ ?_
    · refine zq_1 ?_
      exact zq_95 rfl
    refine zq_4_3 ?_
    refine zq_4_2 ?_
    refine zq_1 ?_
    refine zq_90_3i rfl rfl (fH_within_ok (E := E) _ _ _ _ _) fun v5 s6 => ?_
    refine zq_40 ?_ ?_
    · refine zq_1 ?_
      exact zq_95 rfl
    refine zq_4_4 ?_
    refine zq_1 ?_
    refine zq_1 ?_
    refine zq_90_3i rfl rfl (fH_within_ok (E := E) _ _ _ _ _) fun v7 s8 => ?_
    refine zq_41 ?_ ?_
    · refine zq_57 ?_
      refine zq_1 ?_
      exact zq_95 rfl
    · refine zq_6_0 ?_
      refine zh_61 ?_
      refine zh_60 ?_
      refine zq_1 ?_
      refine zq_48 ?_ ?_
      · refine zq_6_0 ?_
        refine zh_61 ?_
        refine zq_4_1 ?_
        refine zq_4_2 ?_
        refine zq_4_3 ?_
        refine zq_4_4 ?_
        refine zE_g fun hg => ?_
        refine zq_92_5i hg rfl rfl (fTour_addAsk_ok (E := E) _ _ _ _ _ _ _) fun v12 s13 => ?_
        exact zq_95 rfl
      refine zq_1 ?_
      exact zq_95 rfl
/-! 163: EngraversHouse.askless:()I -/
noncomputable def fH_askless (a0 : Nat) (s : zHp) : Option (Int × zHp) :=
  ygr 10 13 a0 s fun p1 =>
  ygi 9 1 p1 s fun v2 =>
  ygr 10 13 a0 s fun p3 =>
  ypi 9 1 p3 0 s fun s4 =>
  some (v2, s4)
theorem fH_askless_ok {E : Nat → Nat} (d : Nat) (a0 : Nat) (s : zHp) : zE zI Ji E (d + 0) 163 (zB 163 0) (zent 2 [.inr (.inr a0)]) [] s (fH_askless a0 s) := by
  show zE _ _ _ _ _ _ [some (.inr (.inr a0)), none] _ _ _
  unfold fH_askless
  refine zq_6_0 ?_
  refine zh_61 ?_
  refine zh_60 ?_
  refine zq_7_1 rfl ?_
  refine zq_6_0 ?_
  refine zh_61 ?_
  refine zq_1 ?_
  refine zh_62 ?_
  refine zq_4_1 ?_
  exact zq_95 rfl
/-! 164: EngraversHouse$Tour.worthFrom:(I)I -/
noncomputable def fTour_worthFrom (a0 : Nat) (a1 : Int) (s : zHp) : Option (Int × zHp) :=
  ybd (fH_within a1 0 8 s) fun v1 s2 =>
  if v1 = 0 then
    (some (0, s2))
  else
  ygr 9 7 a0 s2 fun p3 =>
  yai p3 a1 s2 fun v4 =>
  some (v4, s2)
theorem fTour_worthFrom_ok {E : Nat → Nat} (d : Nat) (a0 : Nat) (a1 : Int) (s : zHp) : zE zI Ji E (d + 1) 164 (zB 164 0) (zent 2 [.inr (.inr a0), .inl a1]) [] s (fTour_worthFrom a0 a1 s) := by
  show zE _ _ _ _ _ _ [some (.inr (.inr a0)), some (.inl a1)] _ _ _
  unfold fTour_worthFrom
  refine zq_4_1 ?_
  refine zq_1 ?_
  refine zq_1 ?_
  refine zq_90_3i rfl rfl (fH_within_ok (E := E) _ _ _ _ _) fun v1 s2 => ?_
  refine zq_40 ?_ ?_
  · refine zq_1 ?_
    refine zq_57 ?_
    exact zq_95 rfl
  refine zq_6_0 ?_
  refine zh_61 ?_
  refine zq_4_1 ?_
  refine zh_65 ?_
  refine zq_56 ?_
  exact zq_95 rfl
/-! 165: EngraversHouse$Tour.isBetter:(II)Z -/
noncomputable def fTour_isBetter (a0 : Nat) (a1 : Int) (a2 : Int) (s : zHp) : Option (Int × zHp) :=
  yjn (fun (x1 : Nat) (x2 : Int) (x3 : Int) (s4 : zHp) =>
   ygr 9 7 x1 s4 fun p6 =>
   yai p6 x2 s4 fun v7 =>
   yck 9 x1 s4 <| ybd (fTour_worthFrom x1 x3 s4) fun v8 s9 =>
   if v8 < v7 then
     (some (1, s9))
   else
     (some (0, s9))) fun q5 =>
   if a2 = (-1) then
    (q5 a0 a1 a2 s)
  else
  ygr 9 7 a0 s fun p10 =>
  yai p10 a1 s fun v11 =>
  ygr 9 7 a0 s fun p12 =>
  yai p12 a2 s fun v13 =>
  if v11 = v13 then
    (ygr 9 8 a0 s fun p14 =>
    yai p14 a1 s fun v15 =>
    ygr 9 8 a0 s fun p16 =>
    yai p16 a2 s fun v17 =>
    if v15 = v17 then
      (ygr 9 9 a0 s fun p18 =>
      yai p18 a1 s fun v19 =>
      ygr 9 9 a0 s fun p20 =>
      yai p20 a2 s fun v21 =>
      if v19 < v21 then
        (some (1, s))
      else
        (some (0, s)))
    else
    ygr 9 8 a0 s fun p22 =>
    yai p22 a1 s fun v23 =>
    ygr 9 8 a0 s fun p24 =>
    yai p24 a2 s fun v25 =>
    if v23 < v25 then
      (some (1, s))
    else
      (some (0, s)))
  else
  q5 a0 a1 a2 s
theorem fTour_isBetter_ok {E : Nat → Nat} (d : Nat) (a0 : Nat) (a1 : Int) (a2 : Int) (s : zHp) : zE zI Ji E (d + 2) 165 (zB 165 0) (zent 3 [.inr (.inr a0), .inl a1, .inl a2]) [] s (fTour_isBetter a0 a1 a2 s) := by
  show zE _ _ _ _ _ _ [some (.inr (.inr a0)), some (.inl a1), some (.inl a2)] _ _ _
  unfold fTour_isBetter
  refine zE_jn (fun q5 => ∀ (y0 : Nat) (y1 : Int) (y2 : Int) (s : zHp), zE zI Ji E (d + 2) 165 (zB 165 1) ([some (.inr (.inr y0)), some (.inl y1), some (.inl y2)]) ([]) s (q5 y0 y1 y2 s)) (fun x1 x2 x3 s4 => ?_) (fun q5 hq5 => ?_)
  · refine zq_6_0 ?_
    refine zh_61 ?_
    refine zq_4_1 ?_
    refine zh_65 ?_
    refine zq_6_0 ?_
    refine zq_4_2 ?_
    refine zE_g fun hg => ?_
    refine zq_92_2i hg rfl rfl (fTour_worthFrom_ok (E := E) _ _ _ _) fun v8 s9 => ?_
    refine zq_51 ?_ ?_
    · refine zq_1 ?_
      refine zq_56 ?_
      exact zq_96c (by decide)
    · refine zq_1 ?_
      refine zq_57 ?_
      exact zq_96c (by decide)
  refine zq_4_2 ?_
  refine zq_1 ?_
  refine zq_46 ?_ ?_
  · exact zE_w [true, true, true] (hq5 _ _ _ _)
  refine zq_6_0 ?_
  refine zh_61 ?_
  refine zq_4_1 ?_
  refine zh_65 ?_
  refine zq_6_0 ?_
  refine zh_61 ?_
  refine zq_4_2 ?_
  refine zh_65 ?_
  refine zq_46 ?_ ?_
  · refine zq_6_0 ?_
    refine zh_61 ?_
    refine zq_4_1 ?_
    refine zh_65 ?_
    refine zq_6_0 ?_
    refine zh_61 ?_
    refine zq_4_2 ?_
    refine zh_65 ?_
    refine zq_46 ?_ ?_
    · refine zq_6_0 ?_
      refine zh_61 ?_
      refine zq_4_1 ?_
      refine zh_65 ?_
      refine zq_6_0 ?_
      refine zh_61 ?_
      refine zq_4_2 ?_
      refine zh_65 ?_
      refine zq_49 ?_ ?_
      · refine zq_1 ?_
        refine zq_56 ?_
        exact zq_96c (by decide)
      · refine zq_1 ?_
        refine zq_57 ?_
        exact zq_96c (by decide)
    refine zq_6_0 ?_
    refine zh_61 ?_
    refine zq_4_1 ?_
    refine zh_65 ?_
    refine zq_6_0 ?_
    refine zh_61 ?_
    refine zq_4_2 ?_
    refine zh_65 ?_
    refine zq_49 ?_ ?_
    · refine zq_1 ?_
      refine zq_56 ?_
      exact zq_96c (by decide)
    · refine zq_1 ?_
      refine zq_57 ?_
      exact zq_96c (by decide)
  refine zq_57 ?_
  exact zE_w [true, true, true] (hq5 _ _ _ _)
/-! 166: EngraversHouse$Tour.bestBehind:(III)I -/
noncomputable def fTour_bestBehind_l1 : Nat → Nat → Int → Int → Int → Int → zHp → Option (Int × zHp)
  | 0, _, _, _, _, _, _ => none
  | n + 1, x2, x3, x4, x5, x6, s7 =>
   yjn (fun (x8 : Nat) (x9 : Int) (x10 : Int) (x11 : Int) (x12 : Int) (s13 : zHp) =>
    yvl (zadd x12 1) fun v15 =>
    fTour_bestBehind_l1 n x8 x9 x10 x11 v15 s13) fun q14 =>
    ygi 9 1 x2 s7 fun v16 =>
   if x6 < v16 then
     (ygr 9 6 x2 s7 fun p17 =>
     yai p17 x6 s7 fun v18 =>
     ygr 9 2 x2 s7 fun p19 =>
     yai p19 v18 s7 fun v20 =>
     yck 9 x2 s7 <| ybd (fTour_wayBetween x2 x3 v20 s7) fun v21 s22 =>
     ygr 9 3 x2 s22 fun p23 =>
     yai p23 v18 s22 fun v24 =>
     if v24 < (zadd x4 v21) then
       (q14 x2 x3 x4 x5 x6 s22)
     else
     yck 9 x2 s22 <| ybd (fTour_isBetter x2 v18 x5 s22) fun v25 s26 =>
     if v25 = 0 then
       (q14 x2 x3 x4 x5 x6 s26)
     else
     q14 x2 x3 x4 v18 x6 s26)
   else
     (some (x5, s7))
theorem fTour_bestBehind_l1_ok {E : Nat → Nat} (d : Nat) : ∀ (n : Nat) (x2 : Nat) (x3 : Int) (x4 : Int) (x5 : Int) (x6 : Int) (s7 : zHp), zE zI Ji E (d + 3) 166 (zB 166 1) ([some (.inr (.inr x2)), none, some (.inl x3), some (.inl x4), some (.inl x5), some (.inl x6), none]) ([]) s7 (fTour_bestBehind_l1 n x2 x3 x4 x5 x6 s7) := by
  intro n
  induction n with
  | zero => intro x2 x3 x4 x5 x6 s7; exact zE_none
  | succ n ih =>
    intro x2 x3 x4 x5 x6 s7
    unfold fTour_bestBehind_l1
    refine zE_jn (fun q14 => ∀ (y0 : Nat) (y1 : Int) (y2 : Int) (y3 : Int) (y4 : Int) (s : zHp), zE zI Ji E (d + 3) 166 (zB 166 2) ([some (.inr (.inr y0)), none, some (.inl y1), some (.inl y2), some (.inl y3), some (.inl y4), none]) ([]) s (q14 y0 y1 y2 y3 y4 s)) (fun x8 x9 x10 x11 x12 s13 => ?_) (fun q14 hq14 => ?_)
    · refine zE_vl ?_
      refine zq_10_5 rfl ?_
      refine zq_56 ?_
      exact zE_w [true, false, true, true, true, true, false] (ih _ _ _ _ _ _)
    refine zq_4_5 ?_
    refine zq_6_0 ?_
    refine zh_60 ?_
    refine zq_49 ?_ ?_
    · refine zq_6_0 ?_
      refine zh_61 ?_
      refine zq_4_5 ?_
      refine zh_65 ?_
      refine zq_7_6 rfl ?_
      refine zq_4_3 ?_
      refine zq_6_0 ?_
      refine zq_4_2 ?_
      refine zq_6_0 ?_
      refine zh_61 ?_
      refine zq_4_6 ?_
      refine zh_65 ?_
      refine zE_g fun hg => ?_
      refine zq_92_3i hg rfl rfl (fTour_wayBetween_ok (E := E) _ _ _ _ _) fun v21 s22 => ?_
      refine zq_11 ?_
      refine zq_6_0 ?_
      refine zh_61 ?_
      refine zq_4_6 ?_
      refine zh_65 ?_
      refine zq_50 ?_ ?_
      · exact zE_w [true, false, true, true, true, true, false] (hq14 _ _ _ _ _ _)
      refine zq_6_0 ?_
      refine zq_4_6 ?_
      refine zq_4_4 ?_
      refine zE_g fun hg => ?_
      refine zq_92_3i hg rfl rfl (fTour_isBetter_ok (E := E) _ _ _ _ _) fun v25 s26 => ?_
      refine zq_40 ?_ ?_
      · exact zE_w [true, false, true, true, true, true, false] (hq14 _ _ _ _ _ _)
      refine zq_4_6 ?_
      refine zq_7_4 rfl ?_
      refine zq_57 ?_
      exact zE_w [true, false, true, true, true, true, false] (hq14 _ _ _ _ _ _)
    · refine zq_4_4 ?_
      exact zq_95 rfl
noncomputable def fTour_bestBehind (a0 : Nat) (a1 : Int) (a2 : Int) (a3 : Int) (s : zHp) : Option (Int × zHp) :=
  yvl (zadd a1 1) fun v1 =>
  fTour_bestBehind_l1 zFU a0 a2 a3 (-1) v1 s
theorem fTour_bestBehind_ok {E : Nat → Nat} (d : Nat) (a0 : Nat) (a1 : Int) (a2 : Int) (a3 : Int) (s : zHp) : zE zI Ji E (d + 3) 166 (zB 166 0) (zent 7 [.inr (.inr a0), .inl a1, .inl a2, .inl a3]) [] s (fTour_bestBehind a0 a1 a2 a3 s) := by
  show zE _ _ _ _ _ _ [some (.inr (.inr a0)), some (.inl a1), some (.inl a2), some (.inl a3), none, none, none] _ _ _
  unfold fTour_bestBehind
  refine zq_1 ?_
  refine zq_7_4 rfl ?_
  refine zq_4_1 ?_
  refine zq_1 ?_
  refine zq_11 ?_
  refine zE_vl ?_
  refine zq_7_5 rfl ?_
  refine zq_57 ?_
  exact zE_w [true, false, true, true, true, true, false] (fTour_bestBehind_l1_ok (E := E) d zFU _ _ _ _ _ _)
/-! 167: EngraversHouse$Tour.bitsFrom:(I)I -/
noncomputable def fTour_bitsFrom (a0 : Nat) (a1 : Int) (s : zHp) : Option (Int × zHp) :=
  ybd (fH_within a1 0 8 s) fun v1 s2 =>
  if v1 = 0 then
    (some (0, s2))
  else
  ygr 9 9 a0 s2 fun p3 =>
  yai p3 a1 s2 fun v4 =>
  some (v4, s2)
theorem fTour_bitsFrom_ok {E : Nat → Nat} (d : Nat) (a0 : Nat) (a1 : Int) (s : zHp) : zE zI Ji E (d + 1) 167 (zB 167 0) (zent 2 [.inr (.inr a0), .inl a1]) [] s (fTour_bitsFrom a0 a1 s) := by
  show zE _ _ _ _ _ _ [some (.inr (.inr a0)), some (.inl a1)] _ _ _
  unfold fTour_bitsFrom
  refine zq_4_1 ?_
  refine zq_1 ?_
  refine zq_1 ?_
  refine zq_90_3i rfl rfl (fH_within_ok (E := E) _ _ _ _ _) fun v1 s2 => ?_
  refine zq_40 ?_ ?_
  · refine zq_1 ?_
    refine zq_57 ?_
    exact zq_95 rfl
  refine zq_6_0 ?_
  refine zh_61 ?_
  refine zq_4_1 ?_
  refine zh_65 ?_
  refine zq_56 ?_
  exact zq_95 rfl
/-! 168: EngraversHouse$Tour.bestFirst:(II)I -/
noncomputable def fTour_bestFirst_l1 : Nat → Nat → Int → Int → Int → zHp → (Nat → Int → Int → zHp → Option (Int × zHp)) → Option (Int × zHp)
  | 0, _, _, _, _, _, _ => none
  | n + 1, x3, x4, x5, x6, s7, k8 =>
   yjn (fun (x9 : Nat) (x10 : Int) (x11 : Int) (x12 : Int) (x13 : Int) (x14 : Int) (x15 : Nat) (x16 : Int) (x17 : Int) (x18 : Int) (s19 : zHp) =>
    ysi x15 x16 (zadd x17 x18) s19 fun s21 =>
    ygr 9 9 x9 s21 fun p22 =>
    yck 9 x9 s21 <| ybd (fTour_bitsFrom x9 x14 s21) fun v23 s24 =>
    ysi p22 x13 (zor (zshl 1 x13) v23) s24 fun s25 =>
    yvl (zadd x12 (-1)) fun v26 =>
    fTour_bestFirst_l1 n x9 x10 x11 v26 s25 k8) fun q20 =>
    if x6 < 0 then
     (k8 x3 x4 x5 s7)
   else
   ygr 9 6 x3 s7 fun p27 =>
   yai p27 x6 s7 fun v28 =>
   ygr 9 2 x3 s7 fun p29 =>
   yai p29 v28 s7 fun v30 =>
   ygr 9 4 x3 s7 fun p31 =>
   yai p31 v28 s7 fun v32 =>
   yck 9 x3 s7 <| ybd (fTour_bestBehind x3 x6 v30 (zadd v32 1) s7) fun v33 s34 =>
   ygr 9 7 x3 s34 fun p35 =>
   ygr 9 5 x3 s34 fun p36 =>
   yai p36 v28 s34 fun v37 =>
   yck 9 x3 s34 <| ybd (fTour_worthFrom x3 v33 s34) fun v38 s39 =>
   ysi p35 v28 (zadd v37 v38) s39 fun s40 =>
   ygr 9 8 x3 s40 fun p41 =>
   if v33 = (-1) then
     (q20 x3 x4 x5 x6 v28 v33 p41 v28 1 0 s40)
   else
     (ygr 9 8 x3 s40 fun p42 =>
     yai p42 v33 s40 fun v43 =>
     q20 x3 x4 x5 x6 v28 v33 p41 v28 1 v43 s40)
theorem fTour_bestFirst_l1_ok {E : Nat → Nat} (d : Nat) : ∀ (n : Nat) (x3 : Nat) (x4 : Int) (x5 : Int) (x6 : Int) (s7 : zHp) (k8 : Nat → Int → Int → zHp → Option (Int × zHp)) (hk8 : ∀ (y0 : Nat) (y1 : Int) (y2 : Int) (s : zHp), zE zI Ji E (d + 4) 168 (zB 168 4) ([some (.inr (.inr y0)), some (.inl y1), some (.inl y2), none, none, none]) ([]) s (k8 y0 y1 y2 s)), zE zI Ji E (d + 4) 168 (zB 168 1) ([some (.inr (.inr x3)), some (.inl x4), some (.inl x5), some (.inl x6), none, none]) ([]) s7 (fTour_bestFirst_l1 n x3 x4 x5 x6 s7 k8) := by
  intro n
  induction n with
  | zero => intro x3 x4 x5 x6 s7 k8 hk8; exact zE_none
  | succ n ih =>
    intro x3 x4 x5 x6 s7 k8 hk8
    unfold fTour_bestFirst_l1
    refine zE_jn (fun q20 => ∀ (y0 : Nat) (y1 : Int) (y2 : Int) (y3 : Int) (y4 : Int) (y5 : Int) (y6 : Nat) (y7 : Int) (y8 : Int) (y9 : Int) (s : zHp), zE zI Ji E (d + 4) 168 (zB 168 3) ([some (.inr (.inr y0)), some (.inl y1), some (.inl y2), some (.inl y3), some (.inl y4), some (.inl y5)]) ([.inl y9, .inl y8, .inl y7, .inr (.inr y6)]) s (q20 y0 y1 y2 y3 y4 y5 y6 y7 y8 y9 s)) (fun x9 x10 x11 x12 x13 x14 x15 x16 x17 x18 s19 => ?_) (fun q20 hq20 => ?_)
    · refine zq_11 ?_
      refine zh_68 ?_
      refine zq_6_0 ?_
      refine zh_61 ?_
      refine zq_4_4 ?_
      refine zq_1 ?_
      refine zq_4_4 ?_
      refine zq_17 ?_
      refine zq_6_0 ?_
      refine zq_4_5 ?_
      refine zE_g fun hg => ?_
      refine zq_92_2i hg rfl rfl (fTour_bitsFrom_ok (E := E) _ _ _ _) fun v23 s24 => ?_
      refine zq_21 ?_
      refine zh_68 ?_
      refine zE_vl ?_
      refine zq_10_3 rfl ?_
      refine zq_56 ?_
      exact zE_w [true, true, true, true, false, false] (ih _ _ _ _ _ _ hk8)
    refine zq_4_3 ?_
    refine zq_42 ?_ ?_
    · exact zE_w [true, true, true, false, false, false] (hk8 _ _ _ _)
    refine zq_6_0 ?_
    refine zh_61 ?_
    refine zq_4_3 ?_
    refine zh_65 ?_
    refine zq_7_4 rfl ?_
    refine zq_6_0 ?_
    refine zq_4_3 ?_
    refine zq_6_0 ?_
    refine zh_61 ?_
    refine zq_4_4 ?_
    refine zh_65 ?_
    refine zq_6_0 ?_
    refine zh_61 ?_
    refine zq_4_4 ?_
    refine zh_65 ?_
    refine zq_1 ?_
    refine zq_11 ?_
    refine zE_g fun hg => ?_
    refine zq_92_4i hg rfl rfl (fTour_bestBehind_ok (E := E) _ _ _ _ _ _) fun v33 s34 => ?_
    refine zq_7_5 rfl ?_
    refine zq_6_0 ?_
    refine zh_61 ?_
    refine zq_4_4 ?_
    refine zq_6_0 ?_
    refine zh_61 ?_
    refine zq_4_4 ?_
    refine zh_65 ?_
    refine zq_6_0 ?_
    refine zq_4_5 ?_
    refine zE_g fun hg => ?_
    refine zq_92_2i hg rfl rfl (fTour_worthFrom_ok (E := E) _ _ _ _) fun v38 s39 => ?_
    refine zq_11 ?_
    refine zh_68 ?_
    refine zq_6_0 ?_
    refine zh_61 ?_
    refine zq_4_4 ?_
    refine zq_1 ?_
    refine zq_4_5 ?_
    refine zq_1 ?_
    refine zq_47 ?_ ?_
    · refine zq_1 ?_
      refine zq_56 ?_
      exact zE_w [true, true, true, true, true, true] (hq20 _ _ _ _ _ _ _ _ _ _ _)
    · refine zq_6_0 ?_
      refine zh_61 ?_
      refine zq_4_5 ?_
      refine zh_65 ?_
      refine zq_57 ?_
      exact zE_w [true, true, true, true, true, true] (hq20 _ _ _ _ _ _ _ _ _ _ _)
noncomputable def fTour_bestFirst (a0 : Nat) (a1 : Int) (a2 : Int) (s : zHp) : Option (Int × zHp) :=
  ygi 9 1 a0 s fun v1 =>
  yvl (zsub v1 1) fun v2 =>
  fTour_bestFirst_l1 zFU a0 a1 a2 v2 s (fun (x44 : Nat) (x45 : Int) (x46 : Int) (s47 : zHp) =>
   yck 9 x44 s47 <| ybd (fTour_bestBehind x44 (-1) x45 x46 s47) fun v48 s49 =>
   some (v48, s49))
theorem fTour_bestFirst_ok {E : Nat → Nat} (d : Nat) (a0 : Nat) (a1 : Int) (a2 : Int) (s : zHp) : zE zI Ji E (d + 4) 168 (zB 168 0) (zent 6 [.inr (.inr a0), .inl a1, .inl a2]) [] s (fTour_bestFirst a0 a1 a2 s) := by
  show zE _ _ _ _ _ _ [some (.inr (.inr a0)), some (.inl a1), some (.inl a2), none, none, none] _ _ _
  unfold fTour_bestFirst
  refine zq_6_0 ?_
  refine zh_60 ?_
  refine zq_1 ?_
  refine zq_12 ?_
  refine zE_vl ?_
  refine zq_7_3 rfl ?_
  refine zq_57 ?_
  refine zE_w [true, true, true, true, false, false] (fTour_bestFirst_l1_ok (E := E) d zFU _ _ _ _ _ _ (fun x44 x45 x46 s47 => ?_))
  refine zq_6_0 ?_
  refine zq_1 ?_
  refine zq_4_1 ?_
  refine zq_4_2 ?_
  refine zE_g fun hg => ?_
  refine zq_92_4i hg rfl rfl (fTour_bestBehind_ok (E := E) _ _ _ _ _ _) fun v48 s49 => ?_
  exact zq_95 rfl
