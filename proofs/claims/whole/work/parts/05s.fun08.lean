/-! 261: EngraversHouseModel.lawful:(III)I -/
noncomputable def gM_lawful (a1 : Int) (a2 : Int) (a3 : Int) (s : zSg) : Option (Int × zSg) :=
  ybd (gM_in a1 0 3 s) fun v1 s2 =>
  if v1 = 0 then
    (some ((-5), s2))
  else
  ybd (gM_isDay a2 s2) fun v3 s4 =>
  if v3 = 0 then
    (some ((-5), s4))
  else
  ybd (gM_in a3 0 3 s4) fun v5 s6 =>
  if v5 = 0 then
    (some ((-5), s6))
  else
    (ybd (gM_contractOf a1 a2 s6) fun v7 s8 =>
    if a3 = 0 then
      (some (v7, s8))
    else
      (if a3 = 1 then
        (if v7 < 0 then
          (some (10, s8))
        else
          (yrd 13 47 v7 s8 fun v11 =>
          some (v11, s8)))
      else
        (if v7 < 0 then
          (some (0, s8))
        else
          (if a3 = 2 then
            (yrd 13 48 v7 s8 fun v10 =>
            some (v10, s8))
          else
            (yrd 13 49 v7 s8 fun v9 =>
            some (v9, s8))))))
theorem gM_lawful_ok {E : Nat → Nat} {R : Nat} {h0 : zHp} (hw : zRg R h0) (d : Nat) (a1 : Int) (a2 : Int) (a3 : Int) (s : zSg) : zE (zov R h0) Ji E (d + 2) 261 (zB 261 0) (zent 5 [.inr (.inr R), .inl a1, .inl a2, .inl a3]) [] s (gM_lawful a1 a2 a3 s) := by
  show zE _ _ _ _ _ _ [some (.inr (.inr R)), some (.inl a1), some (.inl a2), some (.inl a3), none] _ _ _
  unfold gM_lawful
  refine zq_4_1 ?_
  refine zq_1 ?_
  refine zq_1 ?_
  refine zq_90_3i rfl rfl (gM_in_ok (E := E) hw _ _ _ _ _) fun v1 s2 => ?_
  refine zq_40 ?_ ?_
  · refine zq_1 ?_
    exact zq_95 rfl
  refine zq_4_2 ?_
  refine zq_90_1i rfl rfl (gM_isDay_ok (E := E) hw _ _ _) fun v3 s4 => ?_
  refine zq_40 ?_ ?_
  · refine zq_1 ?_
    exact zq_95 rfl
  refine zq_4_3 ?_
  refine zq_1 ?_
  refine zq_1 ?_
  refine zq_90_3i rfl rfl (gM_in_ok (E := E) hw _ _ _ _ _) fun v5 s6 => ?_
  refine zq_41 ?_ ?_
  · refine zq_57 ?_
    refine zq_1 ?_
    exact zq_95 rfl
  · refine zq_6_0 ?_
    refine zq_4_1 ?_
    refine zq_4_2 ?_
    refine zq_92_3i (zR_is hw) rfl rfl (gM_contractOf_ok (E := E) hw _ _ _ _) fun v7 s8 => ?_
    refine zq_7_4 rfl ?_
    refine zq_4_3 ?_
    refine zq_41 ?_ ?_
    · refine zq_4_4 ?_
      exact zq_95 rfl
    · refine zq_4_3 ?_
      refine zq_1 ?_
      refine zq_47 ?_ ?_
      · refine zq_4_4 ?_
        refine zq_43 ?_ ?_
        · refine zq_1 ?_
          refine zq_56 ?_
          exact zq_95 rfl
        · refine zq_6_0 ?_
          refine zr_61 hw rfl ?_
          refine zq_4_4 ?_
          refine zr_65 hw rfl rfl rfl ?_
          refine zq_56 ?_
          exact zq_95 rfl
      · refine zq_4_4 ?_
        refine zq_43 ?_ ?_
        · refine zq_1 ?_
          refine zq_56 ?_
          exact zq_95 rfl
        · refine zq_4_3 ?_
          refine zq_1 ?_
          refine zq_47 ?_ ?_
          · refine zq_6_0 ?_
            refine zr_61 hw rfl ?_
            refine zq_4_4 ?_
            refine zr_65 hw rfl rfl rfl ?_
            refine zq_56 ?_
            exact zq_95 rfl
          · refine zq_6_0 ?_
            refine zr_61 hw rfl ?_
            refine zq_4_4 ?_
            refine zr_65 hw rfl rfl rfl ?_
            refine zq_57 ?_
            exact zq_95 rfl
/-! 262: EngraversHouseModel.isAlive:(II)Z -/
noncomputable def gM_isAlive (a1 : Int) (a2 : Int) (s : zSg) : Option (Int × zSg) :=
  yrd 12 9 a1 s fun v1 =>
  if v1 < 0 then
    (some (1, s))
  else
  yrd 12 9 a1 s fun v2 =>
  if a2 < v2 then
    (some (1, s))
  else
    (some (0, s))
theorem gM_isAlive_ok {E : Nat → Nat} {R : Nat} {h0 : zHp} (hw : zRg R h0) (d : Nat) (a1 : Int) (a2 : Int) (s : zSg) : zE (zov R h0) Ji E (d + 0) 262 (zB 262 0) (zent 3 [.inr (.inr R), .inl a1, .inl a2]) [] s (gM_isAlive a1 a2 s) := by
  show zE _ _ _ _ _ _ [some (.inr (.inr R)), some (.inl a1), some (.inl a2)] _ _ _
  unfold gM_isAlive
  refine zq_6_0 ?_
  refine zr_61 hw rfl ?_
  refine zq_4_1 ?_
  refine zr_65 hw rfl rfl rfl ?_
  refine zq_42 ?_ ?_
  · refine zq_1 ?_
    refine zq_56 ?_
    exact zq_96c (by decide)
  refine zq_6_0 ?_
  refine zr_61 hw rfl ?_
  refine zq_4_1 ?_
  refine zr_65 hw rfl rfl rfl ?_
  refine zq_4_2 ?_
  refine zq_51 ?_ ?_
  · refine zq_57 ?_
    refine zq_1 ?_
    refine zq_56 ?_
    exact zq_96c (by decide)
  · refine zq_1 ?_
    refine zq_57 ?_
    exact zq_96c (by decide)
/-! 263: EngraversHouseModel.hasRight:(III)Z -/
noncomputable def gM_hasRight (a1 : Int) (a2 : Int) (a3 : Int) (s : zSg) : Option (Int × zSg) :=
  ybd (gM_isAlive a1 a3 s) fun v1 s2 =>
  if v1 = 0 then
    (yrd 12 9 a1 s2 fun v3 =>
    ybd (gM_lawful a2 a3 1 s2) fun v4 s5 =>
    if (zsub a3 v3) < (zmul 365 v4) then
      (some (1, s5))
    else
      (some (0, s5)))
  else
    (some (1, s2))
theorem gM_hasRight_ok {E : Nat → Nat} {R : Nat} {h0 : zHp} (hw : zRg R h0) (d : Nat) (a1 : Int) (a2 : Int) (a3 : Int) (s : zSg) : zE (zov R h0) Ji E (d + 3) 263 (zB 263 0) (zent 4 [.inr (.inr R), .inl a1, .inl a2, .inl a3]) [] s (gM_hasRight a1 a2 a3 s) := by
  show zE _ _ _ _ _ _ [some (.inr (.inr R)), some (.inl a1), some (.inl a2), some (.inl a3)] _ _ _
  unfold gM_hasRight
  refine zq_6_0 ?_
  refine zq_4_1 ?_
  refine zq_4_3 ?_
  refine zq_92_3i (zR_is hw) rfl rfl (gM_isAlive_ok (E := E) hw _ _ _ _) fun v1 s2 => ?_
  refine zq_41 ?_ ?_
  · refine zq_4_3 ?_
    refine zq_6_0 ?_
    refine zr_61 hw rfl ?_
    refine zq_4_1 ?_
    refine zr_65 hw rfl rfl rfl ?_
    refine zq_12 ?_
    refine zq_1 ?_
    refine zq_6_0 ?_
    refine zq_4_2 ?_
    refine zq_4_3 ?_
    refine zq_1 ?_
    refine zq_92_4i (zR_is hw) rfl rfl (gM_lawful_ok (E := E) hw _ _ _ _ _) fun v4 s5 => ?_
    refine zq_13 ?_
    refine zq_49 ?_ ?_
    · refine zq_57 ?_
      refine zq_1 ?_
      refine zq_56 ?_
      exact zq_96c (by decide)
    · refine zq_1 ?_
      refine zq_57 ?_
      exact zq_96c (by decide)
  · refine zq_1 ?_
    refine zq_56 ?_
    exact zq_96c (by decide)
/-! 264: EngraversHouseModel.right:(III)I -/
noncomputable def gM_right (a1 : Int) (a2 : Int) (a3 : Int) (s : zSg) : Option (Int × zSg) :=
  ybd (gM_isAuthor a1 s) fun v1 s2 =>
  if v1 = 0 then
    (some ((-1), s2))
  else
  ybd (gM_in a2 0 3 s2) fun v3 s4 =>
  if v3 = 0 then
    (some ((-1), s4))
  else
    (ybd (gM_isDay a3 s4) fun v5 s6 =>
    if v5 = 0 then
      (some ((-2), s6))
    else
      (ybd (gM_hasRight a1 a2 a3 s6) fun v7 s8 =>
      if v7 = 0 then
        (some (0, s8))
      else
      some (1, s8)))
theorem gM_right_ok {E : Nat → Nat} {R : Nat} {h0 : zHp} (hw : zRg R h0) (d : Nat) (a1 : Int) (a2 : Int) (a3 : Int) (s : zSg) : zE (zov R h0) Ji E (d + 4) 264 (zB 264 0) (zent 4 [.inr (.inr R), .inl a1, .inl a2, .inl a3]) [] s (gM_right a1 a2 a3 s) := by
  show zE _ _ _ _ _ _ [some (.inr (.inr R)), some (.inl a1), some (.inl a2), some (.inl a3)] _ _ _
  unfold gM_right
  refine zq_6_0 ?_
  refine zq_4_1 ?_
  refine zq_92_2i (zR_is hw) rfl rfl (gM_isAuthor_ok (E := E) hw _ _ _) fun v1 s2 => ?_
  refine zq_40 ?_ ?_
  · refine zq_1 ?_
    exact zq_95 rfl
  refine zq_4_2 ?_
  refine zq_1 ?_
  refine zq_1 ?_
  refine zq_90_3i rfl rfl (gM_in_ok (E := E) hw _ _ _ _ _) fun v3 s4 => ?_
  refine zq_41 ?_ ?_
  · refine zq_57 ?_
    refine zq_1 ?_
    exact zq_95 rfl
  · refine zq_4_3 ?_
    refine zq_90_1i rfl rfl (gM_isDay_ok (E := E) hw _ _ _) fun v5 s6 => ?_
    refine zq_41 ?_ ?_
    · refine zq_1 ?_
      exact zq_95 rfl
    · refine zq_6_0 ?_
      refine zq_4_1 ?_
      refine zq_4_2 ?_
      refine zq_4_3 ?_
      refine zq_92_4i (zR_is hw) rfl rfl (gM_hasRight_ok (E := E) hw _ _ _ _ _) fun v7 s8 => ?_
      refine zq_40 ?_ ?_
      · refine zq_1 ?_
        refine zq_57 ?_
        exact zq_95 rfl
      refine zq_1 ?_
      refine zq_56 ?_
      exact zq_95 rfl
/-! 265: EngraversHouseModel.holdsFor:(IZII)Z -/
noncomputable def gM_holdsFor_l2 : Nat → Int → Int → Int → Int → Int → Int → Int → zSg → (zSg → Option (Int × zSg)) → Option (Int × zSg)
  | 0, _, _, _, _, _, _, _, _, _ => none
  | n + 1, x5, x6, x7, x8, x9, x10, x11, s12, k13 =>
   yjn (fun (x14 : Int) (x15 : Int) (x16 : Int) (x17 : Int) (x18 : Int) (x19 : Int) (x20 : Int) (s21 : zSg) =>
    yvl (zadd x20 1) fun v23 =>
    gM_holdsFor_l2 n x14 x15 x16 x17 x18 x19 v23 s21 k13) fun q22 =>
    yrd 104 54 x5 s12 fun v24 =>
   if x11 < v24 then
     (yrd 1820 56 (zadd x9 x11) s12 fun v25 =>
     yrd 1820 55 (zadd x9 x11) s12 fun v26 =>
     if v26 = 1 then
       (ywz 130 62 x10 x6 s12 fun s27 =>
       yvl (zadd x10 1) fun v28 =>
       q22 x5 x6 x7 x8 x9 v28 x11 s27)
     else if v26 = 2 then
       (yjn (fun (x29 : Int) (x30 : Int) (x31 : Int) (x32 : Int) (x33 : Int) (x34 : Int) (x35 : Int) (x36 : Int) (x37 : Int) (s38 : zSg) =>
        ywz 130 62 x36 x37 s38 fun s40 =>
        yvl (zadd x34 1) fun v41 =>
        q22 x29 x30 x31 x32 x33 v41 x35 s40) fun q39 =>
        if x7 < v25 then
         (q39 x5 x6 x7 x8 x9 x10 x11 x10 1 s12)
       else
         (q39 x5 x6 x7 x8 x9 x10 x11 x10 0 s12))
     else if v26 = 3 then
       (yjn (fun (x42 : Int) (x43 : Int) (x44 : Int) (x45 : Int) (x46 : Int) (x47 : Int) (x48 : Int) (x49 : Int) (x50 : Int) (s51 : zSg) =>
        ywz 130 62 x49 x50 s51 fun s53 =>
        yvl (zadd x47 1) fun v54 =>
        q22 x42 x43 x44 x45 x46 v54 x48 s53) fun q52 =>
        if v25 < x7 then
         (q52 x5 x6 x7 x8 x9 x10 x11 x10 1 s12)
       else
         (q52 x5 x6 x7 x8 x9 x10 x11 x10 0 s12))
     else if v26 = 4 then
       (yjn (fun (x55 : Int) (x56 : Int) (x57 : Int) (x58 : Int) (x59 : Int) (x60 : Int) (x61 : Int) (x62 : Int) (x63 : Int) (s64 : zSg) =>
        ywz 130 62 x62 x63 s64 fun s66 =>
        yvl (zadd x60 1) fun v67 =>
        q22 x55 x56 x57 x58 x59 v67 x61 s66) fun q65 =>
        if x8 < v25 then
         (q65 x5 x6 x7 x8 x9 x10 x11 x10 1 s12)
       else
         (q65 x5 x6 x7 x8 x9 x10 x11 x10 0 s12))
     else if v26 = 5 then
       (yjn (fun (x68 : Int) (x69 : Int) (x70 : Int) (x71 : Int) (x72 : Int) (x73 : Int) (x74 : Int) (x75 : Int) (x76 : Int) (s77 : zSg) =>
        ywz 130 62 x75 x76 s77 fun s79 =>
        yvl (zadd x73 1) fun v80 =>
        q22 x68 x69 x70 x71 x72 v80 x74 s79) fun q78 =>
        if v25 < x8 then
         (q78 x5 x6 x7 x8 x9 x10 x11 x10 1 s12)
       else
         (q78 x5 x6 x7 x8 x9 x10 x11 x10 0 s12))
     else if v26 = 6 then
       (yjn (fun (x81 : Int) (x82 : Int) (x83 : Int) (x84 : Int) (x85 : Int) (x86 : Int) (x87 : Int) (x88 : Int) (x89 : Int) (s90 : zSg) =>
        ywz 130 62 x88 x89 s90 fun s92 =>
        q22 x81 x82 x83 x84 x85 x86 x87 s92) fun q91 =>
        yrd 130 62 (zsub x10 1) s12 fun v93 =>
       if v93 = 0 then
         (q91 x5 x6 x7 x8 x9 x10 x11 (zsub x10 1) 1 s12)
       else
         (q91 x5 x6 x7 x8 x9 x10 x11 (zsub x10 1) 0 s12))
     else if v26 = 7 then
       (yjn (fun (x94 : Int) (x95 : Int) (x96 : Int) (x97 : Int) (x98 : Int) (x99 : Int) (x100 : Int) (x101 : Int) (x102 : Int) (s103 : zSg) =>
        ywz 130 62 x101 x102 s103 fun s105 =>
        q22 x94 x95 x96 x97 x98 x99 x100 s105) fun q104 =>
        yjn (fun (x106 : Int) (x107 : Int) (x108 : Int) (x109 : Int) (x110 : Int) (x111 : Int) (x112 : Int) (x113 : Int) (s114 : zSg) =>
        q104 x106 x107 x108 x109 x110 x111 x112 x113 0 s114) fun q115 =>
        yvl (zadd x10 (-1)) fun v116 =>
       yrd 130 62 (zsub v116 1) s12 fun v117 =>
       if v117 = 0 then
         (q115 x5 x6 x7 x8 x9 v116 x11 (zsub v116 1) s12)
       else
       yrd 130 62 v116 s12 fun v118 =>
       if v118 = 0 then
         (q115 x5 x6 x7 x8 x9 v116 x11 (zsub v116 1) s12)
       else
       q104 x5 x6 x7 x8 x9 v116 x11 (zsub v116 1) 1 s12)
     else yjn (fun (x119 : Int) (x120 : Int) (x121 : Int) (x122 : Int) (x123 : Int) (x124 : Int) (x125 : Int) (x126 : Int) (x127 : Int) (s128 : zSg) =>
      ywz 130 62 x126 x127 s128 fun s130 =>
      q22 x119 x120 x121 x122 x123 x124 x125 s130) fun q129 =>
      yjn (fun (x131 : Int) (x132 : Int) (x133 : Int) (x134 : Int) (x135 : Int) (x136 : Int) (x137 : Int) (x138 : Int) (s139 : zSg) =>
      q129 x131 x132 x133 x134 x135 x136 x137 x138 1 s139) fun q140 =>
      yvl (zadd x10 (-1)) fun v141 =>
     yrd 130 62 (zsub v141 1) s12 fun v142 =>
     if v142 = 0 then
       (yrd 130 62 v141 s12 fun v143 =>
       if v143 = 0 then
         (q129 x5 x6 x7 x8 x9 v141 x11 (zsub v141 1) 0 s12)
       else
       q140 x5 x6 x7 x8 x9 v141 x11 (zsub v141 1) s12)
     else
       (q140 x5 x6 x7 x8 x9 v141 x11 (zsub v141 1) s12))
   else
     (k13 s12)
theorem gM_holdsFor_l2_ok {E : Nat → Nat} {R : Nat} {h0 : zHp} (hw : zRg R h0) (d : Nat) : ∀ (n : Nat) (x5 : Int) (x6 : Int) (x7 : Int) (x8 : Int) (x9 : Int) (x10 : Int) (x11 : Int) (s12 : zSg) (k13 : zSg → Option (Int × zSg)) (hk13 : ∀ (s : zSg), zE (zov R h0) Ji E (d + 0) 265 (zB 265 27) ([some (.inr (.inr R)), none, none, none, none, none, none, none, none]) ([]) s (k13 s)), zE (zov R h0) Ji E (d + 0) 265 (zB 265 2) ([some (.inr (.inr R)), some (.inl x5), some (.inl x6), some (.inl x7), some (.inl x8), some (.inl x9), some (.inl x10), some (.inl x11), none]) ([]) s12 (gM_holdsFor_l2 n x5 x6 x7 x8 x9 x10 x11 s12 k13) := by
  intro n
  induction n with
  | zero => intro x5 x6 x7 x8 x9 x10 x11 s12 k13 hk13; exact zE_none
  | succ n ih =>
    intro x5 x6 x7 x8 x9 x10 x11 s12 k13 hk13
    unfold gM_holdsFor_l2
    refine zE_jn (fun q22 => ∀ (y0 : Int) (y1 : Int) (y2 : Int) (y3 : Int) (y4 : Int) (y5 : Int) (y6 : Int) (s : zSg), zE (zov R h0) Ji E (d + 0) 265 (zB 265 26) ([some (.inr (.inr R)), some (.inl y0), some (.inl y1), some (.inl y2), some (.inl y3), some (.inl y4), some (.inl y5), some (.inl y6), none]) ([]) s (q22 y0 y1 y2 y3 y4 y5 y6 s)) (fun x14 x15 x16 x17 x18 x19 x20 s21 => ?_) (fun q22 hq22 => ?_)
    · refine zE_vl ?_
      refine zq_10_7 rfl ?_
      refine zq_56 ?_
      exact zE_w [true, true, true, true, true, true, true, true, false] (ih _ _ _ _ _ _ _ _ _ hk13)
    refine zq_4_7 ?_
    refine zq_6_0 ?_
    refine zr_61 hw rfl ?_
    refine zq_4_1 ?_
    refine zr_65 hw rfl rfl rfl ?_
    refine zq_49 ?_ ?_
    · refine zq_6_0 ?_
      refine zr_61 hw rfl ?_
      refine zq_4_5 ?_
      refine zq_4_7 ?_
      refine zq_11 ?_
      refine zr_65 hw rfl rfl rfl ?_
      refine zq_7_8 rfl ?_
      refine zq_6_0 ?_
      refine zr_61 hw rfl ?_
      refine zq_4_5 ?_
      refine zq_4_7 ?_
      refine zq_11 ?_
      refine zr_65 hw rfl rfl rfl ?_
      refine zq_58 ?_
      refine zq_sw ?_ ?_
      · refine zq_6_0 ?_
        refine zr_61 hw rfl ?_
        refine zq_4_6 ?_
        refine zq_4_2 ?_
        refine zr_69 hw rfl rfl rfl ?_
        refine zE_vl ?_
        refine zq_10_6 rfl ?_
        refine zq_56 ?_
        exact zE_w [true, true, true, true, true, true, true, true, false] (hq22 _ _ _ _ _ _ _ _)
      refine zq_sw ?_ ?_
      · refine zE_jn (fun q39 => ∀ (y0 : Int) (y1 : Int) (y2 : Int) (y3 : Int) (y4 : Int) (y5 : Int) (y6 : Int) (y7 : Int) (y8 : Int) (s : zSg), zE (zov R h0) Ji E (d + 0) 265 (zB 265 6) ([some (.inr (.inr R)), some (.inl y0), some (.inl y1), some (.inl y2), some (.inl y3), some (.inl y4), some (.inl y5), some (.inl y6), none]) ([.inl y8, .inl y7, .inr (.inr (zra R 62))]) s (q39 y0 y1 y2 y3 y4 y5 y6 y7 y8 s)) (fun x29 x30 x31 x32 x33 x34 x35 x36 x37 s38 => ?_) (fun q39 hq39 => ?_)
        · refine zr_69 hw rfl rfl rfl ?_
          refine zE_vl ?_
          refine zq_10_6 rfl ?_
          refine zq_56 ?_
          exact zE_w [true, true, true, true, true, true, true, true, false] (hq22 _ _ _ _ _ _ _ _)
        refine zq_6_0 ?_
        refine zr_61 hw rfl ?_
        refine zq_4_6 ?_
        refine zq_4_3 ?_
        refine zq_4_8 ?_
        refine zq_49 ?_ ?_
        · refine zq_1 ?_
          refine zq_56 ?_
          exact zE_w [true, true, true, true, true, true, true, true, false] (hq39 _ _ _ _ _ _ _ _ _ _)
        · refine zq_1 ?_
          refine zq_57 ?_
          exact zE_w [true, true, true, true, true, true, true, true, false] (hq39 _ _ _ _ _ _ _ _ _ _)
      refine zq_sw ?_ ?_
      · refine zE_jn (fun q52 => ∀ (y0 : Int) (y1 : Int) (y2 : Int) (y3 : Int) (y4 : Int) (y5 : Int) (y6 : Int) (y7 : Int) (y8 : Int) (s : zSg), zE (zov R h0) Ji E (d + 0) 265 (zB 265 9) ([some (.inr (.inr R)), some (.inl y0), some (.inl y1), some (.inl y2), some (.inl y3), some (.inl y4), some (.inl y5), some (.inl y6), none]) ([.inl y8, .inl y7, .inr (.inr (zra R 62))]) s (q52 y0 y1 y2 y3 y4 y5 y6 y7 y8 s)) (fun x42 x43 x44 x45 x46 x47 x48 x49 x50 s51 => ?_) (fun q52 hq52 => ?_)
        · refine zr_69 hw rfl rfl rfl ?_
          refine zE_vl ?_
          refine zq_10_6 rfl ?_
          refine zq_56 ?_
          exact zE_w [true, true, true, true, true, true, true, true, false] (hq22 _ _ _ _ _ _ _ _)
        refine zq_6_0 ?_
        refine zr_61 hw rfl ?_
        refine zq_4_6 ?_
        refine zq_4_3 ?_
        refine zq_4_8 ?_
        refine zq_51 ?_ ?_
        · refine zq_1 ?_
          refine zq_56 ?_
          exact zE_w [true, true, true, true, true, true, true, true, false] (hq52 _ _ _ _ _ _ _ _ _ _)
        · refine zq_1 ?_
          refine zq_57 ?_
          exact zE_w [true, true, true, true, true, true, true, true, false] (hq52 _ _ _ _ _ _ _ _ _ _)
      refine zq_sw ?_ ?_
      · refine zE_jn (fun q65 => ∀ (y0 : Int) (y1 : Int) (y2 : Int) (y3 : Int) (y4 : Int) (y5 : Int) (y6 : Int) (y7 : Int) (y8 : Int) (s : zSg), zE (zov R h0) Ji E (d + 0) 265 (zB 265 12) ([some (.inr (.inr R)), some (.inl y0), some (.inl y1), some (.inl y2), some (.inl y3), some (.inl y4), some (.inl y5), some (.inl y6), none]) ([.inl y8, .inl y7, .inr (.inr (zra R 62))]) s (q65 y0 y1 y2 y3 y4 y5 y6 y7 y8 s)) (fun x55 x56 x57 x58 x59 x60 x61 x62 x63 s64 => ?_) (fun q65 hq65 => ?_)
        · refine zr_69 hw rfl rfl rfl ?_
          refine zE_vl ?_
          refine zq_10_6 rfl ?_
          refine zq_56 ?_
          exact zE_w [true, true, true, true, true, true, true, true, false] (hq22 _ _ _ _ _ _ _ _)
        refine zq_6_0 ?_
        refine zr_61 hw rfl ?_
        refine zq_4_6 ?_
        refine zq_4_4 ?_
        refine zq_4_8 ?_
        refine zq_49 ?_ ?_
        · refine zq_1 ?_
          refine zq_56 ?_
          exact zE_w [true, true, true, true, true, true, true, true, false] (hq65 _ _ _ _ _ _ _ _ _ _)
        · refine zq_1 ?_
          refine zq_57 ?_
          exact zE_w [true, true, true, true, true, true, true, true, false] (hq65 _ _ _ _ _ _ _ _ _ _)
      refine zq_sw ?_ ?_
      · refine zE_jn (fun q78 => ∀ (y0 : Int) (y1 : Int) (y2 : Int) (y3 : Int) (y4 : Int) (y5 : Int) (y6 : Int) (y7 : Int) (y8 : Int) (s : zSg), zE (zov R h0) Ji E (d + 0) 265 (zB 265 15) ([some (.inr (.inr R)), some (.inl y0), some (.inl y1), some (.inl y2), some (.inl y3), some (.inl y4), some (.inl y5), some (.inl y6), none]) ([.inl y8, .inl y7, .inr (.inr (zra R 62))]) s (q78 y0 y1 y2 y3 y4 y5 y6 y7 y8 s)) (fun x68 x69 x70 x71 x72 x73 x74 x75 x76 s77 => ?_) (fun q78 hq78 => ?_)
        · refine zr_69 hw rfl rfl rfl ?_
          refine zE_vl ?_
          refine zq_10_6 rfl ?_
          refine zq_56 ?_
          exact zE_w [true, true, true, true, true, true, true, true, false] (hq22 _ _ _ _ _ _ _ _)
        refine zq_6_0 ?_
        refine zr_61 hw rfl ?_
        refine zq_4_6 ?_
        refine zq_4_4 ?_
        refine zq_4_8 ?_
        refine zq_51 ?_ ?_
        · refine zq_1 ?_
          refine zq_56 ?_
          exact zE_w [true, true, true, true, true, true, true, true, false] (hq78 _ _ _ _ _ _ _ _ _ _)
        · refine zq_1 ?_
          refine zq_57 ?_
          exact zE_w [true, true, true, true, true, true, true, true, false] (hq78 _ _ _ _ _ _ _ _ _ _)
      refine zq_sw ?_ ?_
      · refine zE_jn (fun q91 => ∀ (y0 : Int) (y1 : Int) (y2 : Int) (y3 : Int) (y4 : Int) (y5 : Int) (y6 : Int) (y7 : Int) (y8 : Int) (s : zSg), zE (zov R h0) Ji E (d + 0) 265 (zB 265 18) ([some (.inr (.inr R)), some (.inl y0), some (.inl y1), some (.inl y2), some (.inl y3), some (.inl y4), some (.inl y5), some (.inl y6), none]) ([.inl y8, .inl y7, .inr (.inr (zra R 62))]) s (q91 y0 y1 y2 y3 y4 y5 y6 y7 y8 s)) (fun x81 x82 x83 x84 x85 x86 x87 x88 x89 s90 => ?_) (fun q91 hq91 => ?_)
        · refine zr_69 hw rfl rfl rfl ?_
          refine zq_56 ?_
          exact zE_w [true, true, true, true, true, true, true, true, false] (hq22 _ _ _ _ _ _ _ _)
        refine zq_6_0 ?_
        refine zr_61 hw rfl ?_
        refine zq_4_6 ?_
        refine zq_1 ?_
        refine zq_12 ?_
        refine zq_6_0 ?_
        refine zr_61 hw rfl ?_
        refine zq_4_6 ?_
        refine zq_1 ?_
        refine zq_12 ?_
        refine zr_66 hw rfl rfl rfl ?_
        refine zq_41 ?_ ?_
        · refine zq_1 ?_
          refine zq_56 ?_
          exact zE_w [true, true, true, true, true, true, true, true, false] (hq91 _ _ _ _ _ _ _ _ _ _)
        · refine zq_1 ?_
          refine zq_57 ?_
          exact zE_w [true, true, true, true, true, true, true, true, false] (hq91 _ _ _ _ _ _ _ _ _ _)
      refine zq_sw ?_ ?_
      · refine zE_jn (fun q104 => ∀ (y0 : Int) (y1 : Int) (y2 : Int) (y3 : Int) (y4 : Int) (y5 : Int) (y6 : Int) (y7 : Int) (y8 : Int) (s : zSg), zE (zov R h0) Ji E (d + 0) 265 (zB 265 21) ([some (.inr (.inr R)), some (.inl y0), some (.inl y1), some (.inl y2), some (.inl y3), some (.inl y4), some (.inl y5), some (.inl y6), none]) ([.inl y8, .inl y7, .inr (.inr (zra R 62))]) s (q104 y0 y1 y2 y3 y4 y5 y6 y7 y8 s)) (fun x94 x95 x96 x97 x98 x99 x100 x101 x102 s103 => ?_) (fun q104 hq104 => ?_)
        · refine zr_69 hw rfl rfl rfl ?_
          refine zq_56 ?_
          exact zE_w [true, true, true, true, true, true, true, true, false] (hq22 _ _ _ _ _ _ _ _)
        refine zE_jn (fun q115 => ∀ (y0 : Int) (y1 : Int) (y2 : Int) (y3 : Int) (y4 : Int) (y5 : Int) (y6 : Int) (y7 : Int) (s : zSg), zE (zov R h0) Ji E (d + 0) 265 (zB 265 20) ([some (.inr (.inr R)), some (.inl y0), some (.inl y1), some (.inl y2), some (.inl y3), some (.inl y4), some (.inl y5), some (.inl y6), none]) ([.inl y7, .inr (.inr (zra R 62))]) s (q115 y0 y1 y2 y3 y4 y5 y6 y7 s)) (fun x106 x107 x108 x109 x110 x111 x112 x113 s114 => ?_) (fun q115 hq115 => ?_)
        · refine zq_1 ?_
          refine zq_57 ?_
          exact zE_w [true, true, true, true, true, true, true, true, false] (hq104 _ _ _ _ _ _ _ _ _ _)
        refine zE_vl ?_
        refine zq_10_6 rfl ?_
        refine zq_6_0 ?_
        refine zr_61 hw rfl ?_
        refine zq_4_6 ?_
        refine zq_1 ?_
        refine zq_12 ?_
        refine zq_6_0 ?_
        refine zr_61 hw rfl ?_
        refine zq_4_6 ?_
        refine zq_1 ?_
        refine zq_12 ?_
        refine zr_66 hw rfl rfl rfl ?_
        refine zq_40 ?_ ?_
        · exact zE_w [true, true, true, true, true, true, true, true, false] (hq115 _ _ _ _ _ _ _ _ _)
        refine zq_6_0 ?_
        refine zr_61 hw rfl ?_
        refine zq_4_6 ?_
        refine zr_66 hw rfl rfl rfl ?_
        refine zq_40 ?_ ?_
        · exact zE_w [true, true, true, true, true, true, true, true, false] (hq115 _ _ _ _ _ _ _ _ _)
        refine zq_1 ?_
        refine zq_56 ?_
        exact zE_w [true, true, true, true, true, true, true, true, false] (hq104 _ _ _ _ _ _ _ _ _ _)
      refine zE_jn (fun q129 => ∀ (y0 : Int) (y1 : Int) (y2 : Int) (y3 : Int) (y4 : Int) (y5 : Int) (y6 : Int) (y7 : Int) (y8 : Int) (s : zSg), zE (zov R h0) Ji E (d + 0) 265 (zB 265 25) ([some (.inr (.inr R)), some (.inl y0), some (.inl y1), some (.inl y2), some (.inl y3), some (.inl y4), some (.inl y5), some (.inl y6), none]) ([.inl y8, .inl y7, .inr (.inr (zra R 62))]) s (q129 y0 y1 y2 y3 y4 y5 y6 y7 y8 s)) (fun x119 x120 x121 x122 x123 x124 x125 x126 x127 s128 => ?_) (fun q129 hq129 => ?_)
      · refine zr_69 hw rfl rfl rfl ?_
        refine zq_57 ?_
        exact zE_w [true, true, true, true, true, true, true, true, false] (hq22 _ _ _ _ _ _ _ _)
      refine zE_jn (fun q140 => ∀ (y0 : Int) (y1 : Int) (y2 : Int) (y3 : Int) (y4 : Int) (y5 : Int) (y6 : Int) (y7 : Int) (s : zSg), zE (zov R h0) Ji E (d + 0) 265 (zB 265 23) ([some (.inr (.inr R)), some (.inl y0), some (.inl y1), some (.inl y2), some (.inl y3), some (.inl y4), some (.inl y5), some (.inl y6), none]) ([.inl y7, .inr (.inr (zra R 62))]) s (q140 y0 y1 y2 y3 y4 y5 y6 y7 s)) (fun x131 x132 x133 x134 x135 x136 x137 x138 s139 => ?_) (fun q140 hq140 => ?_)
      · refine zq_1 ?_
        refine zq_56 ?_
        exact zE_w [true, true, true, true, true, true, true, true, false] (hq129 _ _ _ _ _ _ _ _ _ _)
      refine zE_vl ?_
      refine zq_10_6 rfl ?_
      refine zq_6_0 ?_
      refine zr_61 hw rfl ?_
      refine zq_4_6 ?_
      refine zq_1 ?_
      refine zq_12 ?_
      refine zq_6_0 ?_
      refine zr_61 hw rfl ?_
      refine zq_4_6 ?_
      refine zq_1 ?_
      refine zq_12 ?_
      refine zr_66 hw rfl rfl rfl ?_
      refine zq_41 ?_ ?_
      · refine zq_6_0 ?_
        refine zr_61 hw rfl ?_
        refine zq_4_6 ?_
        refine zr_66 hw rfl rfl rfl ?_
        refine zq_40 ?_ ?_
        · refine zq_1 ?_
          refine zq_57 ?_
          exact zE_w [true, true, true, true, true, true, true, true, false] (hq129 _ _ _ _ _ _ _ _ _ _)
        refine zq_57 ?_
        exact zE_w [true, true, true, true, true, true, true, true, false] (hq140 _ _ _ _ _ _ _ _ _)
      · exact zE_w [true, true, true, true, true, true, true, true, false] (hq140 _ _ _ _ _ _ _ _ _)
    · exact zE_w [true, false, false, false, false, false, false, false, false] (hk13 _)
noncomputable def gM_holdsFor (a1 : Int) (a2 : Int) (a3 : Int) (a4 : Int) (s : zSg) : Option (Int × zSg) :=
  yvl (zmul 140 (zdiv a1 8)) fun v1 =>
  yrd 104 53 a1 s fun v2 =>
  yrd 104 54 a1 s fun v3 =>
  if v2 = v3 then
    (some (1, s))
  else
    (yrd 104 53 a1 s fun v4 =>
    gM_holdsFor_l2 zFU a1 a2 a3 a4 v1 0 v4 s (fun (s144 : zSg) =>
     yrd 130 62 0 s144 fun v145 =>
     yrb v145 s144))
theorem gM_holdsFor_ok {E : Nat → Nat} {R : Nat} {h0 : zHp} (hw : zRg R h0) (d : Nat) (a1 : Int) (a2 : Int) (a3 : Int) (a4 : Int) (s : zSg) : zE (zov R h0) Ji E (d + 0) 265 (zB 265 0) (zent 9 [.inr (.inr R), .inl a1, .inl a2, .inl a3, .inl a4]) [] s (gM_holdsFor a1 a2 a3 a4 s) := by
  show zE _ _ _ _ _ _ [some (.inr (.inr R)), some (.inl a1), some (.inl a2), some (.inl a3), some (.inl a4), none, none, none, none] _ _ _
  unfold gM_holdsFor
  refine zq_1 ?_
  refine zq_4_1 ?_
  refine zq_1 ?_
  refine zq_14c (by decide) ?_
  refine zq_13 ?_
  refine zE_vl ?_
  refine zq_7_5 rfl ?_
  refine zq_6_0 ?_
  refine zr_61 hw rfl ?_
  refine zq_4_1 ?_
  refine zr_65 hw rfl rfl rfl ?_
  refine zq_6_0 ?_
  refine zr_61 hw rfl ?_
  refine zq_4_1 ?_
  refine zr_65 hw rfl rfl rfl ?_
  refine zq_47 ?_ ?_
  · refine zq_1 ?_
    exact zq_96c (by decide)
  · refine zq_1 ?_
    refine zq_7_6 rfl ?_
    refine zq_6_0 ?_
    refine zr_61 hw rfl ?_
    refine zq_4_1 ?_
    refine zr_65 hw rfl rfl rfl ?_
    refine zq_7_7 rfl ?_
    refine zq_57 ?_
    refine zE_w [true, true, true, true, true, true, true, true, false] (gM_holdsFor_l2_ok (E := E) hw d zFU _ _ _ _ _ _ _ _ _ (fun s144 => ?_))
    refine zq_6_0 ?_
    refine zr_61 hw rfl ?_
    refine zq_1 ?_
    refine zr_66 hw rfl rfl rfl ?_
    exact zq_96
/-! 266: EngraversHouseModel.gets:(IIIZIIII)I -/
noncomputable def gM_gets_l1 : Nat → Int → Int → Int → Int → Int → Int → Int → Int → Int → Int → Int → zSg → (Int → Int → Int → Int → Int → zSg → Option (Int × zSg)) → Option (Int × zSg)
  | 0, _, _, _, _, _, _, _, _, _, _, _, _, _ => none
  | n + 1, x1, x2, x3, x4, x5, x6, x7, x8, x9, x10, x11, s12, k13 =>
   yjn (fun (x14 : Int) (x15 : Int) (x16 : Int) (x17 : Int) (x18 : Int) (x19 : Int) (x20 : Int) (x21 : Int) (x22 : Int) (x23 : Int) (x24 : Int) (s25 : zSg) =>
    yvl (zadd x24 1) fun v27 =>
    gM_gets_l1 n x14 x15 x16 x17 x18 x19 x20 x21 x22 x23 v27 s25 k13) fun q26 =>
    if x1 < 0 then
     (k13 x1 x7 x8 x9 x10 s12)
   else
   yrd 13 49 x1 s12 fun v28 =>
   if x11 < v28 then
     (yvl (zadd (zmul 8 x1) x11) fun v29 =>
     yrd 104 50 v29 s12 fun v30 =>
     if v30 = x2 then
       (yrd 104 51 v29 s12 fun v31 =>
       if v31 = x3 then
         (ybd (gM_holdsFor v29 x4 x5 x6 s12) fun v32 s33 =>
         if v32 = 0 then
           (q26 x1 x2 x3 x4 x5 x6 x7 x8 x9 x10 x11 s33)
         else
           (yrd 104 52 v29 s33 fun v34 =>
           yvl (zadd x9 v34) fun v35 =>
           q26 x1 x2 x3 x4 x5 x6 x7 x8 v35 1 x11 s33))
       else
         (q26 x1 x2 x3 x4 x5 x6 x7 x8 x9 x10 x11 s12))
     else
       (q26 x1 x2 x3 x4 x5 x6 x7 x8 x9 x10 x11 s12))
   else
     (k13 x1 x7 x8 x9 x10 s12)
theorem gM_gets_l1_ok {E : Nat → Nat} {R : Nat} {h0 : zHp} (hw : zRg R h0) (d : Nat) : ∀ (n : Nat) (x1 : Int) (x2 : Int) (x3 : Int) (x4 : Int) (x5 : Int) (x6 : Int) (x7 : Int) (x8 : Int) (x9 : Int) (x10 : Int) (x11 : Int) (s12 : zSg) (k13 : Int → Int → Int → Int → Int → zSg → Option (Int × zSg)) (hk13 : ∀ (y0 : Int) (y1 : Int) (y2 : Int) (y3 : Int) (y4 : Int) (s : zSg), zE (zov R h0) Ji E (d + 1) 266 (zB 266 4) ([some (.inr (.inr R)), some (.inl y0), none, none, none, none, none, some (.inl y1), some (.inl y2), some (.inl y3), some (.inl y4), none, none]) ([]) s (k13 y0 y1 y2 y3 y4 s)), zE (zov R h0) Ji E (d + 1) 266 (zB 266 1) ([some (.inr (.inr R)), some (.inl x1), some (.inl x2), some (.inl x3), some (.inl x4), some (.inl x5), some (.inl x6), some (.inl x7), some (.inl x8), some (.inl x9), some (.inl x10), some (.inl x11), none]) ([]) s12 (gM_gets_l1 n x1 x2 x3 x4 x5 x6 x7 x8 x9 x10 x11 s12 k13) := by
  intro n
  induction n with
  | zero => intro x1 x2 x3 x4 x5 x6 x7 x8 x9 x10 x11 s12 k13 hk13; exact zE_none
  | succ n ih =>
    intro x1 x2 x3 x4 x5 x6 x7 x8 x9 x10 x11 s12 k13 hk13
    unfold gM_gets_l1
    refine zE_jn (fun q26 => ∀ (y0 : Int) (y1 : Int) (y2 : Int) (y3 : Int) (y4 : Int) (y5 : Int) (y6 : Int) (y7 : Int) (y8 : Int) (y9 : Int) (y10 : Int) (s : zSg), zE (zov R h0) Ji E (d + 1) 266 (zB 266 3) ([some (.inr (.inr R)), some (.inl y0), some (.inl y1), some (.inl y2), some (.inl y3), some (.inl y4), some (.inl y5), some (.inl y6), some (.inl y7), some (.inl y8), some (.inl y9), some (.inl y10), none]) ([]) s (q26 y0 y1 y2 y3 y4 y5 y6 y7 y8 y9 y10 s)) (fun x14 x15 x16 x17 x18 x19 x20 x21 x22 x23 x24 s25 => ?_) (fun q26 hq26 => ?_)
    · refine zE_vl ?_
      refine zq_10_11 rfl ?_
      refine zq_56 ?_
      exact zE_w [true, true, true, true, true, true, true, true, true, true, true, true, false] (ih _ _ _ _ _ _ _ _ _ _ _ _ _ hk13)
    refine zq_4_1 ?_
    refine zq_42 ?_ ?_
    · exact zE_w [true, true, false, false, false, false, false, true, true, true, true, false, false] (hk13 _ _ _ _ _ _)
    refine zq_4_11 ?_
    refine zq_6_0 ?_
    refine zr_61 hw rfl ?_
    refine zq_4_1 ?_
    refine zr_65 hw rfl rfl rfl ?_
    refine zq_49 ?_ ?_
    · refine zq_1 ?_
      refine zq_4_1 ?_
      refine zq_13 ?_
      refine zq_4_11 ?_
      refine zq_11 ?_
      refine zE_vl ?_
      refine zq_7_12 rfl ?_
      refine zq_6_0 ?_
      refine zr_61 hw rfl ?_
      refine zq_4_12 ?_
      refine zr_65 hw rfl rfl rfl ?_
      refine zq_4_2 ?_
      refine zq_47 ?_ ?_
      · refine zq_6_0 ?_
        refine zr_61 hw rfl ?_
        refine zq_4_12 ?_
        refine zr_65 hw rfl rfl rfl ?_
        refine zq_4_3 ?_
        refine zq_47 ?_ ?_
        · refine zq_6_0 ?_
          refine zq_4_12 ?_
          refine zq_4_4 ?_
          refine zq_4_5 ?_
          refine zq_4_6 ?_
          refine zq_92_5i (zR_is hw) rfl rfl (gM_holdsFor_ok (E := E) hw _ _ _ _ _ _) fun v32 s33 => ?_
          refine zq_41 ?_ ?_
          · refine zq_56 ?_
            exact zE_w [true, true, true, true, true, true, true, true, true, true, true, true, false] (hq26 _ _ _ _ _ _ _ _ _ _ _ _)
          · refine zq_1 ?_
            refine zq_7_10 rfl ?_
            refine zq_4_9 ?_
            refine zq_6_0 ?_
            refine zr_61 hw rfl ?_
            refine zq_4_12 ?_
            refine zr_65 hw rfl rfl rfl ?_
            refine zq_11 ?_
            refine zE_vl ?_
            refine zq_7_9 rfl ?_
            refine zq_57 ?_
            exact zE_w [true, true, true, true, true, true, true, true, true, true, true, true, false] (hq26 _ _ _ _ _ _ _ _ _ _ _ _)
        · exact zE_w [true, true, true, true, true, true, true, true, true, true, true, true, false] (hq26 _ _ _ _ _ _ _ _ _ _ _ _)
      · exact zE_w [true, true, true, true, true, true, true, true, true, true, true, true, false] (hq26 _ _ _ _ _ _ _ _ _ _ _ _)
    · exact zE_w [true, true, false, false, false, false, false, true, true, true, true, false, false] (hk13 _ _ _ _ _ _)
noncomputable def gM_gets (a1 : Int) (a2 : Int) (a3 : Int) (a4 : Int) (a5 : Int) (a6 : Int) (a7 : Int) (a8 : Int) (s : zSg) : Option (Int × zSg) :=
  gM_gets_l1 zFU a1 a2 a3 a4 a5 a6 a7 a8 0 0 0 s (fun (x36 : Int) (x37 : Int) (x38 : Int) (x39 : Int) (x40 : Int) (s41 : zSg) =>
   yjn (fun (x42 : Int) (x43 : Int) (s44 : zSg) =>
    if x43 < x42 then
      (some (x43, s44))
    else
      (some (x42, s44))) fun q45 =>
    yvl (zl2i (zldiv (zlmul (zi2l x37) (zi2l x39)) 1000)) fun v46 =>
   if x40 = 0 then
     (q45 x38 v46 s41)
   else
   yrd 13 48 x36 s41 fun v47 =>
   if v46 < v47 then
     (yrd 13 48 x36 s41 fun v48 =>
     q45 x38 v48 s41)
   else
     (q45 x38 v46 s41))
theorem gM_gets_ok {E : Nat → Nat} {R : Nat} {h0 : zHp} (hw : zRg R h0) (d : Nat) (a1 : Int) (a2 : Int) (a3 : Int) (a4 : Int) (a5 : Int) (a6 : Int) (a7 : Int) (a8 : Int) (s : zSg) : zE (zov R h0) Ji E (d + 1) 266 (zB 266 0) (zent 13 [.inr (.inr R), .inl a1, .inl a2, .inl a3, .inl a4, .inl a5, .inl a6, .inl a7, .inl a8]) [] s (gM_gets a1 a2 a3 a4 a5 a6 a7 a8 s) := by
  show zE _ _ _ _ _ _ [some (.inr (.inr R)), some (.inl a1), some (.inl a2), some (.inl a3), some (.inl a4), some (.inl a5), some (.inl a6), some (.inl a7), some (.inl a8), none, none, none, none] _ _ _
  unfold gM_gets
  refine zq_1 ?_
  refine zq_7_9 rfl ?_
  refine zq_1 ?_
  refine zq_7_10 rfl ?_
  refine zq_1 ?_
  refine zq_7_11 rfl ?_
  refine zq_57 ?_
  refine zE_w [true, true, true, true, true, true, true, true, true, true, true, true, false] (gM_gets_l1_ok (E := E) hw d zFU _ _ _ _ _ _ _ _ _ _ _ _ _ (fun x36 x37 x38 x39 x40 s41 => ?_))
  refine zE_jn (fun q45 => ∀ (y0 : Int) (y1 : Int) (s : zSg), zE (zov R h0) Ji E (d + 1) 266 (zB 266 5) ([none, none, none, none, none, none, none, none, some (.inl y0), none, none, some (.inl y1), none]) ([]) s (q45 y0 y1 s)) (fun x42 x43 s44 => ?_) (fun q45 hq45 => ?_)
  · refine zq_4_11 ?_
    refine zq_4_8 ?_
    refine zq_49 ?_ ?_
    · refine zq_4_11 ?_
      refine zq_56 ?_
      exact zq_95 rfl
    · refine zq_4_8 ?_
      refine zq_57 ?_
      exact zq_95 rfl
  refine zq_4_7 ?_
  refine zq_23 ?_
  refine zq_4_9 ?_
  refine zq_23 ?_
  refine zq_29 ?_
  refine zq_2 ?_
  refine zq_30c (by decide) ?_
  refine zq_24 ?_
  refine zE_vl ?_
  refine zq_7_11 rfl ?_
  refine zq_4_10 ?_
  refine zq_40 ?_ ?_
  · exact zE_w [false, false, false, false, false, false, false, false, true, false, false, true, false] (hq45 _ _ _)
  refine zq_4_11 ?_
  refine zq_6_0 ?_
  refine zr_61 hw rfl ?_
  refine zq_4_1 ?_
  refine zr_65 hw rfl rfl rfl ?_
  refine zq_49 ?_ ?_
  · refine zq_6_0 ?_
    refine zr_61 hw rfl ?_
    refine zq_4_1 ?_
    refine zr_65 hw rfl rfl rfl ?_
    refine zq_7_11 rfl ?_
    refine zq_57 ?_
    exact zE_w [false, false, false, false, false, false, false, false, true, false, false, true, false] (hq45 _ _ _)
  · exact zE_w [false, false, false, false, false, false, false, false, true, false, false, true, false] (hq45 _ _ _)
/-! 267: EngraversHouseModel.paid:(IIIIIII)I -/
noncomputable def gM_paid (a1 : Int) (a2 : Int) (a3 : Int) (a4 : Int) (a5 : Int) (a6 : Int) (a7 : Int) (s : zSg) : Option (Int × zSg) :=
  ybd (gM_isThing a1 s) fun v1 s2 =>
  if v1 = 0 then
    (some ((-1), s2))
  else
  ybd (gM_in a2 0 3 s2) fun v3 s4 =>
  if v3 = 0 then
    (some ((-1), s4))
  else
  ybd (gM_in a7 0 2 s4) fun v5 s6 =>
  if v5 = 0 then
    (some ((-1), s6))
  else
    (ybd (gM_isMusic a1 s6) fun v7 s8 =>
    if v7 = 0 then
      (some ((-12), s8))
    else
      (ybd (gM_isDay a3 s8) fun v9 s10 =>
      if v9 = 0 then
        (some ((-2), s10))
      else
      ybd (gM_in a4 0 2 s10) fun v11 s12 =>
      if v11 = 0 then
        (some ((-2), s12))
      else
      ybd (gM_in a5 0 100000 s12) fun v13 s14 =>
      if v13 = 0 then
        (some ((-2), s14))
      else
      ybd (gM_in a6 0 999 s14) fun v15 s16 =>
      if v15 = 0 then
        (some ((-2), s16))
      else
        (yjn (fun (x17 : Int) (x18 : Int) (x19 : Int) (x20 : Int) (x21 : Int) (x22 : Int) (x23 : Int) (x24 : Int) (x25 : Int) (x26 : Int) (s27 : zSg) =>
         yjn (fun (x29 : Int) (x30 : Int) (x31 : Int) (x32 : Int) (x33 : Int) (x34 : Int) (x35 : Int) (x36 : Int) (x37 : Int) (x38 : Int) (x39 : Int) (s40 : zSg) =>
          yjn (fun (x42 : Int) (x43 : Int) (x44 : Int) (x45 : Int) (x46 : Int) (x47 : Int) (x48 : Int) (x49 : Int) (x50 : Int) (x51 : Int) (x52 : Int) (s53 : zSg) =>
           yjn (fun (x55 : Int) (x56 : Int) (x57 : Int) (x58 : Int) (s59 : zSg) =>
            if x56 = 0 then
              (some (x57, s59))
            else
              (if x56 = 1 then
                (some (x58, s59))
              else
                (some (zsub (zsub x55 x57) x58, s59)))) fun q60 =>
            yjn (fun (x61 : Int) (x62 : Int) (x63 : Int) (s64 : zSg) =>
            q60 x61 x62 x63 0 s64) fun q65 =>
            if x51 = 0 then
             (q65 x46 x48 x52 s53)
           else
           yrd 60 7 x42 s53 fun v66 =>
           ybd (gM_hasRight v66 x43 x44 s53) fun v67 s68 =>
           if v67 = 0 then
             (q65 x46 x48 x52 s68)
           else
           ybd (gM_gets x49 1 x45 1 x50 x47 x46 (zsub x46 x52) s68) fun v69 s70 =>
           q60 x46 x48 x52 v69 s70) fun q54 =>
           ybd (gM_hasRight x37 x30 x31 s40) fun v71 s72 =>
          if v71 = 0 then
            (q54 x29 x30 x31 x32 x33 x34 x35 x36 x38 x39 0 s72)
          else
          ybd (gM_gets x36 0 x32 x39 x38 x34 x33 x33 s72) fun v73 s74 =>
          q54 x29 x30 x31 x32 x33 x34 x35 x36 x38 x39 v73 s74) fun q41 =>
          yrd 60 3 x17 s27 fun v75 =>
         if v75 = 6 then
           (q41 x17 x18 x19 x20 x21 x22 x23 x24 x25 x26 1 s27)
         else
           (q41 x17 x18 x19 x20 x21 x22 x23 x24 x25 x26 0 s27)) fun q28 =>
         ybd (gM_contractOf a2 a3 s16) fun v76 s77 =>
        yrd 60 4 a1 s77 fun v78 =>
        yrd 60 7 v78 s77 fun v79 =>
        ybd (gM_isAlive v79 a3 s77) fun v80 s81 =>
        if v80 = 0 then
          (yrd 12 9 v79 s81 fun v82 =>
          q28 a1 a2 a3 a4 a5 a6 a7 v76 v79 (zdiv (zsub a3 v82) 365) s81)
        else
        q28 a1 a2 a3 a4 a5 a6 a7 v76 v79 0 s81)))
theorem gM_paid_ok {E : Nat → Nat} {R : Nat} {h0 : zHp} (hw : zRg R h0) (d : Nat) (a1 : Int) (a2 : Int) (a3 : Int) (a4 : Int) (a5 : Int) (a6 : Int) (a7 : Int) (s : zSg) : zE (zov R h0) Ji E (d + 4) 267 (zB 267 0) (zent 14 [.inr (.inr R), .inl a1, .inl a2, .inl a3, .inl a4, .inl a5, .inl a6, .inl a7]) [] s (gM_paid a1 a2 a3 a4 a5 a6 a7 s) := by
  show zE _ _ _ _ _ _ [some (.inr (.inr R)), some (.inl a1), some (.inl a2), some (.inl a3), some (.inl a4), some (.inl a5), some (.inl a6), some (.inl a7), none, none, none, none, none, none] _ _ _
  unfold gM_paid
  refine zq_6_0 ?_
  refine zq_4_1 ?_
  refine zq_92_2i (zR_is hw) rfl rfl (gM_isThing_ok (E := E) hw _ _ _) fun v1 s2 => ?_
  refine zq_40 ?_ ?_
  · refine zq_1 ?_
    exact zq_95 rfl
  refine zq_4_2 ?_
  refine zq_1 ?_
  refine zq_1 ?_
  refine zq_90_3i rfl rfl (gM_in_ok (E := E) hw _ _ _ _ _) fun v3 s4 => ?_
  refine zq_40 ?_ ?_
  · refine zq_1 ?_
    exact zq_95 rfl
  refine zq_4_7 ?_
  refine zq_1 ?_
  refine zq_1 ?_
  refine zq_90_3i rfl rfl (gM_in_ok (E := E) hw _ _ _ _ _) fun v5 s6 => ?_
  refine zq_41 ?_ ?_
  · refine zq_57 ?_
    refine zq_1 ?_
    exact zq_95 rfl
  · refine zq_6_0 ?_
    refine zq_4_1 ?_
    refine zq_92_2i (zR_is hw) rfl rfl (gM_isMusic_ok (E := E) hw _ _ _) fun v7 s8 => ?_
    refine zq_41 ?_ ?_
    · refine zq_1 ?_
      exact zq_95 rfl
    · refine zq_4_3 ?_
      refine zq_90_1i rfl rfl (gM_isDay_ok (E := E) hw _ _ _) fun v9 s10 => ?_
      refine zq_40 ?_ ?_
      · refine zq_1 ?_
        exact zq_95 rfl
      refine zq_4_4 ?_
      refine zq_1 ?_
      refine zq_1 ?_
      refine zq_90_3i rfl rfl (gM_in_ok (E := E) hw _ _ _ _ _) fun v11 s12 => ?_
      refine zq_40 ?_ ?_
      · refine zq_1 ?_
        exact zq_95 rfl
      refine zq_4_5 ?_
      refine zq_1 ?_
      refine zq_1 ?_
      refine zq_90_3i rfl rfl (gM_in_ok (E := E) hw _ _ _ _ _) fun v13 s14 => ?_
      refine zq_40 ?_ ?_
      · refine zq_1 ?_
        exact zq_95 rfl
      refine zq_4_6 ?_
      refine zq_1 ?_
      refine zq_1 ?_
      refine zq_90_3i rfl rfl (gM_in_ok (E := E) hw _ _ _ _ _) fun v15 s16 => ?_
      refine zq_41 ?_ ?_
      · refine zq_57 ?_
        refine zq_1 ?_
        exact zq_95 rfl
      · refine zE_jn (fun q28 => ∀ (y0 : Int) (y1 : Int) (y2 : Int) (y3 : Int) (y4 : Int) (y5 : Int) (y6 : Int) (y7 : Int) (y8 : Int) (y9 : Int) (s : zSg), zE (zov R h0) Ji E (d + 4) 267 (zB 267 7) ([some (.inr (.inr R)), some (.inl y0), some (.inl y1), some (.inl y2), some (.inl y3), some (.inl y4), some (.inl y5), some (.inl y6), some (.inl y7), some (.inl y8), none, none, none, none]) ([.inl y9]) s (q28 y0 y1 y2 y3 y4 y5 y6 y7 y8 y9 s)) (fun x17 x18 x19 x20 x21 x22 x23 x24 x25 x26 s27 => ?_) (fun q28 hq28 => ?_)
        · refine zE_jn (fun q41 => ∀ (y0 : Int) (y1 : Int) (y2 : Int) (y3 : Int) (y4 : Int) (y5 : Int) (y6 : Int) (y7 : Int) (y8 : Int) (y9 : Int) (y10 : Int) (s : zSg), zE (zov R h0) Ji E (d + 4) 267 (zB 267 9) ([some (.inr (.inr R)), some (.inl y0), some (.inl y1), some (.inl y2), some (.inl y3), some (.inl y4), some (.inl y5), some (.inl y6), some (.inl y7), some (.inl y8), some (.inl y9), none, none, none]) ([.inl y10]) s (q41 y0 y1 y2 y3 y4 y5 y6 y7 y8 y9 y10 s)) (fun x29 x30 x31 x32 x33 x34 x35 x36 x37 x38 x39 s40 => ?_) (fun q41 hq41 => ?_)
          · refine zE_jn (fun q54 => ∀ (y0 : Int) (y1 : Int) (y2 : Int) (y3 : Int) (y4 : Int) (y5 : Int) (y6 : Int) (y7 : Int) (y8 : Int) (y9 : Int) (y10 : Int) (s : zSg), zE (zov R h0) Ji E (d + 4) 267 (zB 267 11) ([some (.inr (.inr R)), some (.inl y0), some (.inl y1), some (.inl y2), some (.inl y3), some (.inl y4), some (.inl y5), some (.inl y6), some (.inl y7), none, some (.inl y8), some (.inl y9), none, none]) ([.inl y10]) s (q54 y0 y1 y2 y3 y4 y5 y6 y7 y8 y9 y10 s)) (fun x42 x43 x44 x45 x46 x47 x48 x49 x50 x51 x52 s53 => ?_) (fun q54 hq54 => ?_)
            · refine zE_jn (fun q60 => ∀ (y0 : Int) (y1 : Int) (y2 : Int) (y3 : Int) (s : zSg), zE (zov R h0) Ji E (d + 4) 267 (zB 267 13) ([none, none, none, none, none, some (.inl y0), none, some (.inl y1), none, none, none, none, some (.inl y2), none]) ([.inl y3]) s (q60 y0 y1 y2 y3 s)) (fun x55 x56 x57 x58 s59 => ?_) (fun q60 hq60 => ?_)
              · refine zq_7_13 rfl ?_
                refine zq_4_7 ?_
                refine zq_41 ?_ ?_
                · refine zq_4_12 ?_
                  refine zq_56 ?_
                  exact zq_95 rfl
                · refine zq_4_7 ?_
                  refine zq_1 ?_
                  refine zq_47 ?_ ?_
                  · refine zq_4_13 ?_
                    refine zq_56 ?_
                    exact zq_95 rfl
                  · refine zq_4_5 ?_
                    refine zq_4_12 ?_
                    refine zq_12 ?_
                    refine zq_4_13 ?_
                    refine zq_12 ?_
                    refine zq_57 ?_
                    exact zq_95 rfl
              refine zE_jn (fun q65 => ∀ (y0 : Int) (y1 : Int) (y2 : Int) (s : zSg), zE (zov R h0) Ji E (d + 4) 267 (zB 267 12) ([none, none, none, none, none, some (.inl y0), none, some (.inl y1), none, none, none, none, some (.inl y2), none]) ([]) s (q65 y0 y1 y2 s)) (fun x61 x62 x63 s64 => ?_) (fun q65 hq65 => ?_)
              · refine zq_1 ?_
                refine zq_57 ?_
                exact zE_w [false, false, false, false, false, true, false, true, false, false, false, false, true, false] (hq60 _ _ _ _ _)
              refine zq_7_12 rfl ?_
              refine zq_4_11 ?_
              refine zq_40 ?_ ?_
              · exact zE_w [false, false, false, false, false, true, false, true, false, false, false, false, true, false] (hq65 _ _ _ _)
              refine zq_6_0 ?_
              refine zq_6_0 ?_
              refine zr_61 hw rfl ?_
              refine zq_4_1 ?_
              refine zr_65 hw rfl rfl rfl ?_
              refine zq_4_2 ?_
              refine zq_4_3 ?_
              refine zq_92_4i (zR_is hw) rfl rfl (gM_hasRight_ok (E := E) hw _ _ _ _ _) fun v67 s68 => ?_
              refine zq_40 ?_ ?_
              · exact zE_w [false, false, false, false, false, true, false, true, false, false, false, false, true, false] (hq65 _ _ _ _)
              refine zq_6_0 ?_
              refine zq_4_8 ?_
              refine zq_1 ?_
              refine zq_4_4 ?_
              refine zq_1 ?_
              refine zq_4_10 ?_
              refine zq_4_6 ?_
              refine zq_4_5 ?_
              refine zq_4_5 ?_
              refine zq_4_12 ?_
              refine zq_12 ?_
              refine zq_92_9i (zR_is hw) rfl rfl (gM_gets_ok (E := E) hw _ _ _ _ _ _ _ _ _ _) fun v69 s70 => ?_
              refine zq_56 ?_
              exact zE_w [false, false, false, false, false, true, false, true, false, false, false, false, true, false] (hq60 _ _ _ _ _)
            refine zq_7_11 rfl ?_
            refine zq_6_0 ?_
            refine zq_4_9 ?_
            refine zq_4_2 ?_
            refine zq_4_3 ?_
            refine zq_92_4i (zR_is hw) rfl rfl (gM_hasRight_ok (E := E) hw _ _ _ _ _) fun v71 s72 => ?_
            refine zq_40 ?_ ?_
            · refine zq_1 ?_
              refine zq_57 ?_
              exact zE_w [true, true, true, true, true, true, true, true, true, false, true, true, false, false] (hq54 _ _ _ _ _ _ _ _ _ _ _ _)
            refine zq_6_0 ?_
            refine zq_4_8 ?_
            refine zq_1 ?_
            refine zq_4_4 ?_
            refine zq_4_11 ?_
            refine zq_4_10 ?_
            refine zq_4_6 ?_
            refine zq_4_5 ?_
            refine zq_4_5 ?_
            refine zq_92_9i (zR_is hw) rfl rfl (gM_gets_ok (E := E) hw _ _ _ _ _ _ _ _ _ _) fun v73 s74 => ?_
            refine zq_56 ?_
            exact zE_w [true, true, true, true, true, true, true, true, true, false, true, true, false, false] (hq54 _ _ _ _ _ _ _ _ _ _ _ _)
          refine zq_7_10 rfl ?_
          refine zq_6_0 ?_
          refine zr_61 hw rfl ?_
          refine zq_4_1 ?_
          refine zr_65 hw rfl rfl rfl ?_
          refine zq_1 ?_
          refine zq_47 ?_ ?_
          · refine zq_1 ?_
            refine zq_56 ?_
            exact zE_w [true, true, true, true, true, true, true, true, true, true, true, false, false, false] (hq41 _ _ _ _ _ _ _ _ _ _ _ _)
          · refine zq_1 ?_
            refine zq_57 ?_
            exact zE_w [true, true, true, true, true, true, true, true, true, true, true, false, false, false] (hq41 _ _ _ _ _ _ _ _ _ _ _ _)
        refine zq_6_0 ?_
        refine zq_4_2 ?_
        refine zq_4_3 ?_
        refine zq_92_3i (zR_is hw) rfl rfl (gM_contractOf_ok (E := E) hw _ _ _ _) fun v76 s77 => ?_
        refine zq_7_8 rfl ?_
        refine zq_6_0 ?_
        refine zr_61 hw rfl ?_
        refine zq_6_0 ?_
        refine zr_61 hw rfl ?_
        refine zq_4_1 ?_
        refine zr_65 hw rfl rfl rfl ?_
        refine zr_65 hw rfl rfl rfl ?_
        refine zq_7_9 rfl ?_
        refine zq_6_0 ?_
        refine zq_4_9 ?_
        refine zq_4_3 ?_
        refine zq_92_3i (zR_is hw) rfl rfl (gM_isAlive_ok (E := E) hw _ _ _ _) fun v80 s81 => ?_
        refine zq_40 ?_ ?_
        · refine zq_4_3 ?_
          refine zq_6_0 ?_
          refine zr_61 hw rfl ?_
          refine zq_4_9 ?_
          refine zr_65 hw rfl rfl rfl ?_
          refine zq_12 ?_
          refine zq_1 ?_
          refine zq_14c (by decide) ?_
          refine zq_57 ?_
          exact zE_w [true, true, true, true, true, true, true, true, true, true, false, false, false, false] (hq28 _ _ _ _ _ _ _ _ _ _ _)
        refine zq_1 ?_
        refine zq_56 ?_
        exact zE_w [true, true, true, true, true, true, true, true, true, true, false, false, false, false] (hq28 _ _ _ _ _ _ _ _ _ _ _)
/-! 268: EngraversHouseModel.isTown:(I)Z -/
noncomputable def gM_isTown (a0 : Int) (s : zSg) : Option (Int × zSg) :=
  ybd (gM_in a0 0 5 s) fun v1 s2 =>
  yrb v1 s2
theorem gM_isTown_ok {E : Nat → Nat} {R : Nat} {h0 : zHp} (hw : zRg R h0) (d : Nat) (a0 : Int) (s : zSg) : zE (zov R h0) Ji E (d + 1) 268 (zB 268 0) (zent 1 [.inl a0]) [] s (gM_isTown a0 s) := by
  show zE _ _ _ _ _ _ [some (.inl a0)] _ _ _
  unfold gM_isTown
  refine zq_4_0 ?_
  refine zq_1 ?_
  refine zq_1 ?_
  refine zq_90_3i rfl rfl (gM_in_ok (E := E) hw _ _ _ _ _) fun v1 s2 => ?_
  exact zq_96
/-! 269: EngraversHouseModel.set:(I)I -/
noncomputable def gM_set (a1 : Int) (s : zSg) : Option (Int × zSg) :=
  ybd (gM_isThing a1 s) fun v1 s2 =>
  if v1 = 0 then
    (some ((-1), s2))
  else
    (ybd (gM_isPart a1 s2) fun v3 s4 =>
    if v3 = 0 then
      (some ((-12), s4))
    else
      (if (s4 0 2) = 60 then
        (some ((-4), s4))
      else
        (yrd 60 4 a1 s4 fun v5 =>
        yrd 60 5 a1 s4 fun v6 =>
        yrd 60 6 a1 s4 fun v7 =>
        ybd (gM_add 5 v5 v6 v7 s4) fun v8 s9 =>
        some (v8, s9))))
theorem gM_set_ok {E : Nat → Nat} {R : Nat} {h0 : zHp} (hw : zRg R h0) (d : Nat) (a1 : Int) (s : zSg) : zE (zov R h0) Ji E (d + 2) 269 (zB 269 0) (zent 2 [.inr (.inr R), .inl a1]) [] s (gM_set a1 s) := by
  show zE _ _ _ _ _ _ [some (.inr (.inr R)), some (.inl a1)] _ _ _
  unfold gM_set
  refine zq_6_0 ?_
  refine zq_4_1 ?_
  refine zq_92_2i (zR_is hw) rfl rfl (gM_isThing_ok (E := E) hw _ _ _) fun v1 s2 => ?_
  refine zq_41 ?_ ?_
  · refine zq_1 ?_
    exact zq_95 rfl
  · refine zq_6_0 ?_
    refine zq_4_1 ?_
    refine zq_92_2i (zR_is hw) rfl rfl (gM_isPart_ok (E := E) hw _ _ _) fun v3 s4 => ?_
    refine zq_41 ?_ ?_
    · refine zq_1 ?_
      exact zq_95 rfl
    · refine zq_6_0 ?_
      refine zr_60 hw rfl ?_
      refine zq_1 ?_
      refine zq_47 ?_ ?_
      · refine zq_1 ?_
        exact zq_95 rfl
      · refine zq_6_0 ?_
        refine zq_1 ?_
        refine zq_6_0 ?_
        refine zr_61 hw rfl ?_
        refine zq_4_1 ?_
        refine zr_65 hw rfl rfl rfl ?_
        refine zq_6_0 ?_
        refine zr_61 hw rfl ?_
        refine zq_4_1 ?_
        refine zr_65 hw rfl rfl rfl ?_
        refine zq_6_0 ?_
        refine zr_61 hw rfl ?_
        refine zq_4_1 ?_
        refine zr_65 hw rfl rfl rfl ?_
        refine zq_92_5i (zR_is hw) rfl rfl (gM_add_ok (E := E) hw _ _ _ _ _ _) fun v8 s9 => ?_
        exact zq_95 rfl
/-! 270: EngraversHouseModel.stands:(II)I -/
noncomputable def gM_stands (a1 : Int) (a2 : Int) (s : zSg) : Option (Int × zSg) :=
  ybd (gM_isThing a1 s) fun v1 s2 =>
  if v1 = 0 then
    (some ((-1), s2))
  else
  ybd (gM_isTown a2 s2) fun v3 s4 =>
  if v3 = 0 then
    (some ((-1), s4))
  else
    (yrd 60 3 a1 s4 fun v5 =>
    if v5 = 5 then
      (yrd 60 64 a1 s4 fun v6 =>
      ywi 60 64 a1 a2 s4 fun s7 =>
      some (v6, s7))
    else
    some ((-12), s4))
theorem gM_stands_ok {E : Nat → Nat} {R : Nat} {h0 : zHp} (hw : zRg R h0) (d : Nat) (a1 : Int) (a2 : Int) (s : zSg) : zE (zov R h0) Ji E (d + 2) 270 (zB 270 0) (zent 4 [.inr (.inr R), .inl a1, .inl a2]) [] s (gM_stands a1 a2 s) := by
  show zE _ _ _ _ _ _ [some (.inr (.inr R)), some (.inl a1), some (.inl a2), none] _ _ _
  unfold gM_stands
  refine zq_6_0 ?_
  refine zq_4_1 ?_
  refine zq_92_2i (zR_is hw) rfl rfl (gM_isThing_ok (E := E) hw _ _ _) fun v1 s2 => ?_
  refine zq_40 ?_ ?_
  · refine zq_1 ?_
    exact zq_95 rfl
  refine zq_4_2 ?_
  refine zq_90_1i rfl rfl (gM_isTown_ok (E := E) hw _ _ _) fun v3 s4 => ?_
  refine zq_41 ?_ ?_
  · refine zq_57 ?_
    refine zq_1 ?_
    exact zq_95 rfl
  · refine zq_6_0 ?_
    refine zr_61 hw rfl ?_
    refine zq_4_1 ?_
    refine zr_65 hw rfl rfl rfl ?_
    refine zq_1 ?_
    refine zq_46 ?_ ?_
    · refine zq_6_0 ?_
      refine zr_61 hw rfl ?_
      refine zq_4_1 ?_
      refine zr_65 hw rfl rfl rfl ?_
      refine zq_7_3 rfl ?_
      refine zq_6_0 ?_
      refine zr_61 hw rfl ?_
      refine zq_4_1 ?_
      refine zq_4_2 ?_
      refine zr_68 hw rfl rfl rfl ?_
      refine zq_4_3 ?_
      exact zq_95 rfl
    refine zq_1 ?_
    exact zq_95 rfl
/-! 271: EngraversHouseModel.way:(III)I -/
noncomputable def gM_way (a1 : Int) (a2 : Int) (a3 : Int) (s : zSg) : Option (Int × zSg) :=
  ybd (gM_isTown a1 s) fun v1 s2 =>
  if v1 = 0 then
    (some ((-1), s2))
  else
  ybd (gM_isTown a2 s2) fun v3 s4 =>
  if v3 = 0 then
    (some ((-1), s4))
  else
    (if a1 = a2 then
      (some ((-2), s4))
    else
    ybd (gM_in a3 0 99 s4) fun v5 s6 =>
    if v5 = 0 then
      (some ((-2), s6))
    else
      (yrd 36 63 (zadd (zmul 6 a1) a2) s6 fun v7 =>
      ywi 36 63 (zadd (zmul 6 a1) a2) a3 s6 fun s8 =>
      ywi 36 63 (zadd (zmul 6 a2) a1) a3 s8 fun s9 =>
      some (v7, s9)))
theorem gM_way_ok {E : Nat → Nat} {R : Nat} {h0 : zHp} (hw : zRg R h0) (d : Nat) (a1 : Int) (a2 : Int) (a3 : Int) (s : zSg) : zE (zov R h0) Ji E (d + 2) 271 (zB 271 0) (zent 5 [.inr (.inr R), .inl a1, .inl a2, .inl a3]) [] s (gM_way a1 a2 a3 s) := by
  show zE _ _ _ _ _ _ [some (.inr (.inr R)), some (.inl a1), some (.inl a2), some (.inl a3), none] _ _ _
  unfold gM_way
  refine zq_4_1 ?_
  refine zq_90_1i rfl rfl (gM_isTown_ok (E := E) hw _ _ _) fun v1 s2 => ?_
  refine zq_40 ?_ ?_
  · refine zq_1 ?_
    exact zq_95 rfl
  refine zq_4_2 ?_
  refine zq_90_1i rfl rfl (gM_isTown_ok (E := E) hw _ _ _) fun v3 s4 => ?_
  refine zq_41 ?_ ?_
  · refine zq_57 ?_
    refine zq_1 ?_
    exact zq_95 rfl
  · refine zq_4_1 ?_
    refine zq_4_2 ?_
    refine zq_46 ?_ ?_
    · refine zq_1 ?_
      exact zq_95 rfl
    refine zq_4_3 ?_
    refine zq_1 ?_
    refine zq_1 ?_
    refine zq_90_3i rfl rfl (gM_in_ok (E := E) hw _ _ _ _ _) fun v5 s6 => ?_
    refine zq_41 ?_ ?_
    · refine zq_57 ?_
      refine zq_1 ?_
      exact zq_95 rfl
    · refine zq_6_0 ?_
      refine zr_61 hw rfl ?_
      refine zq_1 ?_
      refine zq_4_1 ?_
      refine zq_13 ?_
      refine zq_4_2 ?_
      refine zq_11 ?_
      refine zr_65 hw rfl rfl rfl ?_
      refine zq_7_4 rfl ?_
      refine zq_6_0 ?_
      refine zr_61 hw rfl ?_
      refine zq_1 ?_
      refine zq_4_1 ?_
      refine zq_13 ?_
      refine zq_4_2 ?_
      refine zq_11 ?_
      refine zq_4_3 ?_
      refine zr_68 hw rfl rfl rfl ?_
      refine zq_6_0 ?_
      refine zr_61 hw rfl ?_
      refine zq_1 ?_
      refine zq_4_2 ?_
      refine zq_13 ?_
      refine zq_4_1 ?_
      refine zq_11 ?_
      refine zq_4_3 ?_
      refine zr_68 hw rfl rfl rfl ?_
      refine zq_4_4 ?_
      exact zq_95 rfl
/-! 272: EngraversHouseModel.ask:(IIII)I -/
noncomputable def gM_ask (a1 : Int) (a2 : Int) (a3 : Int) (a4 : Int) (s : zSg) : Option (Int × zSg) :=
  ybd (gM_isTown a1 s) fun v1 s2 =>
  if v1 = 0 then
    (some ((-1), s2))
  else
    (ybd (gM_isDay a2 s2) fun v3 s4 =>
    if v3 = 0 then
      (some ((-2), s4))
    else
    ybd (gM_in a3 a2 9999 s4) fun v5 s6 =>
    if v5 = 0 then
      (some ((-2), s6))
    else
    ybd (gM_in a4 0 999 s6) fun v7 s8 =>
    if v7 = 0 then
      (some ((-2), s8))
    else
      (if (s8 0 65) = 9 then
        (some ((-4), s8))
      else
        (ywi 9 66 (s8 0 65) a1 s8 fun s9 =>
        ywi 9 67 (s9 0 65) a2 s9 fun s10 =>
        ywi 9 68 (s10 0 65) a3 s10 fun s11 =>
        ywi 9 69 (s11 0 65) a4 s11 fun s12 =>
        yvl (zup s12 0 65 (zadd (s12 0 65) 1)) fun s13 =>
        some (zsub (s13 0 65) 1, s13))))
theorem gM_ask_ok {E : Nat → Nat} {R : Nat} {h0 : zHp} (hw : zRg R h0) (d : Nat) (a1 : Int) (a2 : Int) (a3 : Int) (a4 : Int) (s : zSg) : zE (zov R h0) Ji E (d + 2) 272 (zB 272 0) (zent 5 [.inr (.inr R), .inl a1, .inl a2, .inl a3, .inl a4]) [] s (gM_ask a1 a2 a3 a4 s) := by
  show zE _ _ _ _ _ _ [some (.inr (.inr R)), some (.inl a1), some (.inl a2), some (.inl a3), some (.inl a4)] _ _ _
  unfold gM_ask
  refine zq_4_1 ?_
  refine zq_90_1i rfl rfl (gM_isTown_ok (E := E) hw _ _ _) fun v1 s2 => ?_
  refine zq_41 ?_ ?_
  · refine zq_1 ?_
    exact zq_95 rfl
  · refine zq_4_2 ?_
    refine zq_90_1i rfl rfl (gM_isDay_ok (E := E) hw _ _ _) fun v3 s4 => ?_
    refine zq_40 ?_ ?_
    · refine zq_1 ?_
      exact zq_95 rfl
    refine zq_4_3 ?_
    refine zq_4_2 ?_
    refine zq_1 ?_
    refine zq_90_3i rfl rfl (gM_in_ok (E := E) hw _ _ _ _ _) fun v5 s6 => ?_
    refine zq_40 ?_ ?_
    · refine zq_1 ?_
      exact zq_95 rfl
    refine zq_4_4 ?_
    refine zq_1 ?_
    refine zq_1 ?_
    refine zq_90_3i rfl rfl (gM_in_ok (E := E) hw _ _ _ _ _) fun v7 s8 => ?_
    refine zq_41 ?_ ?_
    · refine zq_57 ?_
      refine zq_1 ?_
      exact zq_95 rfl
    · refine zq_6_0 ?_
      refine zr_60 hw rfl ?_
      refine zq_1 ?_
      refine zq_47 ?_ ?_
      · refine zq_1 ?_
        exact zq_95 rfl
      · refine zq_6_0 ?_
        refine zr_61 hw rfl ?_
        refine zq_6_0 ?_
        refine zr_60 hw rfl ?_
        refine zq_4_1 ?_
        refine zr_68 hw rfl rfl rfl ?_
        refine zq_6_0 ?_
        refine zr_61 hw rfl ?_
        refine zq_6_0 ?_
        refine zr_60 hw rfl ?_
        refine zq_4_2 ?_
        refine zr_68 hw rfl rfl rfl ?_
        refine zq_6_0 ?_
        refine zr_61 hw rfl ?_
        refine zq_6_0 ?_
        refine zr_60 hw rfl ?_
        refine zq_4_3 ?_
        refine zr_68 hw rfl rfl rfl ?_
        refine zq_6_0 ?_
        refine zr_61 hw rfl ?_
        refine zq_6_0 ?_
        refine zr_60 hw rfl ?_
        refine zq_4_4 ?_
        refine zr_68 hw rfl rfl rfl ?_
        refine zq_6_0 ?_
        refine zq_33 ?_
        refine zr_60 hw rfl ?_
        refine zq_1 ?_
        refine zq_11 ?_
        refine zE_vl ?_
        refine zr_62 hw rfl ?_
        refine zq_6_0 ?_
        refine zr_60 hw rfl ?_
        refine zq_1 ?_
        refine zq_12 ?_
        exact zq_95 rfl
/-! 273: EngraversHouseModel.askless:()I -/
noncomputable def gM_askless (s : zSg) : Option (Int × zSg) :=
  yvl (s 0 65) fun v1 =>
  yvl (zup s 0 65 0) fun s2 =>
  some (v1, s2)
theorem gM_askless_ok {E : Nat → Nat} {R : Nat} {h0 : zHp} (hw : zRg R h0) (d : Nat) (s : zSg) : zE (zov R h0) Ji E (d + 0) 273 (zB 273 0) (zent 2 [.inr (.inr R)]) [] s (gM_askless s) := by
  show zE _ _ _ _ _ _ [some (.inr (.inr R)), none] _ _ _
  unfold gM_askless
  refine zq_6_0 ?_
  refine zr_60 hw rfl ?_
  refine zE_vl ?_
  refine zq_7_1 rfl ?_
  refine zq_6_0 ?_
  refine zq_1 ?_
  refine zE_vl ?_
  refine zr_62 hw rfl ?_
  refine zq_4_1 ?_
  exact zq_95 rfl
/-! 274: EngraversHouseModel.serves:(II)Z -/
noncomputable def gM_serves_l2 : Nat → Int → Int → Int → Int → Int → zSg → (Int → Int → Int → Int → zSg → Option (Int × zSg)) → Option (Int × zSg)
  | 0, _, _, _, _, _, _, _ => none
  | n + 1, x6, x7, x8, x9, x10, s11, k12 =>
   yjn (fun (x13 : Int) (x14 : Int) (x15 : Int) (x16 : Int) (x17 : Int) (s18 : zSg) =>
    yvl (zadd x17 1) fun v20 =>
    gM_serves_l2 n x13 x14 x15 x16 v20 s18 k12) fun q19 =>
    yjn (fun (x21 : Int) (x22 : Int) (x23 : Int) (x24 : Int) (s25 : zSg) =>
    q19 x21 x22 x23 x24 x24 s25) fun q26 =>
    if x10 < (s11 0 65) then
     (if (zand (zshr x8 x10) 1) = 1 then
       (if x9 < 0 then
         (q26 x6 x7 x8 x10 s11)
       else
       yrd 9 67 x10 s11 fun v27 =>
       yrd 9 67 x9 s11 fun v28 =>
       if v27 < v28 then
         (q26 x6 x7 x8 x10 s11)
       else
         (q19 x6 x7 x8 x9 x10 s11))
     else
       (q19 x6 x7 x8 x9 x10 s11))
   else
     (k12 x6 x7 x8 x9 s11)
theorem gM_serves_l2_ok {E : Nat → Nat} {R : Nat} {h0 : zHp} (hw : zRg R h0) (d : Nat) : ∀ (n : Nat) (x6 : Int) (x7 : Int) (x8 : Int) (x9 : Int) (x10 : Int) (s11 : zSg) (k12 : Int → Int → Int → Int → zSg → Option (Int × zSg)) (hk12 : ∀ (y0 : Int) (y1 : Int) (y2 : Int) (y3 : Int) (s : zSg), zE (zov R h0) Ji E (d + 0) 274 (zB 274 5) ([some (.inr (.inr R)), none, none, some (.inl y0), some (.inl y1), some (.inl y2), some (.inl y3), none]) ([]) s (k12 y0 y1 y2 y3 s)), zE (zov R h0) Ji E (d + 0) 274 (zB 274 2) ([some (.inr (.inr R)), none, none, some (.inl x6), some (.inl x7), some (.inl x8), some (.inl x9), some (.inl x10)]) ([]) s11 (gM_serves_l2 n x6 x7 x8 x9 x10 s11 k12) := by
  intro n
  induction n with
  | zero => intro x6 x7 x8 x9 x10 s11 k12 hk12; exact zE_none
  | succ n ih =>
    intro x6 x7 x8 x9 x10 s11 k12 hk12
    unfold gM_serves_l2
    refine zE_jn (fun q19 => ∀ (y0 : Int) (y1 : Int) (y2 : Int) (y3 : Int) (y4 : Int) (s : zSg), zE (zov R h0) Ji E (d + 0) 274 (zB 274 4) ([some (.inr (.inr R)), none, none, some (.inl y0), some (.inl y1), some (.inl y2), some (.inl y3), some (.inl y4)]) ([]) s (q19 y0 y1 y2 y3 y4 s)) (fun x13 x14 x15 x16 x17 s18 => ?_) (fun q19 hq19 => ?_)
    · refine zE_vl ?_
      refine zq_10_7 rfl ?_
      refine zq_56 ?_
      exact zE_w [true, false, false, true, true, true, true, true] (ih _ _ _ _ _ _ _ hk12)
    refine zE_jn (fun q26 => ∀ (y0 : Int) (y1 : Int) (y2 : Int) (y3 : Int) (s : zSg), zE (zov R h0) Ji E (d + 0) 274 (zB 274 3) ([some (.inr (.inr R)), none, none, some (.inl y0), some (.inl y1), some (.inl y2), none, some (.inl y3)]) ([]) s (q26 y0 y1 y2 y3 s)) (fun x21 x22 x23 x24 s25 => ?_) (fun q26 hq26 => ?_)
    · refine zq_4_7 ?_
      refine zq_7_6 rfl ?_
      refine zq_57 ?_
      exact zE_w [true, false, false, true, true, true, true, true] (hq19 _ _ _ _ _ _)
    refine zq_4_7 ?_
    refine zq_6_0 ?_
    refine zr_60 hw rfl ?_
    refine zq_49 ?_ ?_
    · refine zq_4_5 ?_
      refine zq_4_7 ?_
      refine zq_18 ?_
      refine zq_1 ?_
      refine zq_20 ?_
      refine zq_1 ?_
      refine zq_47 ?_ ?_
      · refine zq_4_6 ?_
        refine zq_42 ?_ ?_
        · exact zE_w [true, false, false, true, true, true, false, true] (hq26 _ _ _ _ _)
        refine zq_6_0 ?_
        refine zr_61 hw rfl ?_
        refine zq_4_7 ?_
        refine zr_65 hw rfl rfl rfl ?_
        refine zq_6_0 ?_
        refine zr_61 hw rfl ?_
        refine zq_4_6 ?_
        refine zr_65 hw rfl rfl rfl ?_
        refine zq_49 ?_ ?_
        · refine zq_57 ?_
          exact zE_w [true, false, false, true, true, true, false, true] (hq26 _ _ _ _ _)
        · exact zE_w [true, false, false, true, true, true, true, true] (hq19 _ _ _ _ _ _)
      · exact zE_w [true, false, false, true, true, true, true, true] (hq19 _ _ _ _ _ _)
    · exact zE_w [true, false, false, true, true, true, true, false] (hk12 _ _ _ _ _)
noncomputable def gM_serves_l1 : Nat → Int → Int → Int → zSg → Option (Int × zSg)
  | 0, _, _, _, _ => none
  | n + 1, x2, x3, x4, s5 =>
   if x4 = 0 then
     (some (1, s5))
   else
   gM_serves_l2 zFU x2 x3 x4 (-1) 0 s5 (fun (x29 : Int) (x30 : Int) (x31 : Int) (x32 : Int) (s33 : zSg) =>
    yrd 9 66 x32 s33 fun v34 =>
    yrd 36 63 (zadd (zmul 6 x29) v34) s33 fun v35 =>
    yrd 9 67 x32 s33 fun v36 =>
    if v36 < (zadd x30 v35) then
      (some (0, s33))
    else
      (yrd 9 66 x32 s33 fun v37 =>
      yrd 9 68 x32 s33 fun v38 =>
      yvl (zadd v38 1) fun v39 =>
      yvl (zand x31 (zxor (zshl 1 x32) (-1))) fun v40 =>
      gM_serves_l1 n v37 v39 v40 s33))
theorem gM_serves_l1_ok {E : Nat → Nat} {R : Nat} {h0 : zHp} (hw : zRg R h0) (d : Nat) : ∀ (n : Nat) (x2 : Int) (x3 : Int) (x4 : Int) (s5 : zSg), zE (zov R h0) Ji E (d + 0) 274 (zB 274 1) ([some (.inr (.inr R)), none, none, some (.inl x2), some (.inl x3), some (.inl x4), none, none]) ([]) s5 (gM_serves_l1 n x2 x3 x4 s5) := by
  intro n
  induction n with
  | zero => intro x2 x3 x4 s5; exact zE_none
  | succ n ih =>
    intro x2 x3 x4 s5
    unfold gM_serves_l1
    refine zq_4_5 ?_
    refine zq_40 ?_ ?_
    · refine zq_1 ?_
      exact zq_96c (by decide)
    refine zq_1 ?_
    refine zq_7_6 rfl ?_
    refine zq_1 ?_
    refine zq_7_7 rfl ?_
    refine zq_57 ?_
    refine zE_w [true, false, false, true, true, true, true, true] (gM_serves_l2_ok (E := E) hw d zFU _ _ _ _ _ _ _ (fun x29 x30 x31 x32 s33 => ?_))
    refine zq_4_4 ?_
    refine zq_6_0 ?_
    refine zr_61 hw rfl ?_
    refine zq_1 ?_
    refine zq_4_3 ?_
    refine zq_13 ?_
    refine zq_6_0 ?_
    refine zr_61 hw rfl ?_
    refine zq_4_6 ?_
    refine zr_65 hw rfl rfl rfl ?_
    refine zq_11 ?_
    refine zr_65 hw rfl rfl rfl ?_
    refine zq_11 ?_
    refine zq_6_0 ?_
    refine zr_61 hw rfl ?_
    refine zq_4_6 ?_
    refine zr_65 hw rfl rfl rfl ?_
    refine zq_51 ?_ ?_
    · refine zq_1 ?_
      exact zq_96c (by decide)
    · refine zq_6_0 ?_
      refine zr_61 hw rfl ?_
      refine zq_4_6 ?_
      refine zr_65 hw rfl rfl rfl ?_
      refine zq_7_3 rfl ?_
      refine zq_6_0 ?_
      refine zr_61 hw rfl ?_
      refine zq_4_6 ?_
      refine zr_65 hw rfl rfl rfl ?_
      refine zq_1 ?_
      refine zq_11 ?_
      refine zE_vl ?_
      refine zq_7_4 rfl ?_
      refine zq_4_5 ?_
      refine zq_1 ?_
      refine zq_4_6 ?_
      refine zq_17 ?_
      refine zq_1 ?_
      refine zq_22 ?_
      refine zq_20 ?_
      refine zE_vl ?_
      refine zq_7_5 rfl ?_
      refine zq_56 ?_
      exact zE_w [true, false, false, true, true, true, false, false] (ih _ _ _ _)
noncomputable def gM_serves (a1 : Int) (a2 : Int) (s : zSg) : Option (Int × zSg) :=
  yvl (s 0 1) fun v1 =>
  gM_serves_l1 zFU a1 v1 a2 s
theorem gM_serves_ok {E : Nat → Nat} {R : Nat} {h0 : zHp} (hw : zRg R h0) (d : Nat) (a1 : Int) (a2 : Int) (s : zSg) : zE (zov R h0) Ji E (d + 0) 274 (zB 274 0) (zent 8 [.inr (.inr R), .inl a1, .inl a2]) [] s (gM_serves a1 a2 s) := by
  show zE _ _ _ _ _ _ [some (.inr (.inr R)), some (.inl a1), some (.inl a2), none, none, none, none, none] _ _ _
  unfold gM_serves
  refine zq_4_1 ?_
  refine zq_7_3 rfl ?_
  refine zq_6_0 ?_
  refine zr_60 hw rfl ?_
  refine zE_vl ?_
  refine zq_7_4 rfl ?_
  refine zq_4_2 ?_
  refine zq_7_5 rfl ?_
  refine zq_57 ?_
  exact zE_w [true, false, false, true, true, true, false, false] (gM_serves_l1_ok (E := E) hw d zFU _ _ _ _)
/-! 275: EngraversHouseModel.hire:(II)I -/
noncomputable def gM_hire_l5 : Nat → Int → Int → Int → Int → Int → Int → Int → zSg → (Int → Int → Int → Int → Int → Int → zSg → Option (Int × zSg)) → Option (Int × zSg)
  | 0, _, _, _, _, _, _, _, _, _ => none
  | n + 1, x13, x14, x15, x16, x17, x18, x19, s20, k21 =>
   yjn (fun (x22 : Int) (x23 : Int) (x24 : Int) (x25 : Int) (x26 : Int) (x27 : Int) (x28 : Int) (x29 : Int) (s30 : zSg) =>
    yvl (zadd x28 x29) fun v32 =>
    yvl (zadd x27 1) fun v33 =>
    gM_hire_l5 n x22 x23 x24 x25 x26 v32 v33 s30 k21) fun q31 =>
    if x19 < (s20 0 65) then
     (if (zand (zshr x17 x19) 1) = 1 then
       (yrd 9 69 x19 s20 fun v34 =>
       q31 x13 x14 x15 x16 x17 x19 x18 v34 s20)
     else
       (q31 x13 x14 x15 x16 x17 x19 x18 0 s20))
   else
     (k21 x13 x14 x15 x16 x17 x18 s20)
theorem gM_hire_l5_ok {E : Nat → Nat} {R : Nat} {h0 : zHp} (hw : zRg R h0) (d : Nat) : ∀ (n : Nat) (x13 : Int) (x14 : Int) (x15 : Int) (x16 : Int) (x17 : Int) (x18 : Int) (x19 : Int) (s20 : zSg) (k21 : Int → Int → Int → Int → Int → Int → zSg → Option (Int × zSg)) (hk21 : ∀ (y0 : Int) (y1 : Int) (y2 : Int) (y3 : Int) (y4 : Int) (y5 : Int) (s : zSg), zE (zov R h0) Ji E (d + 2) 275 (zB 275 8) ([some (.inr (.inr R)), some (.inl y0), some (.inl y1), some (.inl y2), some (.inl y3), some (.inl y4), some (.inl y5), none]) ([]) s (k21 y0 y1 y2 y3 y4 y5 s)), zE (zov R h0) Ji E (d + 2) 275 (zB 275 5) ([some (.inr (.inr R)), some (.inl x13), some (.inl x14), some (.inl x15), some (.inl x16), some (.inl x17), some (.inl x18), some (.inl x19)]) ([]) s20 (gM_hire_l5 n x13 x14 x15 x16 x17 x18 x19 s20 k21) := by
  intro n
  induction n with
  | zero => intro x13 x14 x15 x16 x17 x18 x19 s20 k21 hk21; exact zE_none
  | succ n ih =>
    intro x13 x14 x15 x16 x17 x18 x19 s20 k21 hk21
    unfold gM_hire_l5
    refine zE_jn (fun q31 => ∀ (y0 : Int) (y1 : Int) (y2 : Int) (y3 : Int) (y4 : Int) (y5 : Int) (y6 : Int) (y7 : Int) (s : zSg), zE (zov R h0) Ji E (d + 2) 275 (zB 275 7) ([some (.inr (.inr R)), some (.inl y0), some (.inl y1), some (.inl y2), some (.inl y3), some (.inl y4), none, some (.inl y5)]) ([.inl y7, .inl y6]) s (q31 y0 y1 y2 y3 y4 y5 y6 y7 s)) (fun x22 x23 x24 x25 x26 x27 x28 x29 s30 => ?_) (fun q31 hq31 => ?_)
    · refine zq_11 ?_
      refine zE_vl ?_
      refine zq_7_6 rfl ?_
      refine zE_vl ?_
      refine zq_10_7 rfl ?_
      refine zq_56 ?_
      exact zE_w [true, true, true, true, true, true, true, true] (ih _ _ _ _ _ _ _ _ _ hk21)
    refine zq_4_7 ?_
    refine zq_6_0 ?_
    refine zr_60 hw rfl ?_
    refine zq_49 ?_ ?_
    · refine zq_4_6 ?_
      refine zq_4_5 ?_
      refine zq_4_7 ?_
      refine zq_18 ?_
      refine zq_1 ?_
      refine zq_20 ?_
      refine zq_1 ?_
      refine zq_47 ?_ ?_
      · refine zq_6_0 ?_
        refine zr_61 hw rfl ?_
        refine zq_4_7 ?_
        refine zr_65 hw rfl rfl rfl ?_
        refine zq_56 ?_
        exact zE_w [true, true, true, true, true, true, false, true] (hq31 _ _ _ _ _ _ _ _ _)
      · refine zq_1 ?_
        refine zq_57 ?_
        exact zE_w [true, true, true, true, true, true, false, true] (hq31 _ _ _ _ _ _ _ _ _)
    · exact zE_w [true, true, true, true, true, true, true, false] (hk21 _ _ _ _ _ _ _)
noncomputable def gM_hire_l4 : Nat → Int → Int → Int → Int → Int → zSg → (Int → Int → Int → zSg → Option (Int × zSg)) → Option (Int × zSg)
  | 0, _, _, _, _, _, _, _ => none
  | n + 1, x6, x7, x8, x9, x10, s11, k12 =>
   if x10 < (zshl 1 (s11 0 65)) then
     (gM_hire_l5 zFU x6 x7 x8 x9 x10 0 0 s11 (fun (x35 : Int) (x36 : Int) (x37 : Int) (x38 : Int) (x39 : Int) (x40 : Int) (s41 : zSg) =>
      yjn (fun (x42 : Int) (x43 : Int) (x44 : Int) (x45 : Int) (x46 : Int) (s47 : zSg) =>
       yvl (zadd x46 1) fun v49 =>
       gM_hire_l4 n x42 x43 x44 x45 v49 s47 k12) fun q48 =>
       yjn (fun (x50 : Int) (x51 : Int) (x52 : Int) (x53 : Int) (x54 : Int) (x55 : Int) (s56 : zSg) =>
       yrd 60 64 x50 s56 fun v58 =>
       ybd (gM_serves v58 x54 s56) fun v59 s60 =>
       if v59 = 0 then
         (q48 x50 x51 x52 x53 x54 s60)
       else
         (q48 x50 x51 x54 x55 x54 s60)) fun q57 =>
       if x40 < x38 then
        (q48 x35 x36 x37 x38 x39 s41)
      else
      if x40 = x38 then
        (ybd (gM_bitsOf x39 s41) fun v61 s62 =>
        ybd (gM_bitsOf x37 s62) fun v63 s64 =>
        if v61 < v63 then
          (q57 x35 x36 x37 x38 x39 x40 s64)
        else
          (q48 x35 x36 x37 x38 x39 s64))
      else
        (q57 x35 x36 x37 x38 x39 x40 s41)))
   else
     (k12 x7 x8 x9 s11)
theorem gM_hire_l4_ok {E : Nat → Nat} {R : Nat} {h0 : zHp} (hw : zRg R h0) (d : Nat) : ∀ (n : Nat) (x6 : Int) (x7 : Int) (x8 : Int) (x9 : Int) (x10 : Int) (s11 : zSg) (k12 : Int → Int → Int → zSg → Option (Int × zSg)) (hk12 : ∀ (y0 : Int) (y1 : Int) (y2 : Int) (s : zSg), zE (zov R h0) Ji E (d + 2) 275 (zB 275 12) ([none, none, some (.inl y0), some (.inl y1), some (.inl y2), none, none, none]) ([]) s (k12 y0 y1 y2 s)), zE (zov R h0) Ji E (d + 2) 275 (zB 275 4) ([some (.inr (.inr R)), some (.inl x6), some (.inl x7), some (.inl x8), some (.inl x9), some (.inl x10), none, none]) ([]) s11 (gM_hire_l4 n x6 x7 x8 x9 x10 s11 k12) := by
  intro n
  induction n with
  | zero => intro x6 x7 x8 x9 x10 s11 k12 hk12; exact zE_none
  | succ n ih =>
    intro x6 x7 x8 x9 x10 s11 k12 hk12
    unfold gM_hire_l4
    refine zq_4_5 ?_
    refine zq_1 ?_
    refine zq_6_0 ?_
    refine zr_60 hw rfl ?_
    refine zq_17 ?_
    refine zq_49 ?_ ?_
    · refine zq_1 ?_
      refine zq_7_6 rfl ?_
      refine zq_1 ?_
      refine zq_7_7 rfl ?_
      refine zq_57 ?_
      refine zE_w [true, true, true, true, true, true, true, true] (gM_hire_l5_ok (E := E) hw d zFU _ _ _ _ _ _ _ _ _ (fun x35 x36 x37 x38 x39 x40 s41 => ?_))
      refine zE_jn (fun q48 => ∀ (y0 : Int) (y1 : Int) (y2 : Int) (y3 : Int) (y4 : Int) (s : zSg), zE (zov R h0) Ji E (d + 2) 275 (zB 275 11) ([some (.inr (.inr R)), some (.inl y0), some (.inl y1), some (.inl y2), some (.inl y3), some (.inl y4), none, none]) ([]) s (q48 y0 y1 y2 y3 y4 s)) (fun x42 x43 x44 x45 x46 s47 => ?_) (fun q48 hq48 => ?_)
      · refine zE_vl ?_
        refine zq_10_5 rfl ?_
        refine zq_56 ?_
        exact zE_w [true, true, true, true, true, true, false, false] (ih _ _ _ _ _ _ _ hk12)
      refine zE_jn (fun q57 => ∀ (y0 : Int) (y1 : Int) (y2 : Int) (y3 : Int) (y4 : Int) (y5 : Int) (s : zSg), zE (zov R h0) Ji E (d + 2) 275 (zB 275 9) ([some (.inr (.inr R)), some (.inl y0), some (.inl y1), some (.inl y2), some (.inl y3), some (.inl y4), some (.inl y5), none]) ([]) s (q57 y0 y1 y2 y3 y4 y5 s)) (fun x50 x51 x52 x53 x54 x55 s56 => ?_) (fun q57 hq57 => ?_)
      · refine zq_6_0 ?_
        refine zq_6_0 ?_
        refine zr_61 hw rfl ?_
        refine zq_4_1 ?_
        refine zr_65 hw rfl rfl rfl ?_
        refine zq_4_5 ?_
        refine zq_92_3i (zR_is hw) rfl rfl (gM_serves_ok (E := E) hw _ _ _ _) fun v59 s60 => ?_
        refine zq_41 ?_ ?_
        · refine zq_56 ?_
          exact zE_w [true, true, true, true, true, true, false, false] (hq48 _ _ _ _ _ _)
        · refine zq_4_5 ?_
          refine zq_7_3 rfl ?_
          refine zq_4_6 ?_
          refine zq_7_4 rfl ?_
          refine zq_57 ?_
          exact zE_w [true, true, true, true, true, true, false, false] (hq48 _ _ _ _ _ _)
      refine zq_4_6 ?_
      refine zq_4_4 ?_
      refine zq_48 ?_ ?_
      · exact zE_w [true, true, true, true, true, true, false, false] (hq48 _ _ _ _ _ _)
      refine zq_4_6 ?_
      refine zq_4_4 ?_
      refine zq_47 ?_ ?_
      · refine zq_4_5 ?_
        refine zq_90_1i rfl rfl (gM_bitsOf_ok (E := E) hw _ _ _) fun v61 s62 => ?_
        refine zq_4_3 ?_
        refine zq_90_1i rfl rfl (gM_bitsOf_ok (E := E) hw _ _ _) fun v63 s64 => ?_
        refine zq_49 ?_ ?_
        · refine zq_57 ?_
          exact zE_w [true, true, true, true, true, true, true, false] (hq57 _ _ _ _ _ _ _)
        · exact zE_w [true, true, true, true, true, true, false, false] (hq48 _ _ _ _ _ _)
      · exact zE_w [true, true, true, true, true, true, true, false] (hq57 _ _ _ _ _ _ _)
    · exact zE_w [false, false, true, true, true, false, false, false] (hk12 _ _ _ _)
noncomputable def gM_hire (a1 : Int) (a2 : Int) (s : zSg) : Option (Int × zSg) :=
  ybd (gM_isThing a1 s) fun v1 s2 =>
  if v1 = 0 then
    (some ((-1), s2))
  else
  ybd (gM_in a2 0 1 s2) fun v3 s4 =>
  if v3 = 0 then
    (some ((-1), s4))
  else
    (yrd 60 3 a1 s4 fun v5 =>
    if v5 = 5 then
      (gM_hire_l4 zFU a1 a2 0 0 1 s4 (fun (x65 : Int) (x66 : Int) (x67 : Int) (s68 : zSg) =>
       if x65 = 0 then
         (some (x67, s68))
       else
         (some (x66, s68))))
    else
    some ((-12), s4))
theorem gM_hire_ok {E : Nat → Nat} {R : Nat} {h0 : zHp} (hw : zRg R h0) (d : Nat) (a1 : Int) (a2 : Int) (s : zSg) : zE (zov R h0) Ji E (d + 2) 275 (zB 275 0) (zent 8 [.inr (.inr R), .inl a1, .inl a2]) [] s (gM_hire a1 a2 s) := by
  show zE _ _ _ _ _ _ [some (.inr (.inr R)), some (.inl a1), some (.inl a2), none, none, none, none, none] _ _ _
  unfold gM_hire
  refine zq_6_0 ?_
  refine zq_4_1 ?_
  refine zq_92_2i (zR_is hw) rfl rfl (gM_isThing_ok (E := E) hw _ _ _) fun v1 s2 => ?_
  refine zq_40 ?_ ?_
  · refine zq_1 ?_
    exact zq_95 rfl
  refine zq_4_2 ?_
  refine zq_1 ?_
  refine zq_1 ?_
  refine zq_90_3i rfl rfl (gM_in_ok (E := E) hw _ _ _ _ _) fun v3 s4 => ?_
  refine zq_41 ?_ ?_
  · refine zq_57 ?_
    refine zq_1 ?_
    exact zq_95 rfl
  · refine zq_6_0 ?_
    refine zr_61 hw rfl ?_
    refine zq_4_1 ?_
    refine zr_65 hw rfl rfl rfl ?_
    refine zq_1 ?_
    refine zq_46 ?_ ?_
    · refine zq_1 ?_
      refine zq_7_3 rfl ?_
      refine zq_1 ?_
      refine zq_7_4 rfl ?_
      refine zq_1 ?_
      refine zq_7_5 rfl ?_
      refine zq_57 ?_
      refine zE_w [true, true, true, true, true, true, false, false] (gM_hire_l4_ok (E := E) hw d zFU _ _ _ _ _ _ _ (fun x65 x66 x67 s68 => ?_))
      refine zq_4_2 ?_
      refine zq_41 ?_ ?_
      · refine zq_4_4 ?_
        refine zq_56 ?_
        exact zq_95 rfl
      · refine zq_4_3 ?_
        refine zq_57 ?_
        exact zq_95 rfl
    refine zq_1 ?_
    exact zq_95 rfl
/-! 276: EngraversHouseModel.month:(I)I -/
noncomputable def gM_month (a1 : Int) (s : zSg) : Option (Int × zSg) :=
  ybd (gM_in a1 0 999 s) fun v1 s2 =>
  if v1 = 0 then
    (some ((-2), s2))
  else
    (if (s2 0 70) = 10 then
      (some ((-4), s2))
    else
      (ywi 10 71 (s2 0 70) a1 s2 fun s3 =>
      yvl (zup s3 0 70 (zadd (s3 0 70) 1)) fun s4 =>
      some (s4 0 70, s4)))
theorem gM_month_ok {E : Nat → Nat} {R : Nat} {h0 : zHp} (hw : zRg R h0) (d : Nat) (a1 : Int) (s : zSg) : zE (zov R h0) Ji E (d + 1) 276 (zB 276 0) (zent 2 [.inr (.inr R), .inl a1]) [] s (gM_month a1 s) := by
  show zE _ _ _ _ _ _ [some (.inr (.inr R)), some (.inl a1)] _ _ _
  unfold gM_month
  refine zq_4_1 ?_
  refine zq_1 ?_
  refine zq_1 ?_
  refine zq_90_3i rfl rfl (gM_in_ok (E := E) hw _ _ _ _ _) fun v1 s2 => ?_
  refine zq_41 ?_ ?_
  · refine zq_1 ?_
    exact zq_95 rfl
  · refine zq_6_0 ?_
    refine zr_60 hw rfl ?_
    refine zq_1 ?_
    refine zq_47 ?_ ?_
    · refine zq_1 ?_
      exact zq_95 rfl
    · refine zq_6_0 ?_
      refine zr_61 hw rfl ?_
      refine zq_6_0 ?_
      refine zr_60 hw rfl ?_
      refine zq_4_1 ?_
      refine zr_68 hw rfl rfl rfl ?_
      refine zq_6_0 ?_
      refine zq_33 ?_
      refine zr_60 hw rfl ?_
      refine zq_1 ?_
      refine zq_11 ?_
      refine zE_vl ?_
      refine zr_62 hw rfl ?_
      refine zq_6_0 ?_
      refine zr_60 hw rfl ?_
      exact zq_95 rfl
/-! 277: EngraversHouseModel.costs:(III)I -/
noncomputable def gM_costs (a1 : Int) (a2 : Int) (a3 : Int) (s : zSg) : Option (Int × zSg) :=
  ybd (gM_in a1 0 9999 s) fun v1 s2 =>
  if v1 = 0 then
    (some ((-2), s2))
  else
  ybd (gM_in a2 0 99 s2) fun v3 s4 =>
  if v3 = 0 then
    (some ((-2), s4))
  else
  ybd (gM_in a3 1 9999 s4) fun v5 s6 =>
  if v5 = 0 then
    (some ((-2), s6))
  else
    (yvl (s6 0 70) fun v7 =>
    yvl (zup s6 0 72 a1) fun s8 =>
    yvl (zup s8 0 73 a2) fun s9 =>
    yvl (zup s9 0 74 a3) fun s10 =>
    yvl (zup s10 0 70 0) fun s11 =>
    some (v7, s11))
theorem gM_costs_ok {E : Nat → Nat} {R : Nat} {h0 : zHp} (hw : zRg R h0) (d : Nat) (a1 : Int) (a2 : Int) (a3 : Int) (s : zSg) : zE (zov R h0) Ji E (d + 1) 277 (zB 277 0) (zent 5 [.inr (.inr R), .inl a1, .inl a2, .inl a3]) [] s (gM_costs a1 a2 a3 s) := by
  show zE _ _ _ _ _ _ [some (.inr (.inr R)), some (.inl a1), some (.inl a2), some (.inl a3), none] _ _ _
  unfold gM_costs
  refine zq_4_1 ?_
  refine zq_1 ?_
  refine zq_1 ?_
  refine zq_90_3i rfl rfl (gM_in_ok (E := E) hw _ _ _ _ _) fun v1 s2 => ?_
  refine zq_40 ?_ ?_
  · refine zq_1 ?_
    exact zq_95 rfl
  refine zq_4_2 ?_
  refine zq_1 ?_
  refine zq_1 ?_
  refine zq_90_3i rfl rfl (gM_in_ok (E := E) hw _ _ _ _ _) fun v3 s4 => ?_
  refine zq_40 ?_ ?_
  · refine zq_1 ?_
    exact zq_95 rfl
  refine zq_4_3 ?_
  refine zq_1 ?_
  refine zq_1 ?_
  refine zq_90_3i rfl rfl (gM_in_ok (E := E) hw _ _ _ _ _) fun v5 s6 => ?_
  refine zq_41 ?_ ?_
  · refine zq_57 ?_
    refine zq_1 ?_
    exact zq_95 rfl
  · refine zq_6_0 ?_
    refine zr_60 hw rfl ?_
    refine zE_vl ?_
    refine zq_7_4 rfl ?_
    refine zq_6_0 ?_
    refine zq_4_1 ?_
    refine zE_vl ?_
    refine zr_62 hw rfl ?_
    refine zq_6_0 ?_
    refine zq_4_2 ?_
    refine zE_vl ?_
    refine zr_62 hw rfl ?_
    refine zq_6_0 ?_
    refine zq_4_3 ?_
    refine zE_vl ?_
    refine zr_62 hw rfl ?_
    refine zq_6_0 ?_
    refine zq_1 ?_
    refine zE_vl ?_
    refine zr_62 hw rfl ?_
    refine zq_4_4 ?_
    exact zq_95 rfl
/-! 278: EngraversHouseModel.costOf:(I)I -/
noncomputable def gM_costOf_l1 : Nat → Int → Int → Int → Int → Int → zSg → Option (Int × zSg)
  | 0, _, _, _, _, _, _ => none
  | n + 1, x1, x2, x3, x4, x5, s6 =>
   yjn (fun (x7 : Int) (x8 : Int) (x9 : Int) (x10 : Int) (x11 : Int) (x12 : Int) (s13 : zSg) =>
    yjn (fun (x15 : Int) (x16 : Int) (x17 : Int) (x18 : Int) (x19 : Int) (s20 : zSg) =>
     if x19 = (s20 0 70) then
       (some (x16, s20))
     else
       (yjn (fun (x22 : Int) (x23 : Int) (x24 : Int) (x25 : Int) (x26 : Int) (s27 : zSg) =>
        yjn (fun (x29 : Int) (x30 : Int) (x31 : Int) (x32 : Int) (x33 : Int) (s34 : zSg) =>
         yvl (zadd x33 1) fun v36 =>
         gM_costOf_l1 n x29 x30 x31 x32 v36 s34) fun q35 =>
         if x24 < 0 then
          (q35 x22 x23 x24 x25 x26 s27)
        else
          (yrd 10 71 x26 s27 fun v37 =>
          yvl (zadd x25 v37) fun v38 =>
          yrd 10 71 x26 s27 fun v39 =>
          yvl (zadd x23 (zmul (zmul (s27 0 73) v39) (zsub x26 x24))) fun v40 =>
          q35 x22 v40 x24 v38 x26 s27)) fun q28 =>
        if x17 < 0 then
         (yrd 10 71 x19 s20 fun v41 =>
         if 0 < v41 then
           (some ((-1), s20))
         else
           (q28 x15 x16 x17 x18 x19 s20))
       else
         (q28 x15 x16 x17 x18 x19 s20))) fun q21 =>
     yjn (fun (x42 : Int) (x43 : Int) (x44 : Int) (x45 : Int) (x46 : Int) (x47 : Int) (s48 : zSg) =>
     yjn (fun (x50 : Int) (x51 : Int) (x52 : Int) (x53 : Int) (x54 : Int) (x55 : Int) (s56 : zSg) =>
      if (s56 0 74) < x53 then
        (some ((-1), s56))
      else
        (if x55 = 0 then
          (q21 x50 x51 x52 x53 x54 s56)
        else
        yvl (zadd x51 (s56 0 72)) fun v58 =>
        q21 x50 v58 x54 0 x54 s56)) fun q57 =>
      if x44 < 0 then
       (q57 x42 x43 x44 x45 x46 x47 s48)
     else
     if x45 = 0 then
       (some ((-1), s48))
     else
     q57 x42 x43 x44 x45 x46 x47 s48) fun q49 =>
     if x12 = 0 then
      (if x11 = (s13 0 70) then
        (q49 x7 x8 x9 x10 x11 x12 s13)
      else
        (q21 x7 x8 x9 x10 x11 s13))
    else
      (q49 x7 x8 x9 x10 x11 x12 s13)) fun q14 =>
    yjn (fun (x59 : Int) (x60 : Int) (x61 : Int) (x62 : Int) (x63 : Int) (s64 : zSg) =>
    q14 x59 x60 x61 x62 x63 0 s64) fun q65 =>
    if (s6 0 70) < x5 then
     (some (x2, s6))
   else
   if x5 < (s6 0 70) then
     (if (zand (zshr x1 x5) 1) = 1 then
       (q14 x1 x2 x3 x4 x5 1 s6)
     else
       (q65 x1 x2 x3 x4 x5 s6))
   else
     (q65 x1 x2 x3 x4 x5 s6)
theorem gM_costOf_l1_ok {E : Nat → Nat} {R : Nat} {h0 : zHp} (hw : zRg R h0) (d : Nat) : ∀ (n : Nat) (x1 : Int) (x2 : Int) (x3 : Int) (x4 : Int) (x5 : Int) (s6 : zSg), zE (zov R h0) Ji E (d + 0) 278 (zB 278 1) ([some (.inr (.inr R)), some (.inl x1), some (.inl x2), some (.inl x3), some (.inl x4), some (.inl x5), none]) ([]) s6 (gM_costOf_l1 n x1 x2 x3 x4 x5 s6) := by
  intro n
  induction n with
  | zero => intro x1 x2 x3 x4 x5 s6; exact zE_none
  | succ n ih =>
    intro x1 x2 x3 x4 x5 s6
    unfold gM_costOf_l1
    refine zE_jn (fun q14 => ∀ (y0 : Int) (y1 : Int) (y2 : Int) (y3 : Int) (y4 : Int) (y5 : Int) (s : zSg), zE (zov R h0) Ji E (d + 0) 278 (zB 278 3) ([some (.inr (.inr R)), some (.inl y0), some (.inl y1), some (.inl y2), some (.inl y3), some (.inl y4), none]) ([.inl y5]) s (q14 y0 y1 y2 y3 y4 y5 s)) (fun x7 x8 x9 x10 x11 x12 s13 => ?_) (fun q14 hq14 => ?_)
    · refine zE_jn (fun q21 => ∀ (y0 : Int) (y1 : Int) (y2 : Int) (y3 : Int) (y4 : Int) (s : zSg), zE (zov R h0) Ji E (d + 0) 278 (zB 278 8) ([some (.inr (.inr R)), some (.inl y0), some (.inl y1), some (.inl y2), some (.inl y3), some (.inl y4), none]) ([]) s (q21 y0 y1 y2 y3 y4 s)) (fun x15 x16 x17 x18 x19 s20 => ?_) (fun q21 hq21 => ?_)
      · refine zq_4_5 ?_
        refine zq_6_0 ?_
        refine zr_60 hw rfl ?_
        refine zq_47 ?_ ?_
        · refine zq_4_2 ?_
          exact zq_95 rfl
        · refine zE_jn (fun q28 => ∀ (y0 : Int) (y1 : Int) (y2 : Int) (y3 : Int) (y4 : Int) (s : zSg), zE (zov R h0) Ji E (d + 0) 278 (zB 278 10) ([some (.inr (.inr R)), some (.inl y0), some (.inl y1), some (.inl y2), some (.inl y3), some (.inl y4), none]) ([]) s (q28 y0 y1 y2 y3 y4 s)) (fun x22 x23 x24 x25 x26 s27 => ?_) (fun q28 hq28 => ?_)
          · refine zE_jn (fun q35 => ∀ (y0 : Int) (y1 : Int) (y2 : Int) (y3 : Int) (y4 : Int) (s : zSg), zE (zov R h0) Ji E (d + 0) 278 (zB 278 12) ([some (.inr (.inr R)), some (.inl y0), some (.inl y1), some (.inl y2), some (.inl y3), some (.inl y4), none]) ([]) s (q35 y0 y1 y2 y3 y4 s)) (fun x29 x30 x31 x32 x33 s34 => ?_) (fun q35 hq35 => ?_)
            · refine zE_vl ?_
              refine zq_10_5 rfl ?_
              refine zq_56 ?_
              exact zE_w [true, true, true, true, true, true, false] (ih _ _ _ _ _ _)
            refine zq_4_3 ?_
            refine zq_43 ?_ ?_
            · refine zq_56 ?_
              exact zE_w [true, true, true, true, true, true, false] (hq35 _ _ _ _ _ _)
            · refine zq_4_4 ?_
              refine zq_6_0 ?_
              refine zr_61 hw rfl ?_
              refine zq_4_5 ?_
              refine zr_65 hw rfl rfl rfl ?_
              refine zq_11 ?_
              refine zE_vl ?_
              refine zq_7_4 rfl ?_
              refine zq_4_2 ?_
              refine zq_6_0 ?_
              refine zr_60 hw rfl ?_
              refine zq_6_0 ?_
              refine zr_61 hw rfl ?_
              refine zq_4_5 ?_
              refine zr_65 hw rfl rfl rfl ?_
              refine zq_13 ?_
              refine zq_4_5 ?_
              refine zq_4_3 ?_
              refine zq_12 ?_
              refine zq_13 ?_
              refine zq_11 ?_
              refine zE_vl ?_
              refine zq_7_2 rfl ?_
              refine zq_57 ?_
              exact zE_w [true, true, true, true, true, true, false] (hq35 _ _ _ _ _ _)
          refine zq_4_3 ?_
          refine zq_43 ?_ ?_
          · refine zq_6_0 ?_
            refine zr_61 hw rfl ?_
            refine zq_4_5 ?_
            refine zr_65 hw rfl rfl rfl ?_
            refine zq_45 ?_ ?_
            · refine zq_1 ?_
              exact zq_95 rfl
            · exact zE_w [true, true, true, true, true, true, false] (hq28 _ _ _ _ _ _)
          · exact zE_w [true, true, true, true, true, true, false] (hq28 _ _ _ _ _ _)
      refine zE_jn (fun q49 => ∀ (y0 : Int) (y1 : Int) (y2 : Int) (y3 : Int) (y4 : Int) (y5 : Int) (s : zSg), zE (zov R h0) Ji E (d + 0) 278 (zB 278 4) ([some (.inr (.inr R)), some (.inl y0), some (.inl y1), some (.inl y2), some (.inl y3), some (.inl y4), some (.inl y5)]) ([]) s (q49 y0 y1 y2 y3 y4 y5 s)) (fun x42 x43 x44 x45 x46 x47 s48 => ?_) (fun q49 hq49 => ?_)
      · refine zE_jn (fun q57 => ∀ (y0 : Int) (y1 : Int) (y2 : Int) (y3 : Int) (y4 : Int) (y5 : Int) (s : zSg), zE (zov R h0) Ji E (d + 0) 278 (zB 278 5) ([some (.inr (.inr R)), some (.inl y0), some (.inl y1), some (.inl y2), some (.inl y3), some (.inl y4), some (.inl y5)]) ([]) s (q57 y0 y1 y2 y3 y4 y5 s)) (fun x50 x51 x52 x53 x54 x55 s56 => ?_) (fun q57 hq57 => ?_)
        · refine zq_4_4 ?_
          refine zq_6_0 ?_
          refine zr_60 hw rfl ?_
          refine zq_51 ?_ ?_
          · refine zq_57 ?_
            refine zq_1 ?_
            exact zq_95 rfl
          · refine zq_4_6 ?_
            refine zq_40 ?_ ?_
            · exact zE_w [true, true, true, true, true, true, false] (hq21 _ _ _ _ _ _)
            refine zq_4_2 ?_
            refine zq_6_0 ?_
            refine zr_60 hw rfl ?_
            refine zq_11 ?_
            refine zE_vl ?_
            refine zq_7_2 rfl ?_
            refine zq_4_5 ?_
            refine zq_7_3 rfl ?_
            refine zq_1 ?_
            refine zq_7_4 rfl ?_
            refine zq_57 ?_
            exact zE_w [true, true, true, true, true, true, false] (hq21 _ _ _ _ _ _)
        refine zq_4_3 ?_
        refine zq_42 ?_ ?_
        · exact zE_w [true, true, true, true, true, true, true] (hq57 _ _ _ _ _ _ _)
        refine zq_4_4 ?_
        refine zq_40 ?_ ?_
        · refine zq_1 ?_
          exact zq_95 rfl
        refine zq_57 ?_
        exact zE_w [true, true, true, true, true, true, true] (hq57 _ _ _ _ _ _ _)
      refine zq_7_6 rfl ?_
      refine zq_4_6 ?_
      refine zq_41 ?_ ?_
      · refine zq_4_5 ?_
        refine zq_6_0 ?_
        refine zr_60 hw rfl ?_
        refine zq_47 ?_ ?_
        · refine zq_57 ?_
          exact zE_w [true, true, true, true, true, true, true] (hq49 _ _ _ _ _ _ _)
        · exact zE_w [true, true, true, true, true, true, false] (hq21 _ _ _ _ _ _)
      · exact zE_w [true, true, true, true, true, true, true] (hq49 _ _ _ _ _ _ _)
    refine zE_jn (fun q65 => ∀ (y0 : Int) (y1 : Int) (y2 : Int) (y3 : Int) (y4 : Int) (s : zSg), zE (zov R h0) Ji E (d + 0) 278 (zB 278 2) ([some (.inr (.inr R)), some (.inl y0), some (.inl y1), some (.inl y2), some (.inl y3), some (.inl y4), none]) ([]) s (q65 y0 y1 y2 y3 y4 s)) (fun x59 x60 x61 x62 x63 s64 => ?_) (fun q65 hq65 => ?_)
    · refine zq_1 ?_
      refine zq_57 ?_
      exact zE_w [true, true, true, true, true, true, false] (hq14 _ _ _ _ _ _ _)
    refine zq_4_5 ?_
    refine zq_6_0 ?_
    refine zr_60 hw rfl ?_
    refine zq_50 ?_ ?_
    · refine zq_4_2 ?_
      exact zq_95 rfl
    refine zq_4_5 ?_
    refine zq_6_0 ?_
    refine zr_60 hw rfl ?_
    refine zq_49 ?_ ?_
    · refine zq_4_1 ?_
      refine zq_4_5 ?_
      refine zq_18 ?_
      refine zq_1 ?_
      refine zq_20 ?_
      refine zq_1 ?_
      refine zq_47 ?_ ?_
      · refine zq_1 ?_
        refine zq_56 ?_
        exact zE_w [true, true, true, true, true, true, false] (hq14 _ _ _ _ _ _ _)
      · exact zE_w [true, true, true, true, true, true, false] (hq65 _ _ _ _ _ _)
    · exact zE_w [true, true, true, true, true, true, false] (hq65 _ _ _ _ _ _)
noncomputable def gM_costOf (a1 : Int) (s : zSg) : Option (Int × zSg) :=
  gM_costOf_l1 zFU a1 0 (-1) 0 0 s
theorem gM_costOf_ok {E : Nat → Nat} {R : Nat} {h0 : zHp} (hw : zRg R h0) (d : Nat) (a1 : Int) (s : zSg) : zE (zov R h0) Ji E (d + 0) 278 (zB 278 0) (zent 7 [.inr (.inr R), .inl a1]) [] s (gM_costOf a1 s) := by
  show zE _ _ _ _ _ _ [some (.inr (.inr R)), some (.inl a1), none, none, none, none, none] _ _ _
  unfold gM_costOf
  refine zq_1 ?_
  refine zq_7_2 rfl ?_
  refine zq_1 ?_
  refine zq_7_3 rfl ?_
  refine zq_1 ?_
  refine zq_7_4 rfl ?_
  refine zq_1 ?_
  refine zq_7_5 rfl ?_
  refine zq_57 ?_
  exact zE_w [true, true, true, true, true, true, false] (gM_costOf_l1_ok (E := E) hw d zFU _ _ _ _ _ _)
/-! 279: EngraversHouseModel.prints:(I)I -/
noncomputable def gM_prints_l2 : Nat → Int → Int → zSg → (Int → zSg → Option (Int × zSg)) → Option (Int × zSg)
  | 0, _, _, _, _ => none
  | n + 1, x3, x4, s5, k6 =>
   if x4 < (s5 0 70) then
     (yrd 10 71 x4 s5 fun v7 =>
     if (s5 0 74) < v7 then
       (some ((-3), s5))
     else
       (yvl (zadd x4 1) fun v8 =>
       gM_prints_l2 n x3 v8 s5 k6))
   else
     (k6 x3 s5)
theorem gM_prints_l2_ok {E : Nat → Nat} {R : Nat} {h0 : zHp} (hw : zRg R h0) (d : Nat) : ∀ (n : Nat) (x3 : Int) (x4 : Int) (s5 : zSg) (k6 : Int → zSg → Option (Int × zSg)) (hk6 : ∀ (y0 : Int) (s : zSg), zE (zov R h0) Ji E (d + 1) 279 (zB 279 4) ([some (.inr (.inr R)), some (.inl y0), none, none, none, none]) ([]) s (k6 y0 s)), zE (zov R h0) Ji E (d + 1) 279 (zB 279 2) ([some (.inr (.inr R)), some (.inl x3), some (.inl x4), none, none, none]) ([]) s5 (gM_prints_l2 n x3 x4 s5 k6) := by
  intro n
  induction n with
  | zero => intro x3 x4 s5 k6 hk6; exact zE_none
  | succ n ih =>
    intro x3 x4 s5 k6 hk6
    unfold gM_prints_l2
    refine zq_4_2 ?_
    refine zq_6_0 ?_
    refine zr_60 hw rfl ?_
    refine zq_49 ?_ ?_
    · refine zq_6_0 ?_
      refine zr_61 hw rfl ?_
      refine zq_4_2 ?_
      refine zr_65 hw rfl rfl rfl ?_
      refine zq_6_0 ?_
      refine zr_60 hw rfl ?_
      refine zq_51 ?_ ?_
      · refine zq_1 ?_
        exact zq_95 rfl
      · refine zE_vl ?_
        refine zq_10_2 rfl ?_
        refine zq_56 ?_
        exact zE_w [true, true, true, false, false, false] (ih _ _ _ _ hk6)
    · exact zE_w [true, true, false, false, false, false] (hk6 _ _)
noncomputable def gM_prints_l5 : Nat → Int → Int → Int → Int → zSg → (Int → Int → Int → zSg → Option (Int × zSg)) → Option (Int × zSg)
  | 0, _, _, _, _, _, _ => none
  | n + 1, x11, x12, x13, x14, s15, k16 =>
   yjn (fun (x17 : Int) (x18 : Int) (x19 : Int) (x20 : Int) (s21 : zSg) =>
    yvl (zadd x20 1) fun v23 =>
    gM_prints_l5 n x17 x18 x19 v23 s21 k16) fun q22 =>
    yjn (fun (x24 : Int) (x25 : Int) (x26 : Int) (s27 : zSg) =>
    q22 x24 x25 x26 x25 s27) fun q28 =>
    if x14 < (zshl 1 (s15 0 70)) then
     (ybd (gM_costOf x14 s15) fun v29 s30 =>
     if v29 < 0 then
       (q22 x11 x12 x13 x14 s30)
     else
     if x12 < 0 then
       (q28 x11 x14 v29 s30)
     else
     if x13 < v29 then
       (q22 x11 x12 x13 x14 s30)
     else
     if v29 = x13 then
       (ybd (gM_bitsOf x14 s30) fun v31 s32 =>
       ybd (gM_bitsOf x12 s32) fun v33 s34 =>
       if v31 < v33 then
         (q28 x11 x14 v29 s34)
       else
       q22 x11 x12 x13 x14 s34)
     else
       (q28 x11 x14 v29 s30))
   else
     (k16 x11 x12 x13 s15)
theorem gM_prints_l5_ok {E : Nat → Nat} {R : Nat} {h0 : zHp} (hw : zRg R h0) (d : Nat) : ∀ (n : Nat) (x11 : Int) (x12 : Int) (x13 : Int) (x14 : Int) (s15 : zSg) (k16 : Int → Int → Int → zSg → Option (Int × zSg)) (hk16 : ∀ (y0 : Int) (y1 : Int) (y2 : Int) (s : zSg), zE (zov R h0) Ji E (d + 1) 279 (zB 279 8) ([none, some (.inl y0), some (.inl y1), some (.inl y2), none, none]) ([]) s (k16 y0 y1 y2 s)), zE (zov R h0) Ji E (d + 1) 279 (zB 279 5) ([some (.inr (.inr R)), some (.inl x11), some (.inl x12), some (.inl x13), some (.inl x14), none]) ([]) s15 (gM_prints_l5 n x11 x12 x13 x14 s15 k16) := by
  intro n
  induction n with
  | zero => intro x11 x12 x13 x14 s15 k16 hk16; exact zE_none
  | succ n ih =>
    intro x11 x12 x13 x14 s15 k16 hk16
    unfold gM_prints_l5
    refine zE_jn (fun q22 => ∀ (y0 : Int) (y1 : Int) (y2 : Int) (y3 : Int) (s : zSg), zE (zov R h0) Ji E (d + 1) 279 (zB 279 7) ([some (.inr (.inr R)), some (.inl y0), some (.inl y1), some (.inl y2), some (.inl y3), none]) ([]) s (q22 y0 y1 y2 y3 s)) (fun x17 x18 x19 x20 s21 => ?_) (fun q22 hq22 => ?_)
    · refine zE_vl ?_
      refine zq_10_4 rfl ?_
      refine zq_56 ?_
      exact zE_w [true, true, true, true, true, false] (ih _ _ _ _ _ _ hk16)
    refine zE_jn (fun q28 => ∀ (y0 : Int) (y1 : Int) (y2 : Int) (s : zSg), zE (zov R h0) Ji E (d + 1) 279 (zB 279 6) ([some (.inr (.inr R)), some (.inl y0), none, none, some (.inl y1), some (.inl y2)]) ([]) s (q28 y0 y1 y2 s)) (fun x24 x25 x26 s27 => ?_) (fun q28 hq28 => ?_)
    · refine zq_4_4 ?_
      refine zq_7_2 rfl ?_
      refine zq_4_5 ?_
      refine zq_7_3 rfl ?_
      refine zq_57 ?_
      exact zE_w [true, true, true, true, true, false] (hq22 _ _ _ _ _)
    refine zq_4_4 ?_
    refine zq_1 ?_
    refine zq_6_0 ?_
    refine zr_60 hw rfl ?_
    refine zq_17 ?_
    refine zq_49 ?_ ?_
    · refine zq_6_0 ?_
      refine zq_4_4 ?_
      refine zq_92_2i (zR_is hw) rfl rfl (gM_costOf_ok (E := E) hw _ _ _) fun v29 s30 => ?_
      refine zq_7_5 rfl ?_
      refine zq_4_5 ?_
      refine zq_42 ?_ ?_
      · exact zE_w [true, true, true, true, true, false] (hq22 _ _ _ _ _)
      refine zq_4_2 ?_
      refine zq_42 ?_ ?_
      · exact zE_w [true, true, false, false, true, true] (hq28 _ _ _ _)
      refine zq_4_5 ?_
      refine zq_4_3 ?_
      refine zq_50 ?_ ?_
      · exact zE_w [true, true, true, true, true, false] (hq22 _ _ _ _ _)
      refine zq_4_5 ?_
      refine zq_4_3 ?_
      refine zq_47 ?_ ?_
      · refine zq_4_4 ?_
        refine zq_90_1i rfl rfl (gM_bitsOf_ok (E := E) hw _ _ _) fun v31 s32 => ?_
        refine zq_4_2 ?_
        refine zq_90_1i rfl rfl (gM_bitsOf_ok (E := E) hw _ _ _) fun v33 s34 => ?_
        refine zq_48 ?_ ?_
        · exact zE_w [true, true, false, false, true, true] (hq28 _ _ _ _)
        refine zq_56 ?_
        exact zE_w [true, true, true, true, true, false] (hq22 _ _ _ _ _)
      · exact zE_w [true, true, false, false, true, true] (hq28 _ _ _ _)
    · exact zE_w [false, true, true, true, false, false] (hk16 _ _ _ _)
noncomputable def gM_prints (a1 : Int) (s : zSg) : Option (Int × zSg) :=
  ybd (gM_in a1 0 1 s) fun v1 s2 =>
  if v1 = 0 then
    (some ((-1), s2))
  else
    (gM_prints_l2 zFU a1 0 s2 (fun (x9 : Int) (s10 : zSg) =>
     gM_prints_l5 zFU x9 (-1) 0 0 s10 (fun (x35 : Int) (x36 : Int) (x37 : Int) (s38 : zSg) =>
      if x35 = 0 then
        (some (x37, s38))
      else
        (some (x36, s38)))))
theorem gM_prints_ok {E : Nat → Nat} {R : Nat} {h0 : zHp} (hw : zRg R h0) (d : Nat) (a1 : Int) (s : zSg) : zE (zov R h0) Ji E (d + 1) 279 (zB 279 0) (zent 6 [.inr (.inr R), .inl a1]) [] s (gM_prints a1 s) := by
  show zE _ _ _ _ _ _ [some (.inr (.inr R)), some (.inl a1), none, none, none, none] _ _ _
  unfold gM_prints
  refine zq_4_1 ?_
  refine zq_1 ?_
  refine zq_1 ?_
  refine zq_90_3i rfl rfl (gM_in_ok (E := E) hw _ _ _ _ _) fun v1 s2 => ?_
  refine zq_41 ?_ ?_
  · refine zq_1 ?_
    exact zq_95 rfl
  · refine zq_1 ?_
    refine zq_7_2 rfl ?_
    refine zq_57 ?_
    refine zE_w [true, true, true, false, false, false] (gM_prints_l2_ok (E := E) hw d zFU _ _ _ _ (fun x9 s10 => ?_))
    refine zq_1 ?_
    refine zq_7_2 rfl ?_
    refine zq_1 ?_
    refine zq_7_3 rfl ?_
    refine zq_1 ?_
    refine zq_7_4 rfl ?_
    refine zq_57 ?_
    refine zE_w [true, true, true, true, true, false] (gM_prints_l5_ok (E := E) hw d zFU _ _ _ _ _ _ (fun x35 x36 x37 s38 => ?_))
    refine zq_4_1 ?_
    refine zq_41 ?_ ?_
    · refine zq_4_3 ?_
      refine zq_56 ?_
      exact zq_95 rfl
    · refine zq_4_2 ?_
      refine zq_57 ?_
      exact zq_95 rfl
/-! 280: EngraversHouseModel.proof:(III)I -/
noncomputable def gM_proof (a1 : Int) (a2 : Int) (a3 : Int) (s : zSg) : Option (Int × zSg) :=
  ybd (gM_in a1 0 3 s) fun v1 s2 =>
  if v1 = 0 then
    (some ((-1), s2))
  else
  ybd (gM_isThing a2 s2) fun v3 s4 =>
  if v3 = 0 then
    (some ((-1), s4))
  else
    (yrd 60 3 a2 s4 fun v5 =>
    if v5 = 3 then
      (if a3 < 0 then
        (some ((-2), s4))
      else
      yrd 60 6 a2 s4 fun v6 =>
      if a3 < (zshl 1 v6) then
        (ywi 240 75 (zadd (zmul 4 a2) a1) a3 s4 fun s7 =>
        ybd (gM_offs a2 s7) fun v8 s9 =>
        ybd (gM_bitsOf (zand a3 v8) s9) fun v10 s11 =>
        some (v10, s11))
      else
      some ((-2), s4))
    else
    some ((-12), s4))
theorem gM_proof_ok {E : Nat → Nat} {R : Nat} {h0 : zHp} (hw : zRg R h0) (d : Nat) (a1 : Int) (a2 : Int) (a3 : Int) (s : zSg) : zE (zov R h0) Ji E (d + 4) 280 (zB 280 0) (zent 4 [.inr (.inr R), .inl a1, .inl a2, .inl a3]) [] s (gM_proof a1 a2 a3 s) := by
  show zE _ _ _ _ _ _ [some (.inr (.inr R)), some (.inl a1), some (.inl a2), some (.inl a3)] _ _ _
  unfold gM_proof
  refine zq_4_1 ?_
  refine zq_1 ?_
  refine zq_1 ?_
  refine zq_90_3i rfl rfl (gM_in_ok (E := E) hw _ _ _ _ _) fun v1 s2 => ?_
  refine zq_40 ?_ ?_
  · refine zq_1 ?_
    exact zq_95 rfl
  refine zq_6_0 ?_
  refine zq_4_2 ?_
  refine zq_92_2i (zR_is hw) rfl rfl (gM_isThing_ok (E := E) hw _ _ _) fun v3 s4 => ?_
  refine zq_41 ?_ ?_
  · refine zq_57 ?_
    refine zq_1 ?_
    exact zq_95 rfl
  · refine zq_6_0 ?_
    refine zr_61 hw rfl ?_
    refine zq_4_2 ?_
    refine zr_65 hw rfl rfl rfl ?_
    refine zq_1 ?_
    refine zq_46 ?_ ?_
    · refine zq_4_3 ?_
      refine zq_42 ?_ ?_
      · refine zq_1 ?_
        exact zq_95 rfl
      refine zq_4_3 ?_
      refine zq_1 ?_
      refine zq_6_0 ?_
      refine zr_61 hw rfl ?_
      refine zq_4_2 ?_
      refine zr_65 hw rfl rfl rfl ?_
      refine zq_17 ?_
      refine zq_48 ?_ ?_
      · refine zq_6_0 ?_
        refine zr_61 hw rfl ?_
        refine zq_1 ?_
        refine zq_4_2 ?_
        refine zq_13 ?_
        refine zq_4_1 ?_
        refine zq_11 ?_
        refine zq_4_3 ?_
        refine zr_68 hw rfl rfl rfl ?_
        refine zq_4_3 ?_
        refine zq_6_0 ?_
        refine zq_4_2 ?_
        refine zq_92_2i (zR_is hw) rfl rfl (gM_offs_ok (E := E) hw _ _ _) fun v8 s9 => ?_
        refine zq_20 ?_
        refine zq_90_1i rfl rfl (gM_bitsOf_ok (E := E) hw _ _ _) fun v10 s11 => ?_
        exact zq_95 rfl
      refine zq_57 ?_
      refine zq_1 ?_
      exact zq_95 rfl
    refine zq_1 ?_
    exact zq_95 rfl
/-! 281: EngraversHouseModel.left:(IIII)J -/
noncomputable def gM_left_l7 : Nat → Int → Int → Int → Int → Int → zSg → (Int → Int → Int → Int → zSg → Option (Int × zSg)) → Option (Int × zSg)
  | 0, _, _, _, _, _, _, _ => none
  | n + 1, x18, x19, x20, x21, x22, s23, k24 =>
   if x22 = 0 then
     (k24 x18 x19 x20 x21 s23)
   else
   ydv x22 <|
   yvl (zrem x21 x22) fun v25 =>
   gM_left_l7 n x18 x19 x20 x22 v25 s23 k24
theorem gM_left_l7_ok {E : Nat → Nat} {R : Nat} {h0 : zHp} (hw : zRg R h0) (d : Nat) : ∀ (n : Nat) (x18 : Int) (x19 : Int) (x20 : Int) (x21 : Int) (x22 : Int) (s23 : zSg) (k24 : Int → Int → Int → Int → zSg → Option (Int × zSg)) (hk24 : ∀ (y0 : Int) (y1 : Int) (y2 : Int) (y3 : Int) (s : zSg), zE (zov R h0) Jl E (d + 2) 281 (zB 281 8) ([none, none, none, none, some (.inl y0), none, none, some (.inl y1), some (.inl y2), some (.inl y3), none, none]) ([]) s (k24 y0 y1 y2 y3 s)), zE (zov R h0) Jl E (d + 2) 281 (zB 281 7) ([none, none, none, none, some (.inl x18), none, none, some (.inl x19), some (.inl x20), some (.inl x21), some (.inl x22), none]) ([]) s23 (gM_left_l7 n x18 x19 x20 x21 x22 s23 k24) := by
  intro n
  induction n with
  | zero => intro x18 x19 x20 x21 x22 s23 k24 hk24; exact zE_none
  | succ n ih =>
    intro x18 x19 x20 x21 x22 s23 k24 hk24
    unfold gM_left_l7
    refine zq_4_10 ?_
    refine zq_40 ?_ ?_
    · exact zE_w [false, false, false, false, true, false, false, true, true, true, false, false] (hk24 _ _ _ _ _)
    refine zq_4_9 ?_
    refine zq_4_10 ?_
    refine zq_15 ?_
    refine zE_vl ?_
    refine zq_7_11 rfl ?_
    refine zq_4_10 ?_
    refine zq_7_9 rfl ?_
    refine zq_4_11 ?_
    refine zq_7_10 rfl ?_
    refine zq_56 ?_
    exact zE_w [false, false, false, false, true, false, false, true, true, true, true, false] (ih _ _ _ _ _ _ _ hk24)
noncomputable def gM_left (a1 : Int) (a2 : Int) (a3 : Int) (a4 : Int) (s : zSg) : Option (Int × zSg) :=
  ybd (gM_isThing a1 s) fun v1 s2 =>
  if v1 = 0 then
    (some ((-9223372036854775808), s2))
  else
  yrd 60 3 a1 s2 fun v3 =>
  if v3 = 3 then
    (ybd (gM_in a2 0 3 s2) fun v4 s5 =>
    if v4 = 0 then
      (some ((-9223372036854775808), s5))
    else
    ybd (gM_in a3 0 3 s5) fun v6 s7 =>
    if v6 = 0 then
      (some ((-9223372036854775808), s7))
    else
    if a2 = a3 then
      (some ((-9223372036854775808), s7))
    else
    ybd (gM_in a4 0 1 s7) fun v8 s9 =>
    if v8 = 0 then
      (some ((-9223372036854775808), s9))
    else
      (yrd 240 75 (zadd (zmul 4 a1) a2) s9 fun v10 =>
      yrd 240 75 (zadd (zmul 4 a1) a3) s9 fun v11 =>
      if v10 < 0 then
        (some ((-9223372036854775808), s9))
      else
      if v11 < 0 then
        (some ((-9223372036854775808), s9))
      else
      if (zand v10 v11) = 0 then
        (some ((-9223372036854775808), s9))
      else
        (yjn (fun (x12 : Int) (x13 : Int) (x14 : Int) (x15 : Int) (s16 : zSg) =>
         gM_left_l7 zFU x12 x13 x14 x15 x13 s16 (fun (x26 : Int) (x27 : Int) (x28 : Int) (x29 : Int) (s30 : zSg) =>
          if x26 = 0 then
            (ydv x29 <|
            some (zi2l (zdiv x28 x29), s30))
          else
            (ydv x29 <|
            some (zi2l (zdiv x27 x29), s30)))) fun q17 =>
         ybd (gM_bitsOf (zand v10 v11) s9) fun v31 s32 =>
        ybd (gM_bitsOf v10 s32) fun v33 s34 =>
        ybd (gM_bitsOf v11 s34) fun v35 s36 =>
        ybd (gM_bitsOf (zor v10 v11) s36) fun v37 s38 =>
        yvl (zsub (zmul v33 v35) (zmul v37 v31)) fun v39 =>
        if v39 < 0 then
          (q17 a4 v31 v39 (zneg v39) s38)
        else
          (q17 a4 v31 v39 v39 s38))))
  else
    (some ((-9223372036854775808), s2))
theorem gM_left_ok {E : Nat → Nat} {R : Nat} {h0 : zHp} (hw : zRg R h0) (d : Nat) (a1 : Int) (a2 : Int) (a3 : Int) (a4 : Int) (s : zSg) : zE (zov R h0) Jl E (d + 2) 281 (zB 281 0) (zent 12 [.inr (.inr R), .inl a1, .inl a2, .inl a3, .inl a4]) [] s (gM_left a1 a2 a3 a4 s) := by
  show zE _ _ _ _ _ _ [some (.inr (.inr R)), some (.inl a1), some (.inl a2), some (.inl a3), some (.inl a4), none, none, none, none, none, none, none] _ _ _
  unfold gM_left
  refine zq_6_0 ?_
  refine zq_4_1 ?_
  refine zq_92_2i (zR_is hw) rfl rfl (gM_isThing_ok (E := E) hw _ _ _) fun v1 s2 => ?_
  refine zq_40 ?_ ?_
  · refine zq_2 ?_
    exact zq_99
  refine zq_6_0 ?_
  refine zr_61 hw rfl ?_
  refine zq_4_1 ?_
  refine zr_65 hw rfl rfl rfl ?_
  refine zq_1 ?_
  refine zq_47 ?_ ?_
  · refine zq_4_2 ?_
    refine zq_1 ?_
    refine zq_1 ?_
    refine zq_90_3i rfl rfl (gM_in_ok (E := E) hw _ _ _ _ _) fun v4 s5 => ?_
    refine zq_40 ?_ ?_
    · refine zq_2 ?_
      exact zq_99
    refine zq_4_3 ?_
    refine zq_1 ?_
    refine zq_1 ?_
    refine zq_90_3i rfl rfl (gM_in_ok (E := E) hw _ _ _ _ _) fun v6 s7 => ?_
    refine zq_40 ?_ ?_
    · refine zq_2 ?_
      exact zq_99
    refine zq_4_2 ?_
    refine zq_4_3 ?_
    refine zq_46 ?_ ?_
    · refine zq_2 ?_
      exact zq_99
    refine zq_4_4 ?_
    refine zq_1 ?_
    refine zq_1 ?_
    refine zq_90_3i rfl rfl (gM_in_ok (E := E) hw _ _ _ _ _) fun v8 s9 => ?_
    refine zq_41 ?_ ?_
    · refine zq_57 ?_
      refine zq_2 ?_
      exact zq_99
    · refine zq_6_0 ?_
      refine zr_61 hw rfl ?_
      refine zq_1 ?_
      refine zq_4_1 ?_
      refine zq_13 ?_
      refine zq_4_2 ?_
      refine zq_11 ?_
      refine zr_65 hw rfl rfl rfl ?_
      refine zq_7_5 rfl ?_
      refine zq_6_0 ?_
      refine zr_61 hw rfl ?_
      refine zq_1 ?_
      refine zq_4_1 ?_
      refine zq_13 ?_
      refine zq_4_3 ?_
      refine zq_11 ?_
      refine zr_65 hw rfl rfl rfl ?_
      refine zq_7_6 rfl ?_
      refine zq_4_5 ?_
      refine zq_42 ?_ ?_
      · refine zq_2 ?_
        exact zq_99
      refine zq_4_6 ?_
      refine zq_42 ?_ ?_
      · refine zq_2 ?_
        exact zq_99
      refine zq_4_5 ?_
      refine zq_4_6 ?_
      refine zq_20 ?_
      refine zq_41 ?_ ?_
      · refine zq_57 ?_
        refine zq_2 ?_
        exact zq_99
      · refine zE_jn (fun q17 => ∀ (y0 : Int) (y1 : Int) (y2 : Int) (y3 : Int) (s : zSg), zE (zov R h0) Jl E (d + 2) 281 (zB 281 6) ([none, none, none, none, some (.inl y0), none, none, some (.inl y1), some (.inl y2), none, none, none]) ([.inl y3]) s (q17 y0 y1 y2 y3 s)) (fun x12 x13 x14 x15 s16 => ?_) (fun q17 hq17 => ?_)
        · refine zq_7_9 rfl ?_
          refine zq_4_7 ?_
          refine zq_7_10 rfl ?_
          refine zq_57 ?_
          refine zE_w [false, false, false, false, true, false, false, true, true, true, true, false] (gM_left_l7_ok (E := E) hw d zFU _ _ _ _ _ _ _ (fun x26 x27 x28 x29 s30 => ?_))
          refine zq_4_4 ?_
          refine zq_41 ?_ ?_
          · refine zq_4_8 ?_
            refine zq_4_9 ?_
            refine zq_14 ?_
            refine zq_23 ?_
            refine zq_56 ?_
            exact zq_99
          · refine zq_4_7 ?_
            refine zq_4_9 ?_
            refine zq_14 ?_
            refine zq_23 ?_
            refine zq_57 ?_
            exact zq_99
        refine zq_4_5 ?_
        refine zq_4_6 ?_
        refine zq_20 ?_
        refine zq_90_1i rfl rfl (gM_bitsOf_ok (E := E) hw _ _ _) fun v31 s32 => ?_
        refine zq_7_7 rfl ?_
        refine zq_4_5 ?_
        refine zq_90_1i rfl rfl (gM_bitsOf_ok (E := E) hw _ _ _) fun v33 s34 => ?_
        refine zq_4_6 ?_
        refine zq_90_1i rfl rfl (gM_bitsOf_ok (E := E) hw _ _ _) fun v35 s36 => ?_
        refine zq_13 ?_
        refine zq_4_5 ?_
        refine zq_4_6 ?_
        refine zq_21 ?_
        refine zq_90_1i rfl rfl (gM_bitsOf_ok (E := E) hw _ _ _) fun v37 s38 => ?_
        refine zq_4_7 ?_
        refine zq_13 ?_
        refine zq_12 ?_
        refine zE_vl ?_
        refine zq_7_8 rfl ?_
        refine zq_4_8 ?_
        refine zq_43 ?_ ?_
        · refine zq_4_8 ?_
          refine zq_16 ?_
          refine zq_56 ?_
          exact zE_w [false, false, false, false, true, false, false, true, true, false, false, false] (hq17 _ _ _ _ _)
        · refine zq_4_8 ?_
          refine zq_57 ?_
          exact zE_w [false, false, false, false, true, false, false, true, true, false, false, false] (hq17 _ _ _ _ _)
  · refine zq_2 ?_
    exact zq_99
