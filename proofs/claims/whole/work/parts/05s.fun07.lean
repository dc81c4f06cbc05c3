/-! 245: EngraversHouseModel.changes:(III)I -/
noncomputable def gM_changes (a1 : Int) (a2 : Int) (a3 : Int) (s : zSg) : Option (Int × zSg) :=
  ybd (gM_isThing a1 s) fun v1 s2 =>
  if v1 = 0 then
    (some ((-1), s2))
  else
  ybd (gM_isThing a2 s2) fun v3 s4 =>
  if v3 = 0 then
    (some ((-1), s4))
  else
  ybd (gM_in a3 (-1) 3 s4) fun v5 s6 =>
  if v5 = 0 then
    (some ((-1), s6))
  else
    (yrd 60 3 a1 s6 fun v7 =>
    if v7 = 4 then
      (yrd 60 3 a2 s6 fun v8 =>
      if v8 = 4 then
        (yrd 60 4 a1 s6 fun v9 =>
        yrd 60 4 a2 s6 fun v10 =>
        if v9 = v10 then
          (if a3 < 0 then
            (ybd (gM_distance a1 a2 s6) fun v13 s14 =>
            some (v13, s14))
          else
            (ybd (gM_changesOf a1 a2 a3 s6) fun v11 s12 =>
            some (v11, s12)))
        else
        some ((-3), s6))
      else
      some ((-12), s6))
    else
      (some ((-12), s6)))
theorem gM_changes_ok {E : Nat → Nat} {R : Nat} {h0 : zHp} (hw : zRg R h0) (d : Nat) (a1 : Int) (a2 : Int) (a3 : Int) (s : zSg) : zE (zov R h0) Ji E (d + 4) 245 (zB 245 0) (zent 4 [.inr (.inr R), .inl a1, .inl a2, .inl a3]) [] s (gM_changes a1 a2 a3 s) := by
  show zE _ _ _ _ _ _ [some (.inr (.inr R)), some (.inl a1), some (.inl a2), some (.inl a3)] _ _ _
  unfold gM_changes
  refine zq_6_0 ?_
  refine zq_4_1 ?_
  refine zq_92_2i (zR_is hw) rfl rfl (gM_isThing_ok (E := E) hw _ _ _) fun v1 s2 => ?_
  refine zq_40 ?_ ?_
  · refine zq_1 ?_
    exact zq_95 rfl
  refine zq_6_0 ?_
  refine zq_4_2 ?_
  refine zq_92_2i (zR_is hw) rfl rfl (gM_isThing_ok (E := E) hw _ _ _) fun v3 s4 => ?_
  refine zq_40 ?_ ?_
  · refine zq_1 ?_
    exact zq_95 rfl
  refine zq_4_3 ?_
  refine zq_1 ?_
  refine zq_1 ?_
  refine zq_90_3i rfl rfl (gM_in_ok (E := E) hw _ _ _ _ _) fun v5 s6 => ?_
  refine zq_41 ?_ ?_
  · refine zq_57 ?_
    refine zq_1 ?_
    exact zq_95 rfl
  · refine zq_6_0 ?_
    refine zr_61 hw rfl ?_
    refine zq_4_1 ?_
    refine zr_65 hw rfl rfl rfl ?_
    refine zq_1 ?_
    refine zq_47 ?_ ?_
    · refine zq_6_0 ?_
      refine zr_61 hw rfl ?_
      refine zq_4_2 ?_
      refine zr_65 hw rfl rfl rfl ?_
      refine zq_1 ?_
      refine zq_46 ?_ ?_
      · refine zq_6_0 ?_
        refine zr_61 hw rfl ?_
        refine zq_4_1 ?_
        refine zr_65 hw rfl rfl rfl ?_
        refine zq_6_0 ?_
        refine zr_61 hw rfl ?_
        refine zq_4_2 ?_
        refine zr_65 hw rfl rfl rfl ?_
        refine zq_46 ?_ ?_
        · refine zq_4_3 ?_
          refine zq_43 ?_ ?_
          · refine zq_6_0 ?_
            refine zq_4_1 ?_
            refine zq_4_2 ?_
            refine zq_92_3i (zR_is hw) rfl rfl (gM_distance_ok (E := E) hw _ _ _ _) fun v13 s14 => ?_
            refine zq_56 ?_
            exact zq_95 rfl
          · refine zq_6_0 ?_
            refine zq_4_1 ?_
            refine zq_4_2 ?_
            refine zq_4_3 ?_
            refine zq_92_4i (zR_is hw) rfl rfl (gM_changesOf_ok (E := E) hw _ _ _ _ _) fun v11 s12 => ?_
            refine zq_57 ?_
            exact zq_95 rfl
        refine zq_1 ?_
        exact zq_95 rfl
      refine zq_57 ?_
      refine zq_1 ?_
      exact zq_95 rfl
    · refine zq_1 ?_
      exact zq_95 rfl
/-! 246: EngraversHouseModel.hangs:(I)I -/
noncomputable def gM_hangs_l3 : Nat → Int → Int → zSg → (Int → Int → zSg → Option (Int × zSg)) → Option (Int × zSg)
  | 0, _, _, _, _ => none
  | n + 1, x4, x5, s6, k7 =>
   yjn (fun (x8 : Int) (x9 : Int) (s10 : zSg) =>
    yvl (zadd x9 1) fun v12 =>
    gM_hangs_l3 n x8 v12 s10 k7) fun q11 =>
    yrd 60 3 x5 s6 fun v13 =>
   if v13 = 4 then
     (yrd 60 4 x5 s6 fun v14 =>
     yrd 60 4 x4 s6 fun v15 =>
     if v14 = v15 then
       (k7 x4 x5 s6)
     else
     q11 x4 x5 s6)
   else
     (q11 x4 x5 s6)
theorem gM_hangs_l3_ok {E : Nat → Nat} {R : Nat} {h0 : zHp} (hw : zRg R h0) (d : Nat) : ∀ (n : Nat) (x4 : Int) (x5 : Int) (s6 : zSg) (k7 : Int → Int → zSg → Option (Int × zSg)) (hk7 : ∀ (y0 : Int) (y1 : Int) (s : zSg), zE (zov R h0) Ji E (d + 4) 246 (zB 246 5) ([some (.inr (.inr R)), some (.inl y0), some (.inl y1), none, none, none, none, none, none]) ([]) s (k7 y0 y1 s)), zE (zov R h0) Ji E (d + 4) 246 (zB 246 3) ([some (.inr (.inr R)), some (.inl x4), some (.inl x5), none, none, none, none, none, none]) ([]) s6 (gM_hangs_l3 n x4 x5 s6 k7) := by
  intro n
  induction n with
  | zero => intro x4 x5 s6 k7 hk7; exact zE_none
  | succ n ih =>
    intro x4 x5 s6 k7 hk7
    unfold gM_hangs_l3
    refine zE_jn (fun q11 => ∀ (y0 : Int) (y1 : Int) (s : zSg), zE (zov R h0) Ji E (d + 4) 246 (zB 246 4) ([some (.inr (.inr R)), some (.inl y0), some (.inl y1), none, none, none, none, none, none]) ([]) s (q11 y0 y1 s)) (fun x8 x9 s10 => ?_) (fun q11 hq11 => ?_)
    · refine zE_vl ?_
      refine zq_10_2 rfl ?_
      refine zq_56 ?_
      exact zE_w [true, true, true, false, false, false, false, false, false] (ih _ _ _ _ hk7)
    refine zq_6_0 ?_
    refine zr_61 hw rfl ?_
    refine zq_4_2 ?_
    refine zr_65 hw rfl rfl rfl ?_
    refine zq_1 ?_
    refine zq_47 ?_ ?_
    · refine zq_6_0 ?_
      refine zr_61 hw rfl ?_
      refine zq_4_2 ?_
      refine zr_65 hw rfl rfl rfl ?_
      refine zq_6_0 ?_
      refine zr_61 hw rfl ?_
      refine zq_4_1 ?_
      refine zr_65 hw rfl rfl rfl ?_
      refine zq_46 ?_ ?_
      · exact zE_w [true, true, true, false, false, false, false, false, false] (hk7 _ _ _)
      refine zq_57 ?_
      exact zE_w [true, true, true, false, false, false, false, false, false] (hq11 _ _ _)
    · exact zE_w [true, true, true, false, false, false, false, false, false] (hq11 _ _ _)
noncomputable def gM_hangs_l7 : Nat → Int → Int → Int → zSg → (Int → zSg → Option (Int × zSg)) → Option (Int × zSg)
  | 0, _, _, _, _, _ => none
  | n + 1, x19, x20, x21, s22, k23 =>
   yjn (fun (x24 : Int) (x25 : Int) (x26 : Int) (x27 : Int) (x28 : Int) (s29 : zSg) =>
    ywz 60 36 x27 x28 s29 fun s31 =>
    yvl (zadd x26 1) fun v32 =>
    gM_hangs_l7 n x24 x25 v32 s31 k23) fun q30 =>
    if x21 < (s22 0 2) then
     (if x21 = x20 then
       (q30 x19 x20 x21 x21 1 s22)
     else
       (q30 x19 x20 x21 x21 0 s22))
   else
     (k23 x19 s22)
theorem gM_hangs_l7_ok {E : Nat → Nat} {R : Nat} {h0 : zHp} (hw : zRg R h0) (d : Nat) : ∀ (n : Nat) (x19 : Int) (x20 : Int) (x21 : Int) (s22 : zSg) (k23 : Int → zSg → Option (Int × zSg)) (hk23 : ∀ (y0 : Int) (s : zSg), zE (zov R h0) Ji E (d + 4) 246 (zB 246 10) ([some (.inr (.inr R)), some (.inl y0), none, none, none, none, none, none, none]) ([]) s (k23 y0 s)), zE (zov R h0) Ji E (d + 4) 246 (zB 246 7) ([some (.inr (.inr R)), some (.inl x19), some (.inl x20), some (.inl x21), none, none, none, none, none]) ([]) s22 (gM_hangs_l7 n x19 x20 x21 s22 k23) := by
  intro n
  induction n with
  | zero => intro x19 x20 x21 s22 k23 hk23; exact zE_none
  | succ n ih =>
    intro x19 x20 x21 s22 k23 hk23
    unfold gM_hangs_l7
    refine zE_jn (fun q30 => ∀ (y0 : Int) (y1 : Int) (y2 : Int) (y3 : Int) (y4 : Int) (s : zSg), zE (zov R h0) Ji E (d + 4) 246 (zB 246 9) ([some (.inr (.inr R)), some (.inl y0), some (.inl y1), some (.inl y2), none, none, none, none, none]) ([.inl y4, .inl y3, .inr (.inr (zra R 36))]) s (q30 y0 y1 y2 y3 y4 s)) (fun x24 x25 x26 x27 x28 s29 => ?_) (fun q30 hq30 => ?_)
    · refine zr_69 hw rfl rfl rfl ?_
      refine zE_vl ?_
      refine zq_10_3 rfl ?_
      refine zq_56 ?_
      exact zE_w [true, true, true, true, false, false, false, false, false] (ih _ _ _ _ _ hk23)
    refine zq_4_3 ?_
    refine zq_6_0 ?_
    refine zr_60 hw rfl ?_
    refine zq_49 ?_ ?_
    · refine zq_6_0 ?_
      refine zr_61 hw rfl ?_
      refine zq_4_3 ?_
      refine zq_4_3 ?_
      refine zq_4_2 ?_
      refine zq_47 ?_ ?_
      · refine zq_1 ?_
        refine zq_56 ?_
        exact zE_w [true, true, true, true, false, false, false, false, false] (hq30 _ _ _ _ _ _)
      · refine zq_1 ?_
        refine zq_57 ?_
        exact zE_w [true, true, true, true, false, false, false, false, false] (hq30 _ _ _ _ _ _)
    · exact zE_w [true, true, false, false, false, false, false, false, false] (hk23 _ _)
noncomputable def gM_hangs_l13 : Nat → Int → Int → Int → Int → Int → Int → zSg → (Int → Int → Int → Int → Int → zSg → Option (Int × zSg)) → Option (Int × zSg)
  | 0, _, _, _, _, _, _, _, _ => none
  | n + 1, x56, x57, x58, x59, x60, x61, s62, k63 =>
   yjn (fun (x64 : Int) (x65 : Int) (x66 : Int) (x67 : Int) (x68 : Int) (x69 : Int) (s70 : zSg) =>
    yvl (zadd x69 1) fun v72 =>
    gM_hangs_l13 n x64 x65 x66 x67 x68 v72 s70 k63) fun q71 =>
    if x61 < (s62 0 2) then
     (yrd 60 36 x61 s62 fun v73 =>
     if v73 = 0 then
       (q71 x56 x57 x58 x59 x60 x61 s62)
     else
       (yjn (fun (x74 : Int) (x75 : Int) (x76 : Int) (x77 : Int) (s78 : zSg) =>
        q71 x74 x75 x76 x77 x75 x76 s78) fun q79 =>
        ybd (gM_distance x60 x61 s62) fun v80 s81 =>
       if x57 < 0 then
         (q79 x56 x60 x61 v80 s81)
       else
       if v80 < x59 then
         (q79 x56 x60 x61 v80 s81)
       else
       q71 x56 x57 x58 x59 x60 x61 s81))
   else
     (k63 x56 x57 x58 x59 x60 s62)
theorem gM_hangs_l13_ok {E : Nat → Nat} {R : Nat} {h0 : zHp} (hw : zRg R h0) (d : Nat) : ∀ (n : Nat) (x56 : Int) (x57 : Int) (x58 : Int) (x59 : Int) (x60 : Int) (x61 : Int) (s62 : zSg) (k63 : Int → Int → Int → Int → Int → zSg → Option (Int × zSg)) (hk63 : ∀ (y0 : Int) (y1 : Int) (y2 : Int) (y3 : Int) (y4 : Int) (s : zSg), zE (zov R h0) Ji E (d + 4) 246 (zB 246 17) ([some (.inr (.inr R)), some (.inl y0), none, some (.inl y1), some (.inl y2), some (.inl y3), some (.inl y4), none, none]) ([]) s (k63 y0 y1 y2 y3 y4 s)), zE (zov R h0) Ji E (d + 4) 246 (zB 246 13) ([some (.inr (.inr R)), some (.inl x56), none, some (.inl x57), some (.inl x58), some (.inl x59), some (.inl x60), some (.inl x61), none]) ([]) s62 (gM_hangs_l13 n x56 x57 x58 x59 x60 x61 s62 k63) := by
  intro n
  induction n with
  | zero => intro x56 x57 x58 x59 x60 x61 s62 k63 hk63; exact zE_none
  | succ n ih =>
    intro x56 x57 x58 x59 x60 x61 s62 k63 hk63
    unfold gM_hangs_l13
    refine zE_jn (fun q71 => ∀ (y0 : Int) (y1 : Int) (y2 : Int) (y3 : Int) (y4 : Int) (y5 : Int) (s : zSg), zE (zov R h0) Ji E (d + 4) 246 (zB 246 16) ([some (.inr (.inr R)), some (.inl y0), none, some (.inl y1), some (.inl y2), some (.inl y3), some (.inl y4), some (.inl y5), none]) ([]) s (q71 y0 y1 y2 y3 y4 y5 s)) (fun x64 x65 x66 x67 x68 x69 s70 => ?_) (fun q71 hq71 => ?_)
    · refine zE_vl ?_
      refine zq_10_7 rfl ?_
      refine zq_56 ?_
      exact zE_w [true, true, false, true, true, true, true, true, false] (ih _ _ _ _ _ _ _ _ hk63)
    refine zq_4_7 ?_
    refine zq_6_0 ?_
    refine zr_60 hw rfl ?_
    refine zq_49 ?_ ?_
    · refine zq_6_0 ?_
      refine zr_61 hw rfl ?_
      refine zq_4_7 ?_
      refine zr_66 hw rfl rfl rfl ?_
      refine zq_41 ?_ ?_
      · refine zq_56 ?_
        exact zE_w [true, true, false, true, true, true, true, true, false] (hq71 _ _ _ _ _ _ _)
      · refine zE_jn (fun q79 => ∀ (y0 : Int) (y1 : Int) (y2 : Int) (y3 : Int) (s : zSg), zE (zov R h0) Ji E (d + 4) 246 (zB 246 15) ([some (.inr (.inr R)), some (.inl y0), none, none, none, none, some (.inl y1), some (.inl y2), some (.inl y3)]) ([]) s (q79 y0 y1 y2 y3 s)) (fun x74 x75 x76 x77 s78 => ?_) (fun q79 hq79 => ?_)
        · refine zq_4_6 ?_
          refine zq_7_3 rfl ?_
          refine zq_4_7 ?_
          refine zq_7_4 rfl ?_
          refine zq_4_8 ?_
          refine zq_7_5 rfl ?_
          refine zq_57 ?_
          exact zE_w [true, true, false, true, true, true, true, true, false] (hq71 _ _ _ _ _ _ _)
        refine zq_6_0 ?_
        refine zq_4_6 ?_
        refine zq_4_7 ?_
        refine zq_92_3i (zR_is hw) rfl rfl (gM_distance_ok (E := E) hw _ _ _ _) fun v80 s81 => ?_
        refine zq_7_8 rfl ?_
        refine zq_4_3 ?_
        refine zq_42 ?_ ?_
        · exact zE_w [true, true, false, false, false, false, true, true, true] (hq79 _ _ _ _ _)
        refine zq_4_8 ?_
        refine zq_4_5 ?_
        refine zq_48 ?_ ?_
        · exact zE_w [true, true, false, false, false, false, true, true, true] (hq79 _ _ _ _ _)
        refine zq_56 ?_
        exact zE_w [true, true, false, true, true, true, true, true, false] (hq71 _ _ _ _ _ _ _)
    · exact zE_w [true, true, false, true, true, true, true, false, false] (hk63 _ _ _ _ _ _)
noncomputable def gM_hangs_l11 : Nat → Int → Int → Int → Int → Int → zSg → (Int → Int → Int → zSg → Option (Int × zSg)) → Option (Int × zSg)
  | 0, _, _, _, _, _, _, _ => none
  | n + 1, x37, x38, x39, x40, x41, s42, k43 =>
   yjn (fun (x44 : Int) (x45 : Int) (x46 : Int) (x47 : Int) (x48 : Int) (s49 : zSg) =>
    yvl (zadd x48 1) fun v51 =>
    gM_hangs_l11 n x44 x45 x46 x47 v51 s49 k43) fun q50 =>
    if x41 < (s42 0 2) then
     (yrd 60 3 x41 s42 fun v52 =>
     if v52 = 4 then
       (yrd 60 4 x41 s42 fun v53 =>
       yrd 60 4 x37 s42 fun v54 =>
       if v53 = v54 then
         (yrd 60 36 x41 s42 fun v55 =>
         if v55 = 0 then
           (gM_hangs_l13 zFU x37 x38 x39 x40 x41 0 s42 q50)
         else
         q50 x37 x38 x39 x40 x41 s42)
       else
         (q50 x37 x38 x39 x40 x41 s42))
     else
       (q50 x37 x38 x39 x40 x41 s42))
   else
     (k43 x37 x38 x39 s42)
theorem gM_hangs_l11_ok {E : Nat → Nat} {R : Nat} {h0 : zHp} (hw : zRg R h0) (d : Nat) : ∀ (n : Nat) (x37 : Int) (x38 : Int) (x39 : Int) (x40 : Int) (x41 : Int) (s42 : zSg) (k43 : Int → Int → Int → zSg → Option (Int × zSg)) (hk43 : ∀ (y0 : Int) (y1 : Int) (y2 : Int) (s : zSg), zE (zov R h0) Ji E (d + 4) 246 (zB 246 18) ([some (.inr (.inr R)), some (.inl y0), none, some (.inl y1), some (.inl y2), none, none, none, none]) ([]) s (k43 y0 y1 y2 s)), zE (zov R h0) Ji E (d + 4) 246 (zB 246 11) ([some (.inr (.inr R)), some (.inl x37), none, some (.inl x38), some (.inl x39), some (.inl x40), some (.inl x41), none, none]) ([]) s42 (gM_hangs_l11 n x37 x38 x39 x40 x41 s42 k43) := by
  intro n
  induction n with
  | zero => intro x37 x38 x39 x40 x41 s42 k43 hk43; exact zE_none
  | succ n ih =>
    intro x37 x38 x39 x40 x41 s42 k43 hk43
    unfold gM_hangs_l11
    refine zE_jn (fun q50 => ∀ (y0 : Int) (y1 : Int) (y2 : Int) (y3 : Int) (y4 : Int) (s : zSg), zE (zov R h0) Ji E (d + 4) 246 (zB 246 17) ([some (.inr (.inr R)), some (.inl y0), none, some (.inl y1), some (.inl y2), some (.inl y3), some (.inl y4), none, none]) ([]) s (q50 y0 y1 y2 y3 y4 s)) (fun x44 x45 x46 x47 x48 s49 => ?_) (fun q50 hq50 => ?_)
    · refine zE_vl ?_
      refine zq_10_6 rfl ?_
      refine zq_56 ?_
      exact zE_w [true, true, false, true, true, true, true, false, false] (ih _ _ _ _ _ _ _ hk43)
    refine zq_4_6 ?_
    refine zq_6_0 ?_
    refine zr_60 hw rfl ?_
    refine zq_49 ?_ ?_
    · refine zq_6_0 ?_
      refine zr_61 hw rfl ?_
      refine zq_4_6 ?_
      refine zr_65 hw rfl rfl rfl ?_
      refine zq_1 ?_
      refine zq_47 ?_ ?_
      · refine zq_6_0 ?_
        refine zr_61 hw rfl ?_
        refine zq_4_6 ?_
        refine zr_65 hw rfl rfl rfl ?_
        refine zq_6_0 ?_
        refine zr_61 hw rfl ?_
        refine zq_4_1 ?_
        refine zr_65 hw rfl rfl rfl ?_
        refine zq_47 ?_ ?_
        · refine zq_6_0 ?_
          refine zr_61 hw rfl ?_
          refine zq_4_6 ?_
          refine zr_66 hw rfl rfl rfl ?_
          refine zq_40 ?_ ?_
          · refine zq_1 ?_
            refine zq_7_7 rfl ?_
            refine zq_57 ?_
            exact zE_w [true, true, false, true, true, true, true, true, false] (gM_hangs_l13_ok (E := E) hw d zFU _ _ _ _ _ _ _ _ hq50)
          refine zq_56 ?_
          exact zE_w [true, true, false, true, true, true, true, false, false] (hq50 _ _ _ _ _ _)
        · exact zE_w [true, true, false, true, true, true, true, false, false] (hq50 _ _ _ _ _ _)
      · exact zE_w [true, true, false, true, true, true, true, false, false] (hq50 _ _ _ _ _ _)
    · exact zE_w [true, true, false, true, true, false, false, false, false] (hk43 _ _ _ _)
noncomputable def gM_hangs_l10 : Nat → Int → zSg → Option (Int × zSg)
  | 0, _, _ => none
  | n + 1, x35, s36 =>
   gM_hangs_l11 zFU x35 (-1) (-1) 0 0 s36 (fun (x82 : Int) (x83 : Int) (x84 : Int) (s85 : zSg) =>
    ywz 60 36 x83 1 s85 fun s86 =>
    if x83 = x82 then
      (some (x84, s86))
    else
      (gM_hangs_l10 n x82 s86))
theorem gM_hangs_l10_ok {E : Nat → Nat} {R : Nat} {h0 : zHp} (hw : zRg R h0) (d : Nat) : ∀ (n : Nat) (x35 : Int) (s36 : zSg), zE (zov R h0) Ji E (d + 4) 246 (zB 246 10) ([some (.inr (.inr R)), some (.inl x35), none, none, none, none, none, none, none]) ([]) s36 (gM_hangs_l10 n x35 s36) := by
  intro n
  induction n with
  | zero => intro x35 s36; exact zE_none
  | succ n ih =>
    intro x35 s36
    unfold gM_hangs_l10
    refine zq_1 ?_
    refine zq_7_3 rfl ?_
    refine zq_1 ?_
    refine zq_7_4 rfl ?_
    refine zq_1 ?_
    refine zq_7_5 rfl ?_
    refine zq_1 ?_
    refine zq_7_6 rfl ?_
    refine zq_57 ?_
    refine zE_w [true, true, false, true, true, true, true, false, false] (gM_hangs_l11_ok (E := E) hw d zFU _ _ _ _ _ _ _ (fun x82 x83 x84 s85 => ?_))
    refine zq_6_0 ?_
    refine zr_61 hw rfl ?_
    refine zq_4_3 ?_
    refine zq_1 ?_
    refine zr_69 hw rfl rfl rfl ?_
    refine zq_4_3 ?_
    refine zq_4_1 ?_
    refine zq_47 ?_ ?_
    · refine zq_4_4 ?_
      exact zq_95 rfl
    · refine zq_56 ?_
      exact zE_w [true, true, false, false, false, false, false, false, false] (ih _ _)
noncomputable def gM_hangs (a1 : Int) (s : zSg) : Option (Int × zSg) :=
  ybd (gM_isThing a1 s) fun v1 s2 =>
  if v1 = 0 then
    (some ((-5), s2))
  else
  yrd 60 3 a1 s2 fun v3 =>
  if v3 = 4 then
    (gM_hangs_l3 zFU a1 0 s2 (fun (x16 : Int) (x17 : Int) (s18 : zSg) =>
     if x17 = x16 then
       (some ((-1), s18))
     else
       (gM_hangs_l7 zFU x16 x17 0 s18 (fun (x33 : Int) (s34 : zSg) =>
        gM_hangs_l10 zFU x33 s34))))
  else
  some ((-5), s2)
theorem gM_hangs_ok {E : Nat → Nat} {R : Nat} {h0 : zHp} (hw : zRg R h0) (d : Nat) (a1 : Int) (s : zSg) : zE (zov R h0) Ji E (d + 4) 246 (zB 246 0) (zent 9 [.inr (.inr R), .inl a1]) [] s (gM_hangs a1 s) := by
  show zE _ _ _ _ _ _ [some (.inr (.inr R)), some (.inl a1), none, none, none, none, none, none, none] _ _ _
  unfold gM_hangs
  refine zq_6_0 ?_
  refine zq_4_1 ?_
  refine zq_92_2i (zR_is hw) rfl rfl (gM_isThing_ok (E := E) hw _ _ _) fun v1 s2 => ?_
  refine zq_40 ?_ ?_
  · refine zq_1 ?_
    exact zq_95 rfl
  refine zq_6_0 ?_
  refine zr_61 hw rfl ?_
  refine zq_4_1 ?_
  refine zr_65 hw rfl rfl rfl ?_
  refine zq_1 ?_
  refine zq_46 ?_ ?_
  · refine zq_1 ?_
    refine zq_7_2 rfl ?_
    refine zq_57 ?_
    refine zE_w [true, true, true, false, false, false, false, false, false] (gM_hangs_l3_ok (E := E) hw d zFU _ _ _ _ (fun x16 x17 s18 => ?_))
    refine zq_4_2 ?_
    refine zq_4_1 ?_
    refine zq_47 ?_ ?_
    · refine zq_1 ?_
      exact zq_95 rfl
    · refine zq_1 ?_
      refine zq_7_3 rfl ?_
      refine zq_57 ?_
      refine zE_w [true, true, true, true, false, false, false, false, false] (gM_hangs_l7_ok (E := E) hw d zFU _ _ _ _ _ (fun x33 s34 => ?_))
      exact zE_w [true, true, false, false, false, false, false, false, false] (gM_hangs_l10_ok (E := E) hw d zFU _ _)
  refine zq_57 ?_
  refine zq_1 ?_
  exact zq_95 rfl
/-! 247: EngraversHouseModel.pages:(IIII)I -/
noncomputable def gM_pages_l7 : Nat → Int → Int → Int → Int → Int → Int → zSg → (Int → Int → Int → Int → zSg → Option (Int × zSg)) → Option (Int × zSg)
  | 0, _, _, _, _, _, _, _, _ => none
  | n + 1, x13, x14, x15, x16, x17, x18, s19, k20 =>
   yjn (fun (x21 : Int) (x22 : Int) (x23 : Int) (x24 : Int) (x25 : Int) (x26 : Int) (x27 : Int) (x28 : Int) (s29 : zSg) =>
    yjn (fun (x31 : Int) (x32 : Int) (x33 : Int) (x34 : Int) (x35 : Int) (x36 : Int) (x37 : Int) (x38 : Int) (s39 : zSg) =>
     ywz 20 38 x37 x38 s39 fun s41 =>
     yrd 20 37 x36 s41 fun v42 =>
     if x32 < v42 then
       (some ((-3), s41))
     else
       (yvl (zadd x36 1) fun v43 =>
       gM_pages_l7 n x31 x32 x33 x34 x35 v43 s41 k20)) fun q40 =>
     ywz 20 39 x27 x28 s29 fun s44 =>
    yrd 8 17 (zsub (s44 0 16) 1) s44 fun v45 =>
    if v45 = (-1000) then
      (q40 x21 x22 x23 x24 x25 x26 x26 1 s44)
    else
      (q40 x21 x22 x23 x24 x25 x26 x26 0 s44)) fun q30 =>
    if x18 < x17 then
     (ybd (gM_readBar x13 x18 s19) fun _ s46 =>
     ywi 20 37 x18 (zadd 2 (zmul 3 (s46 0 16))) s46 fun s47 =>
     yrd 8 17 0 s47 fun v48 =>
     if v48 = (-1000) then
       (q30 x13 x14 x15 x16 x17 x18 x18 1 s47)
     else
       (q30 x13 x14 x15 x16 x17 x18 x18 0 s47))
   else
     (k20 x14 x15 x16 x17 s19)
theorem gM_pages_l7_ok {E : Nat → Nat} {R : Nat} {h0 : zHp} (hw : zRg R h0) (d : Nat) : ∀ (n : Nat) (x13 : Int) (x14 : Int) (x15 : Int) (x16 : Int) (x17 : Int) (x18 : Int) (s19 : zSg) (k20 : Int → Int → Int → Int → zSg → Option (Int × zSg)) (hk20 : ∀ (y0 : Int) (y1 : Int) (y2 : Int) (y3 : Int) (s : zSg), zE (zov R h0) Ji E (d + 3) 247 (zB 247 13) ([some (.inr (.inr R)), none, some (.inl y0), some (.inl y1), some (.inl y2), some (.inl y3), none, none, none, none, none, none, none]) ([]) s (k20 y0 y1 y2 y3 s)), zE (zov R h0) Ji E (d + 3) 247 (zB 247 7) ([some (.inr (.inr R)), some (.inl x13), some (.inl x14), some (.inl x15), some (.inl x16), some (.inl x17), some (.inl x18), none, none, none, none, none, none]) ([]) s19 (gM_pages_l7 n x13 x14 x15 x16 x17 x18 s19 k20) := by
  intro n
  induction n with
  | zero => intro x13 x14 x15 x16 x17 x18 s19 k20 hk20; exact zE_none
  | succ n ih =>
    intro x13 x14 x15 x16 x17 x18 s19 k20 hk20
    unfold gM_pages_l7
    refine zE_jn (fun q30 => ∀ (y0 : Int) (y1 : Int) (y2 : Int) (y3 : Int) (y4 : Int) (y5 : Int) (y6 : Int) (y7 : Int) (s : zSg), zE (zov R h0) Ji E (d + 3) 247 (zB 247 9) ([some (.inr (.inr R)), some (.inl y0), some (.inl y1), some (.inl y2), some (.inl y3), some (.inl y4), some (.inl y5), none, none, none, none, none, none]) ([.inl y7, .inl y6, .inr (.inr (zra R 39))]) s (q30 y0 y1 y2 y3 y4 y5 y6 y7 s)) (fun x21 x22 x23 x24 x25 x26 x27 x28 s29 => ?_) (fun q30 hq30 => ?_)
    · refine zE_jn (fun q40 => ∀ (y0 : Int) (y1 : Int) (y2 : Int) (y3 : Int) (y4 : Int) (y5 : Int) (y6 : Int) (y7 : Int) (s : zSg), zE (zov R h0) Ji E (d + 3) 247 (zB 247 11) ([some (.inr (.inr R)), some (.inl y0), some (.inl y1), some (.inl y2), some (.inl y3), some (.inl y4), some (.inl y5), none, none, none, none, none, none]) ([.inl y7, .inl y6, .inr (.inr (zra R 38))]) s (q40 y0 y1 y2 y3 y4 y5 y6 y7 s)) (fun x31 x32 x33 x34 x35 x36 x37 x38 s39 => ?_) (fun q40 hq40 => ?_)
      · refine zr_69 hw rfl rfl rfl ?_
        refine zq_6_0 ?_
        refine zr_61 hw rfl ?_
        refine zq_4_6 ?_
        refine zr_65 hw rfl rfl rfl ?_
        refine zq_4_2 ?_
        refine zq_51 ?_ ?_
        · refine zq_1 ?_
          exact zq_95 rfl
        · refine zE_vl ?_
          refine zq_10_6 rfl ?_
          refine zq_56 ?_
          exact zE_w [true, true, true, true, true, true, true, false, false, false, false, false, false] (ih _ _ _ _ _ _ _ _ hk20)
      refine zr_69 hw rfl rfl rfl ?_
      refine zq_6_0 ?_
      refine zr_61 hw rfl ?_
      refine zq_4_6 ?_
      refine zq_6_0 ?_
      refine zr_61 hw rfl ?_
      refine zq_6_0 ?_
      refine zr_60 hw rfl ?_
      refine zq_1 ?_
      refine zq_12 ?_
      refine zr_65 hw rfl rfl rfl ?_
      refine zq_1 ?_
      refine zq_47 ?_ ?_
      · refine zq_1 ?_
        refine zq_56 ?_
        exact zE_w [true, true, true, true, true, true, true, false, false, false, false, false, false] (hq40 _ _ _ _ _ _ _ _ _)
      · refine zq_1 ?_
        refine zq_57 ?_
        exact zE_w [true, true, true, true, true, true, true, false, false, false, false, false, false] (hq40 _ _ _ _ _ _ _ _ _)
    refine zq_4_6 ?_
    refine zq_4_5 ?_
    refine zq_49 ?_ ?_
    · refine zq_6_0 ?_
      refine zq_4_1 ?_
      refine zq_4_6 ?_
      refine zq_92_3v (zR_is hw) rfl rfl (gM_readBar_ok (E := E) hw _ _ _ _) fun _ s46 => ?_
      refine zq_6_0 ?_
      refine zr_61 hw rfl ?_
      refine zq_4_6 ?_
      refine zq_1 ?_
      refine zq_1 ?_
      refine zq_6_0 ?_
      refine zr_60 hw rfl ?_
      refine zq_13 ?_
      refine zq_11 ?_
      refine zr_68 hw rfl rfl rfl ?_
      refine zq_6_0 ?_
      refine zr_61 hw rfl ?_
      refine zq_4_6 ?_
      refine zq_6_0 ?_
      refine zr_61 hw rfl ?_
      refine zq_1 ?_
      refine zr_65 hw rfl rfl rfl ?_
      refine zq_1 ?_
      refine zq_47 ?_ ?_
      · refine zq_1 ?_
        refine zq_56 ?_
        exact zE_w [true, true, true, true, true, true, true, false, false, false, false, false, false] (hq30 _ _ _ _ _ _ _ _ _)
      · refine zq_1 ?_
        refine zq_57 ?_
        exact zE_w [true, true, true, true, true, true, true, false, false, false, false, false, false] (hq30 _ _ _ _ _ _ _ _ _)
    · exact zE_w [true, false, true, true, true, true, false, false, false, false, false, false, false] (hk20 _ _ _ _ _)
noncomputable def gM_pages_l14 : Nat → Int → Int → Int → Int → Int → zSg → (Int → Int → Int → Int → zSg → Option (Int × zSg)) → Option (Int × zSg)
  | 0, _, _, _, _, _, _, _ => none
  | n + 1, x54, x55, x56, x57, x58, s59, k60 =>
   if x58 < 4 then
     (ywi 84 40 (zadd (zmul 4 x57) x58) 0 s59 fun s61 =>
     yvl (zadd x58 1) fun v62 =>
     gM_pages_l14 n x54 x55 x56 x57 v62 s61 k60)
   else
     (k60 x54 x55 x56 x57 s59)
theorem gM_pages_l14_ok {E : Nat → Nat} {R : Nat} {h0 : zHp} (hw : zRg R h0) (d : Nat) : ∀ (n : Nat) (x54 : Int) (x55 : Int) (x56 : Int) (x57 : Int) (x58 : Int) (s59 : zSg) (k60 : Int → Int → Int → Int → zSg → Option (Int × zSg)) (hk60 : ∀ (y0 : Int) (y1 : Int) (y2 : Int) (y3 : Int) (s : zSg), zE (zov R h0) Ji E (d + 3) 247 (zB 247 15) ([some (.inr (.inr R)), none, some (.inl y0), some (.inl y1), some (.inl y2), some (.inl y3), none, none, none, none, none, none, none]) ([]) s (k60 y0 y1 y2 y3 s)), zE (zov R h0) Ji E (d + 3) 247 (zB 247 14) ([some (.inr (.inr R)), none, some (.inl x54), some (.inl x55), some (.inl x56), some (.inl x57), some (.inl x58), none, none, none, none, none, none]) ([]) s59 (gM_pages_l14 n x54 x55 x56 x57 x58 s59 k60) := by
  intro n
  induction n with
  | zero => intro x54 x55 x56 x57 x58 s59 k60 hk60; exact zE_none
  | succ n ih =>
    intro x54 x55 x56 x57 x58 s59 k60 hk60
    unfold gM_pages_l14
    refine zq_4_6 ?_
    refine zq_1 ?_
    refine zq_49 ?_ ?_
    · refine zq_6_0 ?_
      refine zr_61 hw rfl ?_
      refine zq_1 ?_
      refine zq_4_5 ?_
      refine zq_13 ?_
      refine zq_4_6 ?_
      refine zq_11 ?_
      refine zq_1 ?_
      refine zr_68 hw rfl rfl rfl ?_
      refine zE_vl ?_
      refine zq_10_6 rfl ?_
      refine zq_56 ?_
      exact zE_w [true, false, true, true, true, true, true, false, false, false, false, false, false] (ih _ _ _ _ _ _ _ hk60)
    · exact zE_w [true, false, true, true, true, true, false, false, false, false, false, false, false] (hk60 _ _ _ _ _)
noncomputable def gM_pages_l18 : Nat → Int → Int → Int → Int → Int → Int → Int → Int → Int → zSg → (Int → Int → Int → Int → Int → Int → Int → zSg → Option (Int × zSg)) → Option (Int × zSg)
  | 0, _, _, _, _, _, _, _, _, _, _, _ => none
  | n + 1, x84, x85, x86, x87, x88, x89, x90, x91, x92, s93, k94 =>
   yjn (fun (x95 : Int) (x96 : Int) (x97 : Int) (x98 : Int) (x99 : Int) (x100 : Int) (x101 : Int) (x102 : Int) (x103 : Int) (x104 : Int) (s105 : zSg) =>
    yjn (fun (x107 : Int) (x108 : Int) (x109 : Int) (x110 : Int) (x111 : Int) (x112 : Int) (x113 : Int) (x114 : Int) (x115 : Int) (x116 : Int) (x117 : Int) (s118 : zSg) =>
     yjn (fun (x120 : Int) (x121 : Int) (x122 : Int) (x123 : Int) (x124 : Int) (x125 : Int) (x126 : Int) (x127 : Int) (x128 : Int) (x129 : Int) (x130 : Int) (s131 : zSg) =>
      yjn (fun (x133 : Int) (x134 : Int) (x135 : Int) (x136 : Int) (x137 : Int) (x138 : Int) (x139 : Int) (x140 : Int) (x141 : Int) (x142 : Int) (x143 : Int) (x144 : Int) (s145 : zSg) =>
       yjn (fun (x147 : Int) (x148 : Int) (x149 : Int) (x150 : Int) (x151 : Int) (x152 : Int) (x153 : Int) (x154 : Int) (x155 : Int) (s156 : zSg) =>
        yvl (zadd x155 1) fun v158 =>
        gM_pages_l18 n x147 x148 x149 x150 x151 x152 x153 x154 v158 s156 k94) fun q157 =>
        yjn (fun (x159 : Int) (x160 : Int) (x161 : Int) (x162 : Int) (x163 : Int) (x164 : Int) (x165 : Int) (x166 : Int) (x167 : Int) (s168 : zSg) =>
        ywi 84 41 (zadd (zmul 4 x163) x164) (zadd (zsub x166 x163) 1) s168 fun s170 =>
        q157 x159 x160 x161 x162 x163 x164 x167 x165 x166 s170) fun q169 =>
        yrd 84 40 (zadd x143 x144) s145 fun v171 =>
       yvl (zadd x142 v171) fun v172 =>
       if x139 < 0 then
         (q169 x133 x134 x135 x136 x137 x138 x140 x141 v172 s145)
       else
       if x139 < v172 then
         (q157 x133 x134 x135 x136 x137 x138 x139 x140 x141 s145)
       else
         (q169 x133 x134 x135 x136 x137 x138 x140 x141 v172 s145)) fun q146 =>
       if x130 = 0 then
        (q146 x120 x121 x122 x123 x124 x125 x126 x127 x128 x129 (zmul 4 (zadd x128 1)) (zadd x125 1) s131)
      else
      q146 x120 x121 x122 x123 x124 x125 x126 x127 x128 x129 (zmul 4 (zadd x128 1)) 0 s131) fun q132 =>
      if x117 = 0 then
       (q132 x107 x108 x109 x110 x111 x112 x113 x114 x115 x116 x117 s118)
     else
     if x115 < (zsub x110 1) then
       (yrd 20 38 x115 s118 fun v173 =>
       if v173 = 0 then
         (yrd 20 39 (zadd x115 1) s118 fun v174 =>
         if v174 = 0 then
           (yvl (zadd x116 1000) fun v175 =>
           q132 x107 x108 x109 x110 x111 x112 x113 x114 x115 v175 x117 s118)
         else
           (q132 x107 x108 x109 x110 x111 x112 x113 x114 x115 x116 x117 s118))
       else
         (q132 x107 x108 x109 x110 x111 x112 x113 x114 x115 x116 x117 s118))
     else
       (q132 x107 x108 x109 x110 x111 x112 x113 x114 x115 x116 x117 s118)) fun q119 =>
     if x100 = (zsub x96 1) then
      (q119 x95 x96 x97 x98 x99 x100 x101 x102 x103 x104 1 s105)
    else
      (q119 x95 x96 x97 x98 x99 x100 x101 x102 x103 x104 0 s105)) fun q106 =>
    if x92 < x87 then
     (yrd 20 37 x92 s93 fun v176 =>
     if x84 < (zadd x91 v176) then
       (k94 x84 x85 x86 x87 x88 x89 x90 s93)
     else
     yrd 20 37 x92 s93 fun v177 =>
     yvl (zadd x91 v177) fun v178 =>
     if x92 = (zsub x87 1) then
       (q106 x84 x85 x86 x87 x88 x89 x90 v178 x92 0 s93)
     else
       (q106 x84 x85 x86 x87 x88 x89 x90 v178 x92 (zmul (zsub x84 v178) (zsub x84 v178)) s93))
   else
     (k94 x84 x85 x86 x87 x88 x89 x90 s93)
theorem gM_pages_l18_ok {E : Nat → Nat} {R : Nat} {h0 : zHp} (hw : zRg R h0) (d : Nat) : ∀ (n : Nat) (x84 : Int) (x85 : Int) (x86 : Int) (x87 : Int) (x88 : Int) (x89 : Int) (x90 : Int) (x91 : Int) (x92 : Int) (s93 : zSg) (k94 : Int → Int → Int → Int → Int → Int → Int → zSg → Option (Int × zSg)) (hk94 : ∀ (y0 : Int) (y1 : Int) (y2 : Int) (y3 : Int) (y4 : Int) (y5 : Int) (y6 : Int) (s : zSg), zE (zov R h0) Ji E (d + 3) 247 (zB 247 28) ([some (.inr (.inr R)), none, some (.inl y0), some (.inl y1), some (.inl y2), some (.inl y3), some (.inl y4), some (.inl y5), some (.inl y6), none, none, none, none]) ([]) s (k94 y0 y1 y2 y3 y4 y5 y6 s)), zE (zov R h0) Ji E (d + 3) 247 (zB 247 18) ([some (.inr (.inr R)), none, some (.inl x84), some (.inl x85), some (.inl x86), some (.inl x87), some (.inl x88), some (.inl x89), some (.inl x90), some (.inl x91), some (.inl x92), none, none]) ([]) s93 (gM_pages_l18 n x84 x85 x86 x87 x88 x89 x90 x91 x92 s93 k94) := by
  intro n
  induction n with
  | zero => intro x84 x85 x86 x87 x88 x89 x90 x91 x92 s93 k94 hk94; exact zE_none
  | succ n ih =>
    intro x84 x85 x86 x87 x88 x89 x90 x91 x92 s93 k94 hk94
    unfold gM_pages_l18
    refine zE_jn (fun q106 => ∀ (y0 : Int) (y1 : Int) (y2 : Int) (y3 : Int) (y4 : Int) (y5 : Int) (y6 : Int) (y7 : Int) (y8 : Int) (y9 : Int) (s : zSg), zE (zov R h0) Ji E (d + 3) 247 (zB 247 20) ([some (.inr (.inr R)), none, some (.inl y0), some (.inl y1), some (.inl y2), some (.inl y3), some (.inl y4), some (.inl y5), some (.inl y6), some (.inl y7), some (.inl y8), none, none]) ([.inl y9]) s (q106 y0 y1 y2 y3 y4 y5 y6 y7 y8 y9 s)) (fun x95 x96 x97 x98 x99 x100 x101 x102 x103 x104 s105 => ?_) (fun q106 hq106 => ?_)
    · refine zE_jn (fun q119 => ∀ (y0 : Int) (y1 : Int) (y2 : Int) (y3 : Int) (y4 : Int) (y5 : Int) (y6 : Int) (y7 : Int) (y8 : Int) (y9 : Int) (y10 : Int) (s : zSg), zE (zov R h0) Ji E (d + 3) 247 (zB 247 22) ([some (.inr (.inr R)), none, some (.inl y0), some (.inl y1), some (.inl y2), some (.inl y3), some (.inl y4), some (.inl y5), some (.inl y6), some (.inl y7), some (.inl y8), some (.inl y9), none]) ([.inl y10]) s (q119 y0 y1 y2 y3 y4 y5 y6 y7 y8 y9 y10 s)) (fun x107 x108 x109 x110 x111 x112 x113 x114 x115 x116 x117 s118 => ?_) (fun q119 hq119 => ?_)
      · refine zE_jn (fun q132 => ∀ (y0 : Int) (y1 : Int) (y2 : Int) (y3 : Int) (y4 : Int) (y5 : Int) (y6 : Int) (y7 : Int) (y8 : Int) (y9 : Int) (y10 : Int) (s : zSg), zE (zov R h0) Ji E (d + 3) 247 (zB 247 23) ([some (.inr (.inr R)), none, some (.inl y0), some (.inl y1), some (.inl y2), some (.inl y3), some (.inl y4), some (.inl y5), some (.inl y6), some (.inl y7), some (.inl y8), some (.inl y9), some (.inl y10)]) ([]) s (q132 y0 y1 y2 y3 y4 y5 y6 y7 y8 y9 y10 s)) (fun x120 x121 x122 x123 x124 x125 x126 x127 x128 x129 x130 s131 => ?_) (fun q132 hq132 => ?_)
        · refine zE_jn (fun q146 => ∀ (y0 : Int) (y1 : Int) (y2 : Int) (y3 : Int) (y4 : Int) (y5 : Int) (y6 : Int) (y7 : Int) (y8 : Int) (y9 : Int) (y10 : Int) (y11 : Int) (s : zSg), zE (zov R h0) Ji E (d + 3) 247 (zB 247 25) ([some (.inr (.inr R)), none, some (.inl y0), some (.inl y1), some (.inl y2), some (.inl y3), some (.inl y4), some (.inl y5), some (.inl y6), some (.inl y7), some (.inl y8), none, none]) ([.inl y11, .inl y10, .inr (.inr (zra R 40)), .inl y9]) s (q146 y0 y1 y2 y3 y4 y5 y6 y7 y8 y9 y10 y11 s)) (fun x133 x134 x135 x136 x137 x138 x139 x140 x141 x142 x143 x144 s145 => ?_) (fun q146 hq146 => ?_)
          · refine zE_jn (fun q157 => ∀ (y0 : Int) (y1 : Int) (y2 : Int) (y3 : Int) (y4 : Int) (y5 : Int) (y6 : Int) (y7 : Int) (y8 : Int) (s : zSg), zE (zov R h0) Ji E (d + 3) 247 (zB 247 27) ([some (.inr (.inr R)), none, some (.inl y0), some (.inl y1), some (.inl y2), some (.inl y3), some (.inl y4), some (.inl y5), some (.inl y6), some (.inl y7), some (.inl y8), none, none]) ([]) s (q157 y0 y1 y2 y3 y4 y5 y6 y7 y8 s)) (fun x147 x148 x149 x150 x151 x152 x153 x154 x155 s156 => ?_) (fun q157 hq157 => ?_)
            · refine zE_vl ?_
              refine zq_10_10 rfl ?_
              refine zq_56 ?_
              exact zE_w [true, false, true, true, true, true, true, true, true, true, true, false, false] (ih _ _ _ _ _ _ _ _ _ _ _ hk94)
            refine zE_jn (fun q169 => ∀ (y0 : Int) (y1 : Int) (y2 : Int) (y3 : Int) (y4 : Int) (y5 : Int) (y6 : Int) (y7 : Int) (y8 : Int) (s : zSg), zE (zov R h0) Ji E (d + 3) 247 (zB 247 26) ([some (.inr (.inr R)), none, some (.inl y0), some (.inl y1), some (.inl y2), some (.inl y3), some (.inl y4), some (.inl y5), none, some (.inl y6), some (.inl y7), some (.inl y8), none]) ([]) s (q169 y0 y1 y2 y3 y4 y5 y6 y7 y8 s)) (fun x159 x160 x161 x162 x163 x164 x165 x166 x167 s168 => ?_) (fun q169 hq169 => ?_)
            · refine zq_4_11 ?_
              refine zq_7_8 rfl ?_
              refine zq_6_0 ?_
              refine zr_61 hw rfl ?_
              refine zq_1 ?_
              refine zq_4_6 ?_
              refine zq_13 ?_
              refine zq_4_7 ?_
              refine zq_11 ?_
              refine zq_4_10 ?_
              refine zq_4_6 ?_
              refine zq_12 ?_
              refine zq_1 ?_
              refine zq_11 ?_
              refine zr_68 hw rfl rfl rfl ?_
              refine zq_57 ?_
              exact zE_w [true, false, true, true, true, true, true, true, true, true, true, false, false] (hq157 _ _ _ _ _ _ _ _ _ _)
            refine zq_11 ?_
            refine zr_65 hw rfl rfl rfl ?_
            refine zq_11 ?_
            refine zE_vl ?_
            refine zq_7_11 rfl ?_
            refine zq_4_8 ?_
            refine zq_42 ?_ ?_
            · exact zE_w [true, false, true, true, true, true, true, true, false, true, true, true, false] (hq169 _ _ _ _ _ _ _ _ _ _)
            refine zq_4_11 ?_
            refine zq_4_8 ?_
            refine zq_51 ?_ ?_
            · refine zq_56 ?_
              exact zE_w [true, false, true, true, true, true, true, true, true, true, true, false, false] (hq157 _ _ _ _ _ _ _ _ _ _)
            · exact zE_w [true, false, true, true, true, true, true, true, false, true, true, true, false] (hq169 _ _ _ _ _ _ _ _ _ _)
          refine zq_4_11 ?_
          refine zq_6_0 ?_
          refine zr_61 hw rfl ?_
          refine zq_1 ?_
          refine zq_4_10 ?_
          refine zq_1 ?_
          refine zq_11 ?_
          refine zq_13 ?_
          refine zq_4_12 ?_
          refine zq_40 ?_ ?_
          · refine zq_4_7 ?_
            refine zq_1 ?_
            refine zq_11 ?_
            refine zq_57 ?_
            exact zE_w [true, false, true, true, true, true, true, true, true, true, true, false, false] (hq146 _ _ _ _ _ _ _ _ _ _ _ _ _)
          refine zq_1 ?_
          refine zq_56 ?_
          exact zE_w [true, false, true, true, true, true, true, true, true, true, true, false, false] (hq146 _ _ _ _ _ _ _ _ _ _ _ _ _)
        refine zq_7_12 rfl ?_
        refine zq_4_12 ?_
        refine zq_40 ?_ ?_
        · exact zE_w [true, false, true, true, true, true, true, true, true, true, true, true, true] (hq132 _ _ _ _ _ _ _ _ _ _ _ _)
        refine zq_4_10 ?_
        refine zq_4_5 ?_
        refine zq_1 ?_
        refine zq_12 ?_
        refine zq_49 ?_ ?_
        · refine zq_6_0 ?_
          refine zr_61 hw rfl ?_
          refine zq_4_10 ?_
          refine zr_66 hw rfl rfl rfl ?_
          refine zq_41 ?_ ?_
          · refine zq_6_0 ?_
            refine zr_61 hw rfl ?_
            refine zq_4_10 ?_
            refine zq_1 ?_
            refine zq_11 ?_
            refine zr_66 hw rfl rfl rfl ?_
            refine zq_41 ?_ ?_
            · refine zE_vl ?_
              refine zq_10_11 rfl ?_
              refine zq_57 ?_
              exact zE_w [true, false, true, true, true, true, true, true, true, true, true, true, true] (hq132 _ _ _ _ _ _ _ _ _ _ _ _)
            · exact zE_w [true, false, true, true, true, true, true, true, true, true, true, true, true] (hq132 _ _ _ _ _ _ _ _ _ _ _ _)
          · exact zE_w [true, false, true, true, true, true, true, true, true, true, true, true, true] (hq132 _ _ _ _ _ _ _ _ _ _ _ _)
        · exact zE_w [true, false, true, true, true, true, true, true, true, true, true, true, true] (hq132 _ _ _ _ _ _ _ _ _ _ _ _)
      refine zq_7_11 rfl ?_
      refine zq_4_7 ?_
      refine zq_4_3 ?_
      refine zq_1 ?_
      refine zq_12 ?_
      refine zq_47 ?_ ?_
      · refine zq_1 ?_
        refine zq_56 ?_
        exact zE_w [true, false, true, true, true, true, true, true, true, true, true, true, false] (hq119 _ _ _ _ _ _ _ _ _ _ _ _)
      · refine zq_1 ?_
        refine zq_57 ?_
        exact zE_w [true, false, true, true, true, true, true, true, true, true, true, true, false] (hq119 _ _ _ _ _ _ _ _ _ _ _ _)
    refine zq_4_10 ?_
    refine zq_4_5 ?_
    refine zq_49 ?_ ?_
    · refine zq_4_9 ?_
      refine zq_6_0 ?_
      refine zr_61 hw rfl ?_
      refine zq_4_10 ?_
      refine zr_65 hw rfl rfl rfl ?_
      refine zq_11 ?_
      refine zq_4_2 ?_
      refine zq_50 ?_ ?_
      · exact zE_w [true, false, true, true, true, true, true, true, true, false, false, false, false] (hk94 _ _ _ _ _ _ _ _)
      refine zq_4_9 ?_
      refine zq_6_0 ?_
      refine zr_61 hw rfl ?_
      refine zq_4_10 ?_
      refine zr_65 hw rfl rfl rfl ?_
      refine zq_11 ?_
      refine zE_vl ?_
      refine zq_7_9 rfl ?_
      refine zq_4_10 ?_
      refine zq_4_5 ?_
      refine zq_1 ?_
      refine zq_12 ?_
      refine zq_47 ?_ ?_
      · refine zq_1 ?_
        refine zq_56 ?_
        exact zE_w [true, false, true, true, true, true, true, true, true, true, true, false, false] (hq106 _ _ _ _ _ _ _ _ _ _ _)
      · refine zq_4_2 ?_
        refine zq_4_9 ?_
        refine zq_12 ?_
        refine zq_4_2 ?_
        refine zq_4_9 ?_
        refine zq_12 ?_
        refine zq_13 ?_
        refine zq_57 ?_
        exact zE_w [true, false, true, true, true, true, true, true, true, true, true, false, false] (hq106 _ _ _ _ _ _ _ _ _ _ _)
    · exact zE_w [true, false, true, true, true, true, true, true, true, false, false, false, false] (hk94 _ _ _ _ _ _ _ _)
noncomputable def gM_pages_l17 : Nat → Int → Int → Int → Int → Int → Int → zSg → (Int → Int → Int → Int → Int → zSg → Option (Int × zSg)) → Option (Int × zSg)
  | 0, _, _, _, _, _, _, _, _ => none
  | n + 1, x76, x77, x78, x79, x80, x81, s82, k83 =>
   if x81 < x77 then
     (gM_pages_l18 zFU x76 x77 x78 x79 x80 x81 (-1) 0 x80 s82 (fun (x179 : Int) (x180 : Int) (x181 : Int) (x182 : Int) (x183 : Int) (x184 : Int) (x185 : Int) (s186 : zSg) =>
      ywi 84 40 (zadd (zmul 4 x183) x184) x185 s186 fun s187 =>
      yvl (zadd x184 1) fun v188 =>
      gM_pages_l17 n x179 x180 x181 x182 x183 v188 s187 k83))
   else
     (k83 x76 x77 x78 x79 x80 s82)
theorem gM_pages_l17_ok {E : Nat → Nat} {R : Nat} {h0 : zHp} (hw : zRg R h0) (d : Nat) : ∀ (n : Nat) (x76 : Int) (x77 : Int) (x78 : Int) (x79 : Int) (x80 : Int) (x81 : Int) (s82 : zSg) (k83 : Int → Int → Int → Int → Int → zSg → Option (Int × zSg)) (hk83 : ∀ (y0 : Int) (y1 : Int) (y2 : Int) (y3 : Int) (y4 : Int) (s : zSg), zE (zov R h0) Ji E (d + 3) 247 (zB 247 29) ([some (.inr (.inr R)), none, some (.inl y0), some (.inl y1), some (.inl y2), some (.inl y3), some (.inl y4), none, none, none, none, none, none]) ([]) s (k83 y0 y1 y2 y3 y4 s)), zE (zov R h0) Ji E (d + 3) 247 (zB 247 17) ([some (.inr (.inr R)), none, some (.inl x76), some (.inl x77), some (.inl x78), some (.inl x79), some (.inl x80), some (.inl x81), none, none, none, none, none]) ([]) s82 (gM_pages_l17 n x76 x77 x78 x79 x80 x81 s82 k83) := by
  intro n
  induction n with
  | zero => intro x76 x77 x78 x79 x80 x81 s82 k83 hk83; exact zE_none
  | succ n ih =>
    intro x76 x77 x78 x79 x80 x81 s82 k83 hk83
    unfold gM_pages_l17
    refine zq_4_7 ?_
    refine zq_4_3 ?_
    refine zq_49 ?_ ?_
    · refine zq_1 ?_
      refine zq_7_8 rfl ?_
      refine zq_1 ?_
      refine zq_7_9 rfl ?_
      refine zq_4_6 ?_
      refine zq_7_10 rfl ?_
      refine zq_57 ?_
      refine zE_w [true, false, true, true, true, true, true, true, true, true, true, false, false] (gM_pages_l18_ok (E := E) hw d zFU _ _ _ _ _ _ _ _ _ _ _ (fun x179 x180 x181 x182 x183 x184 x185 s186 => ?_))
      refine zq_6_0 ?_
      refine zr_61 hw rfl ?_
      refine zq_1 ?_
      refine zq_4_6 ?_
      refine zq_13 ?_
      refine zq_4_7 ?_
      refine zq_11 ?_
      refine zq_4_8 ?_
      refine zr_68 hw rfl rfl rfl ?_
      refine zE_vl ?_
      refine zq_10_7 rfl ?_
      refine zq_56 ?_
      exact zE_w [true, false, true, true, true, true, true, true, false, false, false, false, false] (ih _ _ _ _ _ _ _ _ hk83)
    · exact zE_w [true, false, true, true, true, true, true, false, false, false, false, false, false] (hk83 _ _ _ _ _ _)
noncomputable def gM_pages_l16 : Nat → Int → Int → Int → Int → Int → zSg → (Int → Int → Int → zSg → Option (Int × zSg)) → Option (Int × zSg)
  | 0, _, _, _, _, _, _, _ => none
  | n + 1, x69, x70, x71, x72, x73, s74, k75 =>
   if x73 < 0 then
     (k75 x70 x71 x72 s74)
   else
   gM_pages_l17 zFU x69 x70 x71 x72 x73 0 s74 (fun (x189 : Int) (x190 : Int) (x191 : Int) (x192 : Int) (x193 : Int) (s194 : zSg) =>
    yvl (zadd x193 (-1)) fun v195 =>
    gM_pages_l16 n x189 x190 x191 x192 v195 s194 k75)
theorem gM_pages_l16_ok {E : Nat → Nat} {R : Nat} {h0 : zHp} (hw : zRg R h0) (d : Nat) : ∀ (n : Nat) (x69 : Int) (x70 : Int) (x71 : Int) (x72 : Int) (x73 : Int) (s74 : zSg) (k75 : Int → Int → Int → zSg → Option (Int × zSg)) (hk75 : ∀ (y0 : Int) (y1 : Int) (y2 : Int) (s : zSg), zE (zov R h0) Ji E (d + 3) 247 (zB 247 30) ([some (.inr (.inr R)), none, none, some (.inl y0), some (.inl y1), some (.inl y2), none, none, none, none, none, none, none]) ([]) s (k75 y0 y1 y2 s)), zE (zov R h0) Ji E (d + 3) 247 (zB 247 16) ([some (.inr (.inr R)), none, some (.inl x69), some (.inl x70), some (.inl x71), some (.inl x72), some (.inl x73), none, none, none, none, none, none]) ([]) s74 (gM_pages_l16 n x69 x70 x71 x72 x73 s74 k75) := by
  intro n
  induction n with
  | zero => intro x69 x70 x71 x72 x73 s74 k75 hk75; exact zE_none
  | succ n ih =>
    intro x69 x70 x71 x72 x73 s74 k75 hk75
    unfold gM_pages_l16
    refine zq_4_6 ?_
    refine zq_42 ?_ ?_
    · exact zE_w [true, false, false, true, true, true, false, false, false, false, false, false, false] (hk75 _ _ _ _)
    refine zq_1 ?_
    refine zq_7_7 rfl ?_
    refine zq_57 ?_
    refine zE_w [true, false, true, true, true, true, true, true, false, false, false, false, false] (gM_pages_l17_ok (E := E) hw d zFU _ _ _ _ _ _ _ _ (fun x189 x190 x191 x192 x193 s194 => ?_))
    refine zE_vl ?_
    refine zq_10_6 rfl ?_
    refine zq_56 ?_
    exact zE_w [true, false, true, true, true, true, true, false, false, false, false, false, false] (ih _ _ _ _ _ _ _ hk75)
noncomputable def gM_pages_l32 : Nat → Int → Int → Int → Int → Int → zSg → (Int → Int → zSg → Option (Int × zSg)) → Option (Int × zSg)
  | 0, _, _, _, _, _, _, _ => none
  | n + 1, x200, x201, x202, x203, x204, s205, k206 =>
   if x203 < x202 then
     (ydv x200 <|
     yrd 84 41 (zadd (zmul 4 x203) (zrem x204 x200)) s205 fun v207 =>
     if x201 = (zadd 10 x204) then
       (some (v207, s205))
     else
       (yvl (zadd x203 v207) fun v208 =>
       yvl (zadd x204 1) fun v209 =>
       gM_pages_l32 n x200 x201 x202 v208 v209 s205 k206))
   else
     (k206 x201 x204 s205)
theorem gM_pages_l32_ok {E : Nat → Nat} {R : Nat} {h0 : zHp} (hw : zRg R h0) (d : Nat) : ∀ (n : Nat) (x200 : Int) (x201 : Int) (x202 : Int) (x203 : Int) (x204 : Int) (s205 : zSg) (k206 : Int → Int → zSg → Option (Int × zSg)) (hk206 : ∀ (y0 : Int) (y1 : Int) (s : zSg), zE (zov R h0) Ji E (d + 3) 247 (zB 247 34) ([none, none, none, none, some (.inl y0), none, none, some (.inl y1), none, none, none, none, none]) ([]) s (k206 y0 y1 s)), zE (zov R h0) Ji E (d + 3) 247 (zB 247 32) ([some (.inr (.inr R)), none, none, some (.inl x200), some (.inl x201), some (.inl x202), some (.inl x203), some (.inl x204), none, none, none, none, none]) ([]) s205 (gM_pages_l32 n x200 x201 x202 x203 x204 s205 k206) := by
  intro n
  induction n with
  | zero => intro x200 x201 x202 x203 x204 s205 k206 hk206; exact zE_none
  | succ n ih =>
    intro x200 x201 x202 x203 x204 s205 k206 hk206
    unfold gM_pages_l32
    refine zq_4_6 ?_
    refine zq_4_5 ?_
    refine zq_49 ?_ ?_
    · refine zq_6_0 ?_
      refine zr_61 hw rfl ?_
      refine zq_1 ?_
      refine zq_4_6 ?_
      refine zq_13 ?_
      refine zq_4_7 ?_
      refine zq_4_3 ?_
      refine zq_15 ?_
      refine zq_11 ?_
      refine zr_65 hw rfl rfl rfl ?_
      refine zq_7_8 rfl ?_
      refine zq_4_4 ?_
      refine zq_1 ?_
      refine zq_4_7 ?_
      refine zq_11 ?_
      refine zq_47 ?_ ?_
      · refine zq_4_8 ?_
        exact zq_95 rfl
      · refine zq_4_6 ?_
        refine zq_4_8 ?_
        refine zq_11 ?_
        refine zE_vl ?_
        refine zq_7_6 rfl ?_
        refine zE_vl ?_
        refine zq_10_7 rfl ?_
        refine zq_56 ?_
        exact zE_w [true, false, false, true, true, true, true, true, false, false, false, false, false] (ih _ _ _ _ _ _ _ hk206)
    · exact zE_w [false, false, false, false, true, false, false, true, false, false, false, false, false] (hk206 _ _ _)
noncomputable def gM_pages (a1 : Int) (a2 : Int) (a3 : Int) (a4 : Int) (s : zSg) : Option (Int × zSg) :=
  ybd (gM_isThing a1 s) fun v1 s2 =>
  if v1 = 0 then
    (some ((-1), s2))
  else
  if a4 < 0 then
    (some ((-1), s2))
  else
  ybd (gM_in a4 2 9 s2) fun v3 s4 =>
  if v3 = 0 then
    (ybd (gM_isPart a1 s4) fun v5 s6 =>
    if v5 = 0 then
      (some ((-12), s6))
    else
      (ybd (gM_in a2 5 99 s6) fun v7 s8 =>
      if v7 = 0 then
        (some ((-2), s8))
      else
      ybd (gM_in a3 1 4 s8) fun v9 s10 =>
      if v9 = 0 then
        (some ((-2), s10))
      else
        (ybd (gM_barsOf a1 s10) fun v11 s12 =>
        if v11 = 0 then
          (some ((-3), s12))
        else
          (gM_pages_l7 zFU a1 a2 a3 a4 v11 0 s12 (fun (x49 : Int) (x50 : Int) (x51 : Int) (x52 : Int) (s53 : zSg) =>
           gM_pages_l14 zFU x49 x50 x51 x52 0 s53 (fun (x63 : Int) (x64 : Int) (x65 : Int) (x66 : Int) (s67 : zSg) =>
            yvl (zsub x66 1) fun v68 =>
            gM_pages_l16 zFU x63 x64 x65 x66 v68 s67 (fun (x196 : Int) (x197 : Int) (x198 : Int) (s199 : zSg) =>
             if x197 = 0 then
               (yrd 84 40 0 s199 fun v213 =>
               some (v213, s199))
             else
               (gM_pages_l32 zFU x196 x197 x198 0 0 s199 (fun (x210 : Int) (x211 : Int) (s212 : zSg) =>
                if x210 = 1 then
                  (some (x211, s212))
                else
                  (some ((-1), s212)))))))))))
  else
  some ((-1), s4)
theorem gM_pages_ok {E : Nat → Nat} {R : Nat} {h0 : zHp} (hw : zRg R h0) (d : Nat) (a1 : Int) (a2 : Int) (a3 : Int) (a4 : Int) (s : zSg) : zE (zov R h0) Ji E (d + 3) 247 (zB 247 0) (zent 13 [.inr (.inr R), .inl a1, .inl a2, .inl a3, .inl a4]) [] s (gM_pages a1 a2 a3 a4 s) := by
  show zE _ _ _ _ _ _ [some (.inr (.inr R)), some (.inl a1), some (.inl a2), some (.inl a3), some (.inl a4), none, none, none, none, none, none, none, none] _ _ _
  unfold gM_pages
  refine zq_6_0 ?_
  refine zq_4_1 ?_
  refine zq_92_2i (zR_is hw) rfl rfl (gM_isThing_ok (E := E) hw _ _ _) fun v1 s2 => ?_
  refine zq_40 ?_ ?_
  · refine zq_1 ?_
    exact zq_95 rfl
  refine zq_4_4 ?_
  refine zq_42 ?_ ?_
  · refine zq_1 ?_
    exact zq_95 rfl
  refine zq_4_4 ?_
  refine zq_1 ?_
  refine zq_1 ?_
  refine zq_90_3i rfl rfl (gM_in_ok (E := E) hw _ _ _ _ _) fun v3 s4 => ?_
  refine zq_40 ?_ ?_
  · refine zq_6_0 ?_
    refine zq_4_1 ?_
    refine zq_92_2i (zR_is hw) rfl rfl (gM_isPart_ok (E := E) hw _ _ _) fun v5 s6 => ?_
    refine zq_41 ?_ ?_
    · refine zq_1 ?_
      exact zq_95 rfl
    · refine zq_4_2 ?_
      refine zq_1 ?_
      refine zq_1 ?_
      refine zq_90_3i rfl rfl (gM_in_ok (E := E) hw _ _ _ _ _) fun v7 s8 => ?_
      refine zq_40 ?_ ?_
      · refine zq_1 ?_
        exact zq_95 rfl
      refine zq_4_3 ?_
      refine zq_1 ?_
      refine zq_1 ?_
      refine zq_90_3i rfl rfl (gM_in_ok (E := E) hw _ _ _ _ _) fun v9 s10 => ?_
      refine zq_41 ?_ ?_
      · refine zq_57 ?_
        refine zq_1 ?_
        exact zq_95 rfl
      · refine zq_6_0 ?_
        refine zq_4_1 ?_
        refine zq_92_2i (zR_is hw) rfl rfl (gM_barsOf_ok (E := E) hw _ _ _) fun v11 s12 => ?_
        refine zq_7_5 rfl ?_
        refine zq_4_5 ?_
        refine zq_41 ?_ ?_
        · refine zq_1 ?_
          exact zq_95 rfl
        · refine zq_1 ?_
          refine zq_7_6 rfl ?_
          refine zq_57 ?_
          refine zE_w [true, true, true, true, true, true, true, false, false, false, false, false, false] (gM_pages_l7_ok (E := E) hw d zFU _ _ _ _ _ _ _ _ (fun x49 x50 x51 x52 s53 => ?_))
          refine zq_1 ?_
          refine zq_7_6 rfl ?_
          refine zq_57 ?_
          refine zE_w [true, false, true, true, true, true, true, false, false, false, false, false, false] (gM_pages_l14_ok (E := E) hw d zFU _ _ _ _ _ _ _ (fun x63 x64 x65 x66 s67 => ?_))
          refine zq_4_5 ?_
          refine zq_1 ?_
          refine zq_12 ?_
          refine zE_vl ?_
          refine zq_7_6 rfl ?_
          refine zq_57 ?_
          refine zE_w [true, false, true, true, true, true, true, false, false, false, false, false, false] (gM_pages_l16_ok (E := E) hw d zFU _ _ _ _ _ _ _ (fun x196 x197 x198 s199 => ?_))
          refine zq_4_4 ?_
          refine zq_41 ?_ ?_
          · refine zq_6_0 ?_
            refine zr_61 hw rfl ?_
            refine zq_1 ?_
            refine zr_65 hw rfl rfl rfl ?_
            exact zq_95 rfl
          · refine zq_1 ?_
            refine zq_7_6 rfl ?_
            refine zq_1 ?_
            refine zq_7_7 rfl ?_
            refine zq_57 ?_
            refine zE_w [true, false, false, true, true, true, true, true, false, false, false, false, false] (gM_pages_l32_ok (E := E) hw d zFU _ _ _ _ _ _ _ (fun x210 x211 s212 => ?_))
            refine zq_4_4 ?_
            refine zq_1 ?_
            refine zq_47 ?_ ?_
            · refine zq_4_7 ?_
              refine zq_56 ?_
              exact zq_95 rfl
            · refine zq_1 ?_
              refine zq_57 ?_
              exact zq_95 rfl
  refine zq_57 ?_
  refine zq_1 ?_
  exact zq_95 rfl
/-! 248: EngraversHouseModel.feed:(II)I -/
noncomputable def gM_feed_l3 : Nat → Int → Int → zSg → (zSg → Option (Int × zSg)) → Option (Int × zSg)
  | 0, _, _, _, _ => none
  | n + 1, x4, x5, s6, k7 =>
   if x5 < 0 then
     (k7 s6)
   else
   ywb 120 42 (s6 0 43) (zi2b (zshr x4 (zmul 8 x5))) s6 fun s8 =>
   yvl (zup s8 0 43 (zadd (s8 0 43) 1)) fun s9 =>
   yvl (zadd x5 (-1)) fun v10 =>
   gM_feed_l3 n x4 v10 s9 k7
theorem gM_feed_l3_ok {E : Nat → Nat} {R : Nat} {h0 : zHp} (hw : zRg R h0) (d : Nat) : ∀ (n : Nat) (x4 : Int) (x5 : Int) (s6 : zSg) (k7 : zSg → Option (Int × zSg)) (hk7 : ∀ (s : zSg), zE (zov R h0) Ji E (d + 1) 248 (zB 248 4) ([some (.inr (.inr R)), none, none, none]) ([]) s (k7 s)), zE (zov R h0) Ji E (d + 1) 248 (zB 248 3) ([some (.inr (.inr R)), some (.inl x4), none, some (.inl x5)]) ([]) s6 (gM_feed_l3 n x4 x5 s6 k7) := by
  intro n
  induction n with
  | zero => intro x4 x5 s6 k7 hk7; exact zE_none
  | succ n ih =>
    intro x4 x5 s6 k7 hk7
    unfold gM_feed_l3
    refine zq_4_3 ?_
    refine zq_42 ?_ ?_
    · exact zE_w [true, false, false, false] (hk7 _)
    refine zq_6_0 ?_
    refine zr_61 hw rfl ?_
    refine zq_6_0 ?_
    refine zr_60 hw rfl ?_
    refine zq_4_1 ?_
    refine zq_1 ?_
    refine zq_4_3 ?_
    refine zq_13 ?_
    refine zq_18 ?_
    refine zq_25 ?_
    refine zr_70 hw rfl rfl rfl ?_
    refine zq_6_0 ?_
    refine zq_33 ?_
    refine zr_60 hw rfl ?_
    refine zq_1 ?_
    refine zq_11 ?_
    refine zE_vl ?_
    refine zr_62 hw rfl ?_
    refine zE_vl ?_
    refine zq_10_3 rfl ?_
    refine zq_56 ?_
    exact zE_w [true, true, false, true] (ih _ _ _ _ hk7)
noncomputable def gM_feed (a1 : Int) (a2 : Int) (s : zSg) : Option (Int × zSg) :=
  ybd (gM_in a2 0 4 s) fun v1 s2 =>
  if v1 = 0 then
    (some ((-2), s2))
  else
    (if 120 < (zadd (s2 0 43) a2) then
      (some ((-4), s2))
    else
      (yvl (zsub a2 1) fun v3 =>
      gM_feed_l3 zFU a1 v3 s2 (fun (s11 : zSg) =>
       some (s11 0 43, s11))))
theorem gM_feed_ok {E : Nat → Nat} {R : Nat} {h0 : zHp} (hw : zRg R h0) (d : Nat) (a1 : Int) (a2 : Int) (s : zSg) : zE (zov R h0) Ji E (d + 1) 248 (zB 248 0) (zent 4 [.inr (.inr R), .inl a1, .inl a2]) [] s (gM_feed a1 a2 s) := by
  show zE _ _ _ _ _ _ [some (.inr (.inr R)), some (.inl a1), some (.inl a2), none] _ _ _
  unfold gM_feed
  refine zq_4_2 ?_
  refine zq_1 ?_
  refine zq_1 ?_
  refine zq_90_3i rfl rfl (gM_in_ok (E := E) hw _ _ _ _ _) fun v1 s2 => ?_
  refine zq_41 ?_ ?_
  · refine zq_1 ?_
    exact zq_95 rfl
  · refine zq_6_0 ?_
    refine zr_60 hw rfl ?_
    refine zq_4_2 ?_
    refine zq_11 ?_
    refine zq_1 ?_
    refine zq_51 ?_ ?_
    · refine zq_1 ?_
      exact zq_95 rfl
    · refine zq_4_2 ?_
      refine zq_1 ?_
      refine zq_12 ?_
      refine zE_vl ?_
      refine zq_7_3 rfl ?_
      refine zq_57 ?_
      refine zE_w [true, true, false, true] (gM_feed_l3_ok (E := E) hw d zFU _ _ _ _ (fun s11 => ?_))
      refine zq_6_0 ?_
      refine zr_60 hw rfl ?_
      exact zq_95 rfl
/-! 249: EngraversHouseModel.look:()I -/
noncomputable def gM_look (s : zSg) : Option (Int × zSg) :=
  if (s 0 57) < (s 0 43) then
    (yrd 120 42 (s 0 57) s fun v1 =>
    some (v1, s))
  else
    (some ((-1), s))
theorem gM_look_ok {E : Nat → Nat} {R : Nat} {h0 : zHp} (hw : zRg R h0) (d : Nat) (s : zSg) : zE (zov R h0) Ji E (d + 0) 249 (zB 249 0) (zent 1 [.inr (.inr R)]) [] s (gM_look s) := by
  show zE _ _ _ _ _ _ [some (.inr (.inr R))] _ _ _
  unfold gM_look
  refine zq_6_0 ?_
  refine zr_60 hw rfl ?_
  refine zq_6_0 ?_
  refine zr_60 hw rfl ?_
  refine zq_49 ?_ ?_
  · refine zq_6_0 ?_
    refine zr_61 hw rfl ?_
    refine zq_6_0 ?_
    refine zr_60 hw rfl ?_
    refine zr_66 hw rfl rfl rfl ?_
    refine zq_56 ?_
    exact zq_95 rfl
  · refine zq_1 ?_
    refine zq_57 ?_
    exact zq_95 rfl
/-! 250: EngraversHouseModel.takes0:(I)Z -/
noncomputable def gM_takes0 (a1 : Int) (s : zSg) : Option (Int × zSg) :=
  ybd (gM_look s) fun v1 s2 =>
  if v1 = a1 then
    (yvl (zup s2 0 57 (zadd (s2 0 57) 1)) fun s3 =>
    some (1, s3))
  else
  some (0, s2)
theorem gM_takes0_ok {E : Nat → Nat} {R : Nat} {h0 : zHp} (hw : zRg R h0) (d : Nat) (a1 : Int) (s : zSg) : zE (zov R h0) Ji E (d + 1) 250 (zB 250 0) (zent 2 [.inr (.inr R), .inl a1]) [] s (gM_takes0 a1 s) := by
  show zE _ _ _ _ _ _ [some (.inr (.inr R)), some (.inl a1)] _ _ _
  unfold gM_takes0
  refine zq_6_0 ?_
  refine zq_92_1i (zR_is hw) rfl rfl (gM_look_ok (E := E) hw _ _) fun v1 s2 => ?_
  refine zq_4_1 ?_
  refine zq_46 ?_ ?_
  · refine zq_6_0 ?_
    refine zq_33 ?_
    refine zr_60 hw rfl ?_
    refine zq_1 ?_
    refine zq_11 ?_
    refine zE_vl ?_
    refine zr_62 hw rfl ?_
    refine zq_1 ?_
    exact zq_96c (by decide)
  refine zq_1 ?_
  exact zq_96c (by decide)
/-! 251: EngraversHouseModel.digits:()Z -/
noncomputable def gM_digits_l1 : Nat → Int → zSg → (Int → zSg → Option (Int × zSg)) → Option (Int × zSg)
  | 0, _, _, _ => none
  | n + 1, x2, s3, k4 =>
   if x2 < 3 then
     (ybd (gM_look s3) fun v5 s6 =>
     ybd (gM_in v5 48 57 s6) fun v7 s8 =>
     if v7 = 0 then
       (k4 x2 s8)
     else
     ybd (gM_look s8) fun v9 s10 =>
     yvl (zup s10 0 61 (zsub (zadd (zmul 10 (s8 0 61)) v9) 48)) fun s11 =>
     yvl (zadd x2 1) fun v12 =>
     yvl (zup s11 0 57 (zadd (s11 0 57) 1)) fun s13 =>
     gM_digits_l1 n v12 s13 k4)
   else
     (k4 x2 s3)
theorem gM_digits_l1_ok {E : Nat → Nat} {R : Nat} {h0 : zHp} (hw : zRg R h0) (d : Nat) : ∀ (n : Nat) (x2 : Int) (s3 : zSg) (k4 : Int → zSg → Option (Int × zSg)) (hk4 : ∀ (y0 : Int) (s : zSg), zE (zov R h0) Ji E (d + 1) 251 (zB 251 2) ([none, some (.inl y0)]) ([]) s (k4 y0 s)), zE (zov R h0) Ji E (d + 1) 251 (zB 251 1) ([some (.inr (.inr R)), some (.inl x2)]) ([]) s3 (gM_digits_l1 n x2 s3 k4) := by
  intro n
  induction n with
  | zero => intro x2 s3 k4 hk4; exact zE_none
  | succ n ih =>
    intro x2 s3 k4 hk4
    unfold gM_digits_l1
    refine zq_4_1 ?_
    refine zq_1 ?_
    refine zq_49 ?_ ?_
    · refine zq_6_0 ?_
      refine zq_92_1i (zR_is hw) rfl rfl (gM_look_ok (E := E) hw _ _) fun v5 s6 => ?_
      refine zq_1 ?_
      refine zq_1 ?_
      refine zq_90_3i rfl rfl (gM_in_ok (E := E) hw _ _ _ _ _) fun v7 s8 => ?_
      refine zq_40 ?_ ?_
      · exact zE_w [false, true] (hk4 _ _)
      refine zq_6_0 ?_
      refine zq_1 ?_
      refine zq_6_0 ?_
      refine zr_60 hw rfl ?_
      refine zq_13 ?_
      refine zq_6_0 ?_
      refine zq_92_1i (zR_is hw) rfl rfl (gM_look_ok (E := E) hw _ _) fun v9 s10 => ?_
      refine zq_11 ?_
      refine zq_1 ?_
      refine zq_12 ?_
      refine zE_vl ?_
      refine zr_62 hw rfl ?_
      refine zE_vl ?_
      refine zq_10_1 rfl ?_
      refine zq_6_0 ?_
      refine zq_33 ?_
      refine zr_60 hw rfl ?_
      refine zq_1 ?_
      refine zq_11 ?_
      refine zE_vl ?_
      refine zr_62 hw rfl ?_
      refine zq_56 ?_
      exact zE_w [true, true] (ih _ _ _ hk4)
    · exact zE_w [false, true] (hk4 _ _)
noncomputable def gM_digits (s : zSg) : Option (Int × zSg) :=
  yvl (zup s 0 61 0) fun s1 =>
  gM_digits_l1 zFU 0 s1 (fun (x14 : Int) (s15 : zSg) =>
   if 0 < x14 then
     (some (1, s15))
   else
     (some (0, s15)))
theorem gM_digits_ok {E : Nat → Nat} {R : Nat} {h0 : zHp} (hw : zRg R h0) (d : Nat) (s : zSg) : zE (zov R h0) Ji E (d + 1) 251 (zB 251 0) (zent 2 [.inr (.inr R)]) [] s (gM_digits s) := by
  show zE _ _ _ _ _ _ [some (.inr (.inr R)), none] _ _ _
  unfold gM_digits
  refine zq_1 ?_
  refine zq_7_1 rfl ?_
  refine zq_6_0 ?_
  refine zq_1 ?_
  refine zE_vl ?_
  refine zr_62 hw rfl ?_
  refine zq_57 ?_
  refine zE_w [true, true] (gM_digits_l1_ok (E := E) hw d zFU _ _ _ (fun x14 s15 => ?_))
  refine zq_4_1 ?_
  refine zq_45 ?_ ?_
  · refine zq_1 ?_
    refine zq_56 ?_
    exact zq_96c (by decide)
  · refine zq_1 ?_
    refine zq_57 ?_
    exact zq_96c (by decide)
/-! 252: EngraversHouseModel.lay:(II)V -/
noncomputable def gM_lay (a1 : Int) (a2 : Int) (s : zSg) : Option (Unit × zSg) :=
  ywi 1820 55 (zadd (zmul 140 (s 0 59)) (s 0 58)) a1 s fun s1 =>
  ywi 1820 56 (zadd (zmul 140 (s1 0 59)) (s1 0 58)) a2 s1 fun s2 =>
  yvl (zup s2 0 58 (zadd (s2 0 58) 1)) fun s3 =>
  some ((), s3)
theorem gM_lay_ok {E : Nat → Nat} {R : Nat} {h0 : zHp} (hw : zRg R h0) (d : Nat) (a1 : Int) (a2 : Int) (s : zSg) : zE (zov R h0) Jv E (d + 0) 252 (zB 252 0) (zent 3 [.inr (.inr R), .inl a1, .inl a2]) [] s (gM_lay a1 a2 s) := by
  show zE _ _ _ _ _ _ [some (.inr (.inr R)), some (.inl a1), some (.inl a2)] _ _ _
  unfold gM_lay
  refine zq_6_0 ?_
  refine zr_61 hw rfl ?_
  refine zq_1 ?_
  refine zq_6_0 ?_
  refine zr_60 hw rfl ?_
  refine zq_13 ?_
  refine zq_6_0 ?_
  refine zr_60 hw rfl ?_
  refine zq_11 ?_
  refine zq_4_1 ?_
  refine zr_68 hw rfl rfl rfl ?_
  refine zq_6_0 ?_
  refine zr_61 hw rfl ?_
  refine zq_1 ?_
  refine zq_6_0 ?_
  refine zr_60 hw rfl ?_
  refine zq_13 ?_
  refine zq_6_0 ?_
  refine zr_60 hw rfl ?_
  refine zq_11 ?_
  refine zq_4_2 ?_
  refine zr_68 hw rfl rfl rfl ?_
  refine zq_6_0 ?_
  refine zq_33 ?_
  refine zr_60 hw rfl ?_
  refine zq_1 ?_
  refine zq_11 ?_
  refine zE_vl ?_
  refine zr_62 hw rfl ?_
  exact zq_101
/-! 253: EngraversHouseModel.op_ens:()Z -/
noncomputable def gM_opens (s : zSg) : Option (Int × zSg) :=
  if (s 0 60) = 5 then
    (some (0, s))
  else
    (yvl (zup s 0 60 (zadd (s 0 60) 1)) fun s1 =>
    yvl (zup s1 0 57 (zadd (s1 0 57) 1)) fun s2 =>
    some (1, s2))
theorem gM_opens_ok {E : Nat → Nat} {R : Nat} {h0 : zHp} (hw : zRg R h0) (d : Nat) (s : zSg) : zE (zov R h0) Ji E (d + 0) 253 (zB 253 0) (zent 1 [.inr (.inr R)]) [] s (gM_opens s) := by
  show zE _ _ _ _ _ _ [some (.inr (.inr R))] _ _ _
  unfold gM_opens
  refine zq_6_0 ?_
  refine zr_60 hw rfl ?_
  refine zq_1 ?_
  refine zq_47 ?_ ?_
  · refine zq_1 ?_
    exact zq_96c (by decide)
  · refine zq_6_0 ?_
    refine zq_33 ?_
    refine zr_60 hw rfl ?_
    refine zq_1 ?_
    refine zq_11 ?_
    refine zE_vl ?_
    refine zr_62 hw rfl ?_
    refine zq_6_0 ?_
    refine zq_33 ?_
    refine zr_60 hw rfl ?_
    refine zq_1 ?_
    refine zq_11 ?_
    refine zE_vl ?_
    refine zr_62 hw rfl ?_
    refine zq_1 ?_
    exact zq_96c (by decide)
/-! 254: EngraversHouseModel.both:()Z -/
noncomputable def gM_both_l1 (F : zSg → Option (Int × zSg)) : Nat → zSg → Option (Int × zSg)
  | 0, _ => none
  | n + 1, s3 =>
   ybd (gM_look s3) fun v4 s5 =>
   if v4 = 38 then
     (yvl (zup s5 0 57 (zadd (s5 0 57) 1)) fun s6 =>
     ybd (F s6) fun v7 s8 =>
     if v7 = 0 then
       (some (0, s8))
     else
       (ybd (gM_lay 7 0 s8) fun _ s9 =>
       gM_both_l1 F n s9))
   else
     (some (1, s5))
theorem gM_both_l1_ok {E : Nat → Nat} {R : Nat} {h0 : zHp} (hw : zRg R h0) (F : zSg → Option (Int × zSg)) (d : Nat) (hF : ∀  (s : zSg), zE (zov R h0) Ji E (d + 1) 256 (zB 256 0) (zent 3 [.inr (.inr R)]) [] s (F  s)) : ∀ (n : Nat) (s3 : zSg), zE (zov R h0) Ji E (d + 2) 254 (zB 254 1) ([some (.inr (.inr R))]) ([]) s3 (gM_both_l1 F n s3) := by
  intro n
  induction n with
  | zero => intro s3; exact zE_none
  | succ n ih =>
    intro s3
    unfold gM_both_l1
    refine zq_6_0 ?_
    refine zq_92_1i (zR_is hw) rfl rfl (gM_look_ok (E := E) hw _ _) fun v4 s5 => ?_
    refine zq_1 ?_
    refine zq_47 ?_ ?_
    · refine zq_6_0 ?_
      refine zq_33 ?_
      refine zr_60 hw rfl ?_
      refine zq_1 ?_
      refine zq_11 ?_
      refine zE_vl ?_
      refine zr_62 hw rfl ?_
      refine zq_6_0 ?_
      refine zq_92_1i (zR_is hw) rfl rfl (zE_d (by omega) <| hF _) fun v7 s8 => ?_
      refine zq_41 ?_ ?_
      · refine zq_1 ?_
        exact zq_96c (by decide)
      · refine zq_6_0 ?_
        refine zq_1 ?_
        refine zq_1 ?_
        refine zq_92_3v (zR_is hw) rfl rfl (gM_lay_ok (E := E) hw _ _ _ _) fun _ s9 => ?_
        refine zq_56 ?_
        exact zE_w [true] (ih _)
    · refine zq_1 ?_
      exact zq_96c (by decide)
noncomputable def gM_both (F : zSg → Option (Int × zSg)) (s : zSg) : Option (Int × zSg) :=
  ybd (F s) fun v1 s2 =>
  if v1 = 0 then
    (some (0, s2))
  else
    (gM_both_l1 F zFU s2)
theorem gM_both_ok {E : Nat → Nat} {R : Nat} {h0 : zHp} (hw : zRg R h0) (F : zSg → Option (Int × zSg)) (d : Nat) (hF : ∀  (s : zSg), zE (zov R h0) Ji E (d + 1) 256 (zB 256 0) (zent 3 [.inr (.inr R)]) [] s (F  s)) (s : zSg) : zE (zov R h0) Ji E (d + 2) 254 (zB 254 0) (zent 1 [.inr (.inr R)]) [] s (gM_both F s) := by
  show zE _ _ _ _ _ _ [some (.inr (.inr R))] _ _ _
  unfold gM_both
  refine zq_6_0 ?_
  refine zq_92_1i (zR_is hw) rfl rfl (zE_d (by omega) <| hF _) fun v1 s2 => ?_
  refine zq_41 ?_ ?_
  · refine zq_1 ?_
    exact zq_96c (by decide)
  · exact zE_w [true] (gM_both_l1_ok (E := E) hw F d hF zFU _)
/-! 255: EngraversHouseModel.either:()Z -/
noncomputable def gM_either_l1 (F : zSg → Option (Int × zSg)) : Nat → zSg → Option (Int × zSg)
  | 0, _ => none
  | n + 1, s3 =>
   ybd (gM_look s3) fun v4 s5 =>
   if v4 = 124 then
     (yvl (zup s5 0 57 (zadd (s5 0 57) 1)) fun s6 =>
     ybd (gM_both F s6) fun v7 s8 =>
     if v7 = 0 then
       (some (0, s8))
     else
       (ybd (gM_lay 8 0 s8) fun _ s9 =>
       gM_either_l1 F n s9))
   else
     (some (1, s5))
theorem gM_either_l1_ok {E : Nat → Nat} {R : Nat} {h0 : zHp} (hw : zRg R h0) (F : zSg → Option (Int × zSg)) (d : Nat) (hF : ∀  (s : zSg), zE (zov R h0) Ji E (d + 1) 256 (zB 256 0) (zent 3 [.inr (.inr R)]) [] s (F  s)) : ∀ (n : Nat) (s3 : zSg), zE (zov R h0) Ji E (d + 3) 255 (zB 255 1) ([some (.inr (.inr R))]) ([]) s3 (gM_either_l1 F n s3) := by
  intro n
  induction n with
  | zero => intro s3; exact zE_none
  | succ n ih =>
    intro s3
    unfold gM_either_l1
    refine zq_6_0 ?_
    refine zq_92_1i (zR_is hw) rfl rfl (gM_look_ok (E := E) hw _ _) fun v4 s5 => ?_
    refine zq_1 ?_
    refine zq_47 ?_ ?_
    · refine zq_6_0 ?_
      refine zq_33 ?_
      refine zr_60 hw rfl ?_
      refine zq_1 ?_
      refine zq_11 ?_
      refine zE_vl ?_
      refine zr_62 hw rfl ?_
      refine zq_6_0 ?_
      refine zq_92_1i (zR_is hw) rfl rfl (gM_both_ok (E := E) hw F _ hF _) fun v7 s8 => ?_
      refine zq_41 ?_ ?_
      · refine zq_1 ?_
        exact zq_96c (by decide)
      · refine zq_6_0 ?_
        refine zq_1 ?_
        refine zq_1 ?_
        refine zq_92_3v (zR_is hw) rfl rfl (gM_lay_ok (E := E) hw _ _ _ _) fun _ s9 => ?_
        refine zq_56 ?_
        exact zE_w [true] (ih _)
    · refine zq_1 ?_
      exact zq_96c (by decide)
noncomputable def gM_either (F : zSg → Option (Int × zSg)) (s : zSg) : Option (Int × zSg) :=
  ybd (gM_both F s) fun v1 s2 =>
  if v1 = 0 then
    (some (0, s2))
  else
    (gM_either_l1 F zFU s2)
theorem gM_either_ok {E : Nat → Nat} {R : Nat} {h0 : zHp} (hw : zRg R h0) (F : zSg → Option (Int × zSg)) (d : Nat) (hF : ∀  (s : zSg), zE (zov R h0) Ji E (d + 1) 256 (zB 256 0) (zent 3 [.inr (.inr R)]) [] s (F  s)) (s : zSg) : zE (zov R h0) Ji E (d + 3) 255 (zB 255 0) (zent 1 [.inr (.inr R)]) [] s (gM_either F s) := by
  show zE _ _ _ _ _ _ [some (.inr (.inr R))] _ _ _
  unfold gM_either
  refine zq_6_0 ?_
  refine zq_92_1i (zR_is hw) rfl rfl (gM_both_ok (E := E) hw F _ hF _) fun v1 s2 => ?_
  refine zq_41 ?_ ?_
  · refine zq_1 ?_
    exact zq_96c (by decide)
  · exact zE_w [true] (gM_either_l1_ok (E := E) hw F d hF zFU _)
/-! 256: EngraversHouseModel.factor:()Z -/
noncomputable def gM_factor_b (F : zSg → Option (Int × zSg)) (s : zSg) : Option (Int × zSg) :=
  ybd (gM_look s) fun v1 s2 =>
  if v1 = 33 then
    (ybd (gM_opens s2) fun v29 s30 =>
    if v29 = 0 then
      (some (0, s30))
    else
    ybd (F s30) fun v31 s32 =>
    if v31 = 0 then
      (some (0, s32))
    else
      (yvl (zup s32 0 60 (zsub (s32 0 60) 1)) fun s33 =>
      ybd (gM_lay 6 0 s33) fun _ s34 =>
      some (1, s34)))
  else
    (if v1 = 40 then
      (ybd (gM_opens s2) fun v22 s23 =>
      if v22 = 0 then
        (some (0, s23))
      else
      ybd (gM_either F s23) fun v24 s25 =>
      if v24 = 0 then
        (some (0, s25))
      else
      ybd (gM_takes0 41 s25) fun v26 s27 =>
      if v26 = 0 then
        (some (0, s27))
      else
        (yvl (zup s27 0 60 (zsub (s27 0 60) 1)) fun s28 =>
        some (1, s28)))
    else
      (if v1 = 120 then
        (yvl (zup s2 0 57 (zadd (s2 0 57) 1)) fun s20 =>
        ybd (gM_lay 1 0 s20) fun _ s21 =>
        some (1, s21))
      else
        (yjn (fun (x3 : Int) (s4 : zSg) =>
         yjn (fun (x6 : Int) (x7 : Int) (s8 : zSg) =>
          yvl (zup s8 0 57 (zadd (s8 0 57) 1)) fun s10 =>
          ybd (gM_digits s10) fun v11 s12 =>
          if v11 = 0 then
            (some (0, s12))
          else
            (yjn (fun (x13 : Int) (s14 : zSg) =>
             ybd (gM_lay x13 (s14 0 61) s14) fun _ s16 =>
             some (1, s16)) fun q15 =>
             if x6 = 121 then
              (if x7 = 60 then
                (q15 2 s12)
              else
                (q15 3 s12))
            else
              (if x7 = 60 then
                (q15 4 s12)
              else
                (q15 5 s12)))) fun q9 =>
          yvl (zup s4 0 57 (zadd (s4 0 57) 1)) fun s17 =>
         ybd (gM_look s17) fun v18 s19 =>
         if v18 = 60 then
           (q9 x3 v18 s19)
         else
         if v18 = 62 then
           (q9 x3 v18 s19)
         else
         some (0, s19)) fun q5 =>
         if v1 = 121 then
          (q5 v1 s2)
        else
        if v1 = 109 then
          (q5 v1 s2)
        else
        some (0, s2))))
theorem gM_factor_b_ok {E : Nat → Nat} {R : Nat} {h0 : zHp} (hw : zRg R h0) (F : zSg → Option (Int × zSg)) (d : Nat) (hF : ∀  (s : zSg), zE (zov R h0) Ji E (d + 1) 256 (zB 256 0) (zent 3 [.inr (.inr R)]) [] s (F  s)) (s : zSg) : zE (zov R h0) Ji E (d + 4) 256 (zB 256 0) (zent 3 [.inr (.inr R)]) [] s (gM_factor_b F s) := by
  show zE _ _ _ _ _ _ [some (.inr (.inr R)), none, none] _ _ _
  unfold gM_factor_b
  refine zq_6_0 ?_
  refine zq_92_1i (zR_is hw) rfl rfl (gM_look_ok (E := E) hw _ _) fun v1 s2 => ?_
  refine zq_7_1 rfl ?_
  refine zq_4_1 ?_
  refine zq_1 ?_
  refine zq_47 ?_ ?_
  · refine zq_6_0 ?_
    refine zq_92_1i (zR_is hw) rfl rfl (gM_opens_ok (E := E) hw _ _) fun v29 s30 => ?_
    refine zq_40 ?_ ?_
    · refine zq_1 ?_
      exact zq_96c (by decide)
    refine zq_6_0 ?_
    refine zq_92_1i (zR_is hw) rfl rfl (zE_d (by omega) <| hF _) fun v31 s32 => ?_
    refine zq_41 ?_ ?_
    · refine zq_57 ?_
      refine zq_1 ?_
      exact zq_96c (by decide)
    · refine zq_6_0 ?_
      refine zq_33 ?_
      refine zr_60 hw rfl ?_
      refine zq_1 ?_
      refine zq_12 ?_
      refine zE_vl ?_
      refine zr_62 hw rfl ?_
      refine zq_6_0 ?_
      refine zq_1 ?_
      refine zq_1 ?_
      refine zq_92_3v (zR_is hw) rfl rfl (gM_lay_ok (E := E) hw _ _ _ _) fun _ s34 => ?_
      refine zq_1 ?_
      exact zq_96c (by decide)
  · refine zq_4_1 ?_
    refine zq_1 ?_
    refine zq_47 ?_ ?_
    · refine zq_6_0 ?_
      refine zq_92_1i (zR_is hw) rfl rfl (gM_opens_ok (E := E) hw _ _) fun v22 s23 => ?_
      refine zq_40 ?_ ?_
      · refine zq_1 ?_
        exact zq_96c (by decide)
      refine zq_6_0 ?_
      refine zq_92_1i (zR_is hw) rfl rfl (gM_either_ok (E := E) hw F _ hF _) fun v24 s25 => ?_
      refine zq_40 ?_ ?_
      · refine zq_1 ?_
        exact zq_96c (by decide)
      refine zq_6_0 ?_
      refine zq_1 ?_
      refine zq_92_2i (zR_is hw) rfl rfl (gM_takes0_ok (E := E) hw _ _ _) fun v26 s27 => ?_
      refine zq_41 ?_ ?_
      · refine zq_57 ?_
        refine zq_1 ?_
        exact zq_96c (by decide)
      · refine zq_6_0 ?_
        refine zq_33 ?_
        refine zr_60 hw rfl ?_
        refine zq_1 ?_
        refine zq_12 ?_
        refine zE_vl ?_
        refine zr_62 hw rfl ?_
        refine zq_1 ?_
        exact zq_96c (by decide)
    · refine zq_4_1 ?_
      refine zq_1 ?_
      refine zq_47 ?_ ?_
      · refine zq_6_0 ?_
        refine zq_33 ?_
        refine zr_60 hw rfl ?_
        refine zq_1 ?_
        refine zq_11 ?_
        refine zE_vl ?_
        refine zr_62 hw rfl ?_
        refine zq_6_0 ?_
        refine zq_1 ?_
        refine zq_1 ?_
        refine zq_92_3v (zR_is hw) rfl rfl (gM_lay_ok (E := E) hw _ _ _ _) fun _ s21 => ?_
        refine zq_1 ?_
        exact zq_96c (by decide)
      · refine zE_jn (fun q5 => ∀ (y0 : Int) (s : zSg), zE (zov R h0) Ji E (d + 4) 256 (zB 256 8) ([some (.inr (.inr R)), some (.inl y0), none]) ([]) s (q5 y0 s)) (fun x3 s4 => ?_) (fun q5 hq5 => ?_)
        · refine zE_jn (fun q9 => ∀ (y0 : Int) (y1 : Int) (s : zSg), zE (zov R h0) Ji E (d + 4) 256 (zB 256 9) ([some (.inr (.inr R)), some (.inl y0), some (.inl y1)]) ([]) s (q9 y0 y1 s)) (fun x6 x7 s8 => ?_) (fun q9 hq9 => ?_)
          · refine zq_6_0 ?_
            refine zq_33 ?_
            refine zr_60 hw rfl ?_
            refine zq_1 ?_
            refine zq_11 ?_
            refine zE_vl ?_
            refine zr_62 hw rfl ?_
            refine zq_6_0 ?_
            refine zq_92_1i (zR_is hw) rfl rfl (gM_digits_ok (E := E) hw _ _) fun v11 s12 => ?_
            refine zq_41 ?_ ?_
            · refine zq_1 ?_
              exact zq_96c (by decide)
            · refine zE_jn (fun q15 => ∀ (y0 : Int) (s : zSg), zE (zov R h0) Ji E (d + 4) 256 (zB 256 14) ([some (.inr (.inr R)), none, none]) ([.inl y0, .inr (.inr R)]) s (q15 y0 s)) (fun x13 s14 => ?_) (fun q15 hq15 => ?_)
              · refine zq_6_0 ?_
                refine zr_60 hw rfl ?_
                refine zq_92_3v (zR_is hw) rfl rfl (gM_lay_ok (E := E) hw _ _ _ _) fun _ s16 => ?_
                refine zq_1 ?_
                exact zq_96c (by decide)
              refine zq_6_0 ?_
              refine zq_4_1 ?_
              refine zq_1 ?_
              refine zq_47 ?_ ?_
              · refine zq_4_2 ?_
                refine zq_1 ?_
                refine zq_47 ?_ ?_
                · refine zq_1 ?_
                  refine zq_56 ?_
                  exact zE_w [true, false, false] (hq15 _ _)
                · refine zq_1 ?_
                  refine zq_56 ?_
                  exact zE_w [true, false, false] (hq15 _ _)
              · refine zq_4_2 ?_
                refine zq_1 ?_
                refine zq_47 ?_ ?_
                · refine zq_1 ?_
                  refine zq_56 ?_
                  exact zE_w [true, false, false] (hq15 _ _)
                · refine zq_1 ?_
                  refine zq_57 ?_
                  exact zE_w [true, false, false] (hq15 _ _)
          refine zq_6_0 ?_
          refine zq_33 ?_
          refine zr_60 hw rfl ?_
          refine zq_1 ?_
          refine zq_11 ?_
          refine zE_vl ?_
          refine zr_62 hw rfl ?_
          refine zq_6_0 ?_
          refine zq_92_1i (zR_is hw) rfl rfl (gM_look_ok (E := E) hw _ _) fun v18 s19 => ?_
          refine zq_7_2 rfl ?_
          refine zq_4_2 ?_
          refine zq_1 ?_
          refine zq_46 ?_ ?_
          · exact zE_w [true, true, true] (hq9 _ _ _)
          refine zq_4_2 ?_
          refine zq_1 ?_
          refine zq_46 ?_ ?_
          · exact zE_w [true, true, true] (hq9 _ _ _)
          refine zq_1 ?_
          exact zq_96c (by decide)
        refine zq_4_1 ?_
        refine zq_1 ?_
        refine zq_46 ?_ ?_
        · exact zE_w [true, true, false] (hq5 _ _)
        refine zq_4_1 ?_
        refine zq_1 ?_
        refine zq_46 ?_ ?_
        · exact zE_w [true, true, false] (hq5 _ _)
        refine zq_1 ?_
        exact zq_96c (by decide)
noncomputable def gM_factor : Nat → zSg → Option (Int × zSg)
  | 0, _ => none
  | n + 1, s => gM_factor_b (gM_factor n) s
theorem gM_factor_ok {E : Nat → Nat} {R : Nat} {h0 : zHp} (hw : zRg R h0) (d : Nat) : ∀ (n : Nat)  (s : zSg), zE (zov R h0) Ji E (d + (1 + 3 * n)) 256 (zB 256 0) (zent 3 [.inr (.inr R)]) [] s (gM_factor n s) := by
  intro n
  induction n with
  | zero => intro s; exact zE_none
  | succ n ih =>
    intro s
    have h9 := gM_factor_b_ok (E := E) hw (gM_factor n) (d + 3 * n) (fun s => zE_d (by omega) (ih s)) s
    exact zE_d (by omega) h9
theorem gM_factor_okx {E : Nat → Nat} {R : Nat} {h0 : zHp} (hw : zRg R h0) (d : Nat)  (s : zSg) : zE (zov R h0) Ji E (d + 37) 256 (zB 256 0) (zent 3 [.inr (.inr R)]) [] s (gM_factor 12 s) := zE_d (by omega) (gM_factor_ok (E := E) hw d 12 s)
theorem gM_both_okx {E : Nat → Nat} {R : Nat} {h0 : zHp} (hw : zRg R h0) (d : Nat)  (s : zSg) : zE (zov R h0) Ji E (d + 38) 254 (zB 254 0) (zent 1 [.inr (.inr R)]) [] s (gM_both (gM_factor 12) s) := zE_d (by omega) (gM_both_ok (E := E) hw (gM_factor 12) (d + 36) (fun s => zE_d (by omega) (gM_factor_ok (E := E) hw d 12 s)) s)
theorem gM_either_okx {E : Nat → Nat} {R : Nat} {h0 : zHp} (hw : zRg R h0) (d : Nat)  (s : zSg) : zE (zov R h0) Ji E (d + 39) 255 (zB 255 0) (zent 1 [.inr (.inr R)]) [] s (gM_either (gM_factor 12) s) := zE_d (by omega) (gM_either_ok (E := E) hw (gM_factor 12) (d + 36) (fun s => zE_d (by omega) (gM_factor_ok (E := E) hw d 12 s)) s)
/-! 257: EngraversHouseModel.share:()Z -/
noncomputable def gM_share (s : zSg) : Option (Int × zSg) :=
  yjn (fun (x1 : Int) (x2 : Int) (x3 : Int) (s4 : zSg) =>
   yjn (fun (x6 : Int) (x7 : Int) (s8 : zSg) =>
    yjn (fun (x10 : Int) (x11 : Int) (x12 : Int) (s13 : zSg) =>
     ywi 104 51 x11 x12 s13 fun s15 =>
     yvl (zup s15 0 57 (zadd (s15 0 57) 1)) fun s16 =>
     ybd (gM_takes0 32 s16) fun v17 s18 =>
     if v17 = 0 then
       (some (0, s18))
     else
     ybd (gM_digits s18) fun v19 s20 =>
     if v19 = 0 then
       (some (0, s20))
     else
       (yjn (fun (x21 : Int) (s22 : zSg) =>
        ywi 104 54 x21 (s22 0 58) s22 fun s24 =>
        yvl (s24 0 59) fun v25 =>
        yrd 13 49 v25 s24 fun v26 =>
        ywi 13 49 v25 (zadd v26 1) s24 fun s27 =>
        some (1, s27)) fun q23 =>
        ywi 104 52 x10 (s20 0 61) s20 fun s28 =>
       ywi 104 53 x10 (s28 0 58) s28 fun s29 =>
       ybd (gM_look s29) fun v30 s31 =>
       if v30 = 32 then
         (yvl (zup s31 0 57 (zadd (s31 0 57) 1)) fun s32 =>
         ybd (gM_takes0 105 s32) fun v33 s34 =>
         if v33 = 0 then
           (some (0, s34))
         else
         ybd (gM_takes0 102 s34) fun v35 s36 =>
         if v35 = 0 then
           (some (0, s36))
         else
         ybd (gM_takes0 32 s36) fun v37 s38 =>
         if v37 = 0 then
           (some (0, s38))
         else
           (yvl (zup s38 0 60 0) fun s39 =>
           ybd (gM_either (gM_factor 12) s39) fun v40 s41 =>
           if v40 = 0 then
             (some (0, s41))
           else
             (q23 x10 s41)))
       else
         (q23 x10 s31))) fun q14 =>
     if x7 = 115 then
      (q14 x6 x6 0 s8)
    else
      (if x7 = 104 then
        (q14 x6 x6 1 s8)
      else
        (q14 x6 x6 2 s8))) fun q9 =>
    ywi 104 50 x2 x3 s4 fun s42 =>
   yvl (zup s42 0 57 (zadd (s42 0 57) 1)) fun s43 =>
   ybd (gM_look s43) fun v44 s45 =>
   if v44 = 115 then
     (q9 x1 v44 s45)
   else
   if v44 = 104 then
     (q9 x1 v44 s45)
   else
   if v44 = 112 then
     (q9 x1 v44 s45)
   else
   some (0, s45)) fun q5 =>
   yrd 13 49 (s 0 59) s fun v46 =>
  yvl (zadd (zmul 8 (s 0 59)) v46) fun v47 =>
  ybd (gM_look s) fun v48 s49 =>
  if v48 = 97 then
    (q5 v47 v47 0 s49)
  else
    (q5 v47 v47 1 s49)
theorem gM_share_ok {E : Nat → Nat} {R : Nat} {h0 : zHp} (hw : zRg R h0) (d : Nat) (s : zSg) : zE (zov R h0) Ji E (d + 40) 257 (zB 257 0) (zent 3 [.inr (.inr R)]) [] s (gM_share s) := by
  show zE _ _ _ _ _ _ [some (.inr (.inr R)), none, none] _ _ _
  unfold gM_share
  refine zE_jn (fun q5 => ∀ (y0 : Int) (y1 : Int) (y2 : Int) (s : zSg), zE (zov R h0) Ji E (d + 40) 257 (zB 257 2) ([some (.inr (.inr R)), some (.inl y0), none]) ([.inl y2, .inl y1, .inr (.inr (zra R 50))]) s (q5 y0 y1 y2 s)) (fun x1 x2 x3 s4 => ?_) (fun q5 hq5 => ?_)
  · refine zE_jn (fun q9 => ∀ (y0 : Int) (y1 : Int) (s : zSg), zE (zov R h0) Ji E (d + 40) 257 (zB 257 3) ([some (.inr (.inr R)), some (.inl y0), some (.inl y1)]) ([]) s (q9 y0 y1 s)) (fun x6 x7 s8 => ?_) (fun q9 hq9 => ?_)
    · refine zE_jn (fun q14 => ∀ (y0 : Int) (y1 : Int) (y2 : Int) (s : zSg), zE (zov R h0) Ji E (d + 40) 257 (zB 257 6) ([some (.inr (.inr R)), some (.inl y0), none]) ([.inl y2, .inl y1, .inr (.inr (zra R 51))]) s (q14 y0 y1 y2 s)) (fun x10 x11 x12 s13 => ?_) (fun q14 hq14 => ?_)
      · refine zr_68 hw rfl rfl rfl ?_
        refine zq_6_0 ?_
        refine zq_33 ?_
        refine zr_60 hw rfl ?_
        refine zq_1 ?_
        refine zq_11 ?_
        refine zE_vl ?_
        refine zr_62 hw rfl ?_
        refine zq_6_0 ?_
        refine zq_1 ?_
        refine zq_92_2i (zR_is hw) rfl rfl (gM_takes0_ok (E := E) hw _ _ _) fun v17 s18 => ?_
        refine zq_40 ?_ ?_
        · refine zq_1 ?_
          exact zq_96c (by decide)
        refine zq_6_0 ?_
        refine zq_92_1i (zR_is hw) rfl rfl (gM_digits_ok (E := E) hw _ _) fun v19 s20 => ?_
        refine zq_41 ?_ ?_
        · refine zq_57 ?_
          refine zq_1 ?_
          exact zq_96c (by decide)
        · refine zE_jn (fun q23 => ∀ (y0 : Int) (s : zSg), zE (zov R h0) Ji E (d + 40) 257 (zB 257 11) ([some (.inr (.inr R)), some (.inl y0), none]) ([]) s (q23 y0 s)) (fun x21 s22 => ?_) (fun q23 hq23 => ?_)
          · refine zq_6_0 ?_
            refine zr_61 hw rfl ?_
            refine zq_4_1 ?_
            refine zq_6_0 ?_
            refine zr_60 hw rfl ?_
            refine zr_68 hw rfl rfl rfl ?_
            refine zq_6_0 ?_
            refine zr_61 hw rfl ?_
            refine zq_6_0 ?_
            refine zr_60 hw rfl ?_
            refine zE_vl ?_
            refine zq_34 ?_
            refine zr_65 hw rfl rfl rfl ?_
            refine zq_1 ?_
            refine zq_11 ?_
            refine zr_68 hw rfl rfl rfl ?_
            refine zq_1 ?_
            exact zq_96c (by decide)
          refine zq_6_0 ?_
          refine zr_61 hw rfl ?_
          refine zq_4_1 ?_
          refine zq_6_0 ?_
          refine zr_60 hw rfl ?_
          refine zr_68 hw rfl rfl rfl ?_
          refine zq_6_0 ?_
          refine zr_61 hw rfl ?_
          refine zq_4_1 ?_
          refine zq_6_0 ?_
          refine zr_60 hw rfl ?_
          refine zr_68 hw rfl rfl rfl ?_
          refine zq_6_0 ?_
          refine zq_92_1i (zR_is hw) rfl rfl (gM_look_ok (E := E) hw _ _) fun v30 s31 => ?_
          refine zq_1 ?_
          refine zq_47 ?_ ?_
          · refine zq_6_0 ?_
            refine zq_33 ?_
            refine zr_60 hw rfl ?_
            refine zq_1 ?_
            refine zq_11 ?_
            refine zE_vl ?_
            refine zr_62 hw rfl ?_
            refine zq_6_0 ?_
            refine zq_1 ?_
            refine zq_92_2i (zR_is hw) rfl rfl (gM_takes0_ok (E := E) hw _ _ _) fun v33 s34 => ?_
            refine zq_40 ?_ ?_
            · refine zq_1 ?_
              exact zq_96c (by decide)
            refine zq_6_0 ?_
            refine zq_1 ?_
            refine zq_92_2i (zR_is hw) rfl rfl (gM_takes0_ok (E := E) hw _ _ _) fun v35 s36 => ?_
            refine zq_40 ?_ ?_
            · refine zq_1 ?_
              exact zq_96c (by decide)
            refine zq_6_0 ?_
            refine zq_1 ?_
            refine zq_92_2i (zR_is hw) rfl rfl (gM_takes0_ok (E := E) hw _ _ _) fun v37 s38 => ?_
            refine zq_41 ?_ ?_
            · refine zq_57 ?_
              refine zq_1 ?_
              exact zq_96c (by decide)
            · refine zq_6_0 ?_
              refine zq_1 ?_
              refine zE_vl ?_
              refine zr_62 hw rfl ?_
              refine zq_6_0 ?_
              refine zq_92_1i (zR_is hw) rfl rfl (gM_either_okx (E := E) hw _ _) fun v40 s41 => ?_
              refine zq_41 ?_ ?_
              · refine zq_1 ?_
                exact zq_96c (by decide)
              · exact zE_w [true, true, false] (hq23 _ _)
          · exact zE_w [true, true, false] (hq23 _ _)
      refine zq_6_0 ?_
      refine zr_61 hw rfl ?_
      refine zq_4_1 ?_
      refine zq_4_2 ?_
      refine zq_1 ?_
      refine zq_47 ?_ ?_
      · refine zq_1 ?_
        refine zq_56 ?_
        exact zE_w [true, true, false] (hq14 _ _ _ _)
      · refine zq_4_2 ?_
        refine zq_1 ?_
        refine zq_47 ?_ ?_
        · refine zq_1 ?_
          refine zq_56 ?_
          exact zE_w [true, true, false] (hq14 _ _ _ _)
        · refine zq_1 ?_
          refine zq_57 ?_
          exact zE_w [true, true, false] (hq14 _ _ _ _)
    refine zr_68 hw rfl rfl rfl ?_
    refine zq_6_0 ?_
    refine zq_33 ?_
    refine zr_60 hw rfl ?_
    refine zq_1 ?_
    refine zq_11 ?_
    refine zE_vl ?_
    refine zr_62 hw rfl ?_
    refine zq_6_0 ?_
    refine zq_92_1i (zR_is hw) rfl rfl (gM_look_ok (E := E) hw _ _) fun v44 s45 => ?_
    refine zq_7_2 rfl ?_
    refine zq_4_2 ?_
    refine zq_1 ?_
    refine zq_46 ?_ ?_
    · exact zE_w [true, true, true] (hq9 _ _ _)
    refine zq_4_2 ?_
    refine zq_1 ?_
    refine zq_46 ?_ ?_
    · exact zE_w [true, true, true] (hq9 _ _ _)
    refine zq_4_2 ?_
    refine zq_1 ?_
    refine zq_46 ?_ ?_
    · exact zE_w [true, true, true] (hq9 _ _ _)
    refine zq_1 ?_
    exact zq_96c (by decide)
  refine zq_1 ?_
  refine zq_6_0 ?_
  refine zr_60 hw rfl ?_
  refine zq_13 ?_
  refine zq_6_0 ?_
  refine zr_61 hw rfl ?_
  refine zq_6_0 ?_
  refine zr_60 hw rfl ?_
  refine zr_65 hw rfl rfl rfl ?_
  refine zq_11 ?_
  refine zE_vl ?_
  refine zq_7_1 rfl ?_
  refine zq_6_0 ?_
  refine zr_61 hw rfl ?_
  refine zq_4_1 ?_
  refine zq_6_0 ?_
  refine zq_92_1i (zR_is hw) rfl rfl (gM_look_ok (E := E) hw _ _) fun v48 s49 => ?_
  refine zq_1 ?_
  refine zq_47 ?_ ?_
  · refine zq_1 ?_
    refine zq_56 ?_
    exact zE_w [true, true, false] (hq5 _ _ _ _)
  · refine zq_1 ?_
    refine zq_57 ?_
    exact zE_w [true, true, false] (hq5 _ _ _ _)
/-! 258: EngraversHouseModel.clause:()Z -/
noncomputable def gM_clause (s : zSg) : Option (Int × zSg) :=
  yjn (fun  (s1 : zSg) =>
   ybd (gM_share s1) fun v3 s4 =>
   yrb v3 s4) fun q2 =>
   ybd (gM_look s) fun v5 s6 =>
  if v5 = 97 then
    (q2 s6)
  else
  ybd (gM_look s6) fun v7 s8 =>
  if v7 = 114 then
    (q2 s8)
  else
    (ybd (gM_takes0 108 s8) fun v9 s10 =>
    if v9 = 0 then
      (some (0, s10))
    else
      (ybd (gM_look s10) fun v11 s12 =>
      if v11 = 105 then
        (yvl (zup s12 0 57 (zadd (s12 0 57) 1)) fun s26 =>
        ybd (gM_takes0 102 s26) fun v27 s28 =>
        if v27 = 0 then
          (some (0, s28))
        else
        ybd (gM_takes0 101 s28) fun v29 s30 =>
        if v29 = 0 then
          (some (0, s30))
        else
        ybd (gM_takes0 32 s30) fun v31 s32 =>
        if v31 = 0 then
          (some (0, s32))
        else
        ybd (gM_digits s32) fun v33 s34 =>
        if v33 = 0 then
          (some (0, s34))
        else
          (ywi 13 47 (s34 0 59) (s34 0 61) s34 fun s35 =>
          some (1, s35)))
      else
        (ybd (gM_takes0 101 s12) fun v13 s14 =>
        if v13 = 0 then
          (some (0, s14))
        else
        ybd (gM_takes0 97 s14) fun v15 s16 =>
        if v15 = 0 then
          (some (0, s16))
        else
        ybd (gM_takes0 115 s16) fun v17 s18 =>
        if v17 = 0 then
          (some (0, s18))
        else
        ybd (gM_takes0 116 s18) fun v19 s20 =>
        if v19 = 0 then
          (some (0, s20))
        else
        ybd (gM_takes0 32 s20) fun v21 s22 =>
        if v21 = 0 then
          (some (0, s22))
        else
        ybd (gM_digits s22) fun v23 s24 =>
        if v23 = 0 then
          (some (0, s24))
        else
          (ywi 13 48 (s24 0 59) (s24 0 61) s24 fun s25 =>
          some (1, s25)))))
theorem gM_clause_ok {E : Nat → Nat} {R : Nat} {h0 : zHp} (hw : zRg R h0) (d : Nat) (s : zSg) : zE (zov R h0) Ji E (d + 41) 258 (zB 258 0) (zent 1 [.inr (.inr R)]) [] s (gM_clause s) := by
  show zE _ _ _ _ _ _ [some (.inr (.inr R))] _ _ _
  unfold gM_clause
  refine zE_jn (fun q2 => ∀ (s : zSg), zE (zov R h0) Ji E (d + 41) 258 (zB 258 1) ([some (.inr (.inr R))]) ([]) s (q2 s)) (fun s1 => ?_) (fun q2 hq2 => ?_)
  · refine zq_6_0 ?_
    refine zq_92_1i (zR_is hw) rfl rfl (gM_share_ok (E := E) hw _ _) fun v3 s4 => ?_
    exact zq_96
  refine zq_6_0 ?_
  refine zq_92_1i (zR_is hw) rfl rfl (gM_look_ok (E := E) hw _ _) fun v5 s6 => ?_
  refine zq_1 ?_
  refine zq_46 ?_ ?_
  · exact zE_w [true] (hq2 _)
  refine zq_6_0 ?_
  refine zq_92_1i (zR_is hw) rfl rfl (gM_look_ok (E := E) hw _ _) fun v7 s8 => ?_
  refine zq_1 ?_
  refine zq_47 ?_ ?_
  · refine zq_57 ?_
    exact zE_w [true] (hq2 _)
  · refine zq_6_0 ?_
    refine zq_1 ?_
    refine zq_92_2i (zR_is hw) rfl rfl (gM_takes0_ok (E := E) hw _ _ _) fun v9 s10 => ?_
    refine zq_41 ?_ ?_
    · refine zq_1 ?_
      exact zq_96c (by decide)
    · refine zq_6_0 ?_
      refine zq_92_1i (zR_is hw) rfl rfl (gM_look_ok (E := E) hw _ _) fun v11 s12 => ?_
      refine zq_1 ?_
      refine zq_47 ?_ ?_
      · refine zq_6_0 ?_
        refine zq_33 ?_
        refine zr_60 hw rfl ?_
        refine zq_1 ?_
        refine zq_11 ?_
        refine zE_vl ?_
        refine zr_62 hw rfl ?_
        refine zq_6_0 ?_
        refine zq_1 ?_
        refine zq_92_2i (zR_is hw) rfl rfl (gM_takes0_ok (E := E) hw _ _ _) fun v27 s28 => ?_
        refine zq_40 ?_ ?_
        · refine zq_1 ?_
          exact zq_96c (by decide)
        refine zq_6_0 ?_
        refine zq_1 ?_
        refine zq_92_2i (zR_is hw) rfl rfl (gM_takes0_ok (E := E) hw _ _ _) fun v29 s30 => ?_
        refine zq_40 ?_ ?_
        · refine zq_1 ?_
          exact zq_96c (by decide)
        refine zq_6_0 ?_
        refine zq_1 ?_
        refine zq_92_2i (zR_is hw) rfl rfl (gM_takes0_ok (E := E) hw _ _ _) fun v31 s32 => ?_
        refine zq_40 ?_ ?_
        · refine zq_1 ?_
          exact zq_96c (by decide)
        refine zq_6_0 ?_
        refine zq_92_1i (zR_is hw) rfl rfl (gM_digits_ok (E := E) hw _ _) fun v33 s34 => ?_
        refine zq_41 ?_ ?_
        · refine zq_57 ?_
          refine zq_1 ?_
          exact zq_96c (by decide)
        · refine zq_6_0 ?_
          refine zr_61 hw rfl ?_
          refine zq_6_0 ?_
          refine zr_60 hw rfl ?_
          refine zq_6_0 ?_
          refine zr_60 hw rfl ?_
          refine zr_68 hw rfl rfl rfl ?_
          refine zq_1 ?_
          exact zq_96c (by decide)
      · refine zq_6_0 ?_
        refine zq_1 ?_
        refine zq_92_2i (zR_is hw) rfl rfl (gM_takes0_ok (E := E) hw _ _ _) fun v13 s14 => ?_
        refine zq_40 ?_ ?_
        · refine zq_1 ?_
          exact zq_96c (by decide)
        refine zq_6_0 ?_
        refine zq_1 ?_
        refine zq_92_2i (zR_is hw) rfl rfl (gM_takes0_ok (E := E) hw _ _ _) fun v15 s16 => ?_
        refine zq_40 ?_ ?_
        · refine zq_1 ?_
          exact zq_96c (by decide)
        refine zq_6_0 ?_
        refine zq_1 ?_
        refine zq_92_2i (zR_is hw) rfl rfl (gM_takes0_ok (E := E) hw _ _ _) fun v17 s18 => ?_
        refine zq_40 ?_ ?_
        · refine zq_1 ?_
          exact zq_96c (by decide)
        refine zq_6_0 ?_
        refine zq_1 ?_
        refine zq_92_2i (zR_is hw) rfl rfl (gM_takes0_ok (E := E) hw _ _ _) fun v19 s20 => ?_
        refine zq_40 ?_ ?_
        · refine zq_1 ?_
          exact zq_96c (by decide)
        refine zq_6_0 ?_
        refine zq_1 ?_
        refine zq_92_2i (zR_is hw) rfl rfl (gM_takes0_ok (E := E) hw _ _ _) fun v21 s22 => ?_
        refine zq_40 ?_ ?_
        · refine zq_1 ?_
          exact zq_96c (by decide)
        refine zq_6_0 ?_
        refine zq_92_1i (zR_is hw) rfl rfl (gM_digits_ok (E := E) hw _ _) fun v23 s24 => ?_
        refine zq_41 ?_ ?_
        · refine zq_57 ?_
          refine zq_1 ?_
          exact zq_96c (by decide)
        · refine zq_6_0 ?_
          refine zr_61 hw rfl ?_
          refine zq_6_0 ?_
          refine zr_60 hw rfl ?_
          refine zq_6_0 ?_
          refine zr_60 hw rfl ?_
          refine zr_68 hw rfl rfl rfl ?_
          refine zq_1 ?_
          exact zq_96c (by decide)
/-! 259: EngraversHouseModel.contract:(II)I -/
noncomputable def gM_contract_l4 : Nat → Int → Int → Int → Int → zSg → (Int → Int → Int → zSg → Option (Int × zSg)) → Option (Int × zSg)
  | 0, _, _, _, _, _, _ => none
  | n + 1, x13, x14, x15, x16, s17, k18 =>
   if x16 = 0 then
     (k18 x13 x14 x16 s17)
   else
   ybd (gM_look s17) fun v19 s20 =>
   if v19 = 59 then
     (if x15 < 8 then
       (yvl (zup s20 0 57 (zadd (s20 0 57) 1)) fun s21 =>
       yvl (zadd x15 1) fun v22 =>
       ybd (gM_clause s21) fun v23 s24 =>
       gM_contract_l4 n x13 x14 v22 v23 s24 k18)
     else
       (k18 x13 x14 x16 s20))
   else
     (k18 x13 x14 x16 s20)
theorem gM_contract_l4_ok {E : Nat → Nat} {R : Nat} {h0 : zHp} (hw : zRg R h0) (d : Nat) : ∀ (n : Nat) (x13 : Int) (x14 : Int) (x15 : Int) (x16 : Int) (s17 : zSg) (k18 : Int → Int → Int → zSg → Option (Int × zSg)) (hk18 : ∀ (y0 : Int) (y1 : Int) (y2 : Int) (s : zSg), zE (zov R h0) Ji E (d + 42) 259 (zB 259 5) ([some (.inr (.inr R)), some (.inl y0), some (.inl y1), none, some (.inl y2)]) ([]) s (k18 y0 y1 y2 s)), zE (zov R h0) Ji E (d + 42) 259 (zB 259 4) ([some (.inr (.inr R)), some (.inl x13), some (.inl x14), some (.inl x15), some (.inl x16)]) ([]) s17 (gM_contract_l4 n x13 x14 x15 x16 s17 k18) := by
  intro n
  induction n with
  | zero => intro x13 x14 x15 x16 s17 k18 hk18; exact zE_none
  | succ n ih =>
    intro x13 x14 x15 x16 s17 k18 hk18
    unfold gM_contract_l4
    refine zq_4_4 ?_
    refine zq_40 ?_ ?_
    · exact zE_w [true, true, true, false, true] (hk18 _ _ _ _)
    refine zq_6_0 ?_
    refine zq_92_1i (zR_is hw) rfl rfl (gM_look_ok (E := E) hw _ _) fun v19 s20 => ?_
    refine zq_1 ?_
    refine zq_47 ?_ ?_
    · refine zq_4_3 ?_
      refine zq_1 ?_
      refine zq_49 ?_ ?_
      · refine zq_6_0 ?_
        refine zq_33 ?_
        refine zr_60 hw rfl ?_
        refine zq_1 ?_
        refine zq_11 ?_
        refine zE_vl ?_
        refine zr_62 hw rfl ?_
        refine zE_vl ?_
        refine zq_10_3 rfl ?_
        refine zq_6_0 ?_
        refine zq_92_1i (zR_is hw) rfl rfl (gM_clause_ok (E := E) hw _ _) fun v23 s24 => ?_
        refine zq_7_4 rfl ?_
        refine zq_56 ?_
        exact zE_w [true, true, true, true, true] (ih _ _ _ _ _ _ hk18)
      · exact zE_w [true, true, true, false, true] (hk18 _ _ _ _)
    · exact zE_w [true, true, true, false, true] (hk18 _ _ _ _)
noncomputable def gM_contract (a1 : Int) (a2 : Int) (s : zSg) : Option (Int × zSg) :=
  ybd (gM_in a1 0 3 s) fun v1 s2 =>
  if v1 = 0 then
    (some ((-1), s2))
  else
    (ybd (gM_isDay a2 s2) fun v3 s4 =>
    if v3 = 0 then
      (some ((-2), s4))
    else
      (if (s4 0 44) = 12 then
        (some ((-4), s4))
      else
        (yvl (zup s4 0 59 (s4 0 44)) fun s5 =>
        yvl (zup s5 0 57 0) fun s6 =>
        yvl (zup s6 0 58 0) fun s7 =>
        ywi 13 49 (s7 0 59) 0 s7 fun s8 =>
        ywi 13 47 (s8 0 59) 10 s8 fun s9 =>
        ywi 13 48 (s9 0 59) 0 s9 fun s10 =>
        ybd (gM_clause s10) fun v11 s12 =>
        gM_contract_l4 zFU a1 a2 1 v11 s12 (fun (x25 : Int) (x26 : Int) (x27 : Int) (s28 : zSg) =>
         yjn (fun (x29 : Int) (x30 : Int) (x31 : Int) (s32 : zSg) =>
          yvl (zup s32 0 43 0) fun s34 =>
          if x31 = 0 then
            (some (zsub (-10) (s34 0 57), s34))
          else
            (ywi 13 45 (s34 0 59) x29 s34 fun s35 =>
            ywi 13 46 (s35 0 59) x30 s35 fun s36 =>
            yvl (zup s36 0 44 (zadd (s36 0 44) 1)) fun s37 =>
            some (zsub (s37 0 44) 1, s37))) fun q33 =>
          yjn (fun (x38 : Int) (x39 : Int) (s40 : zSg) =>
          q33 x38 x39 0 s40) fun q41 =>
          if x27 = 0 then
           (q41 x25 x26 s28)
         else
         if (s28 0 57) = (s28 0 43) then
           (q33 x25 x26 1 s28)
         else
           (q41 x25 x26 s28)))))
theorem gM_contract_ok {E : Nat → Nat} {R : Nat} {h0 : zHp} (hw : zRg R h0) (d : Nat) (a1 : Int) (a2 : Int) (s : zSg) : zE (zov R h0) Ji E (d + 42) 259 (zB 259 0) (zent 5 [.inr (.inr R), .inl a1, .inl a2]) [] s (gM_contract a1 a2 s) := by
  show zE _ _ _ _ _ _ [some (.inr (.inr R)), some (.inl a1), some (.inl a2), none, none] _ _ _
  unfold gM_contract
  refine zq_4_1 ?_
  refine zq_1 ?_
  refine zq_1 ?_
  refine zq_90_3i rfl rfl (gM_in_ok (E := E) hw _ _ _ _ _) fun v1 s2 => ?_
  refine zq_41 ?_ ?_
  · refine zq_1 ?_
    exact zq_95 rfl
  · refine zq_4_2 ?_
    refine zq_90_1i rfl rfl (gM_isDay_ok (E := E) hw _ _ _) fun v3 s4 => ?_
    refine zq_41 ?_ ?_
    · refine zq_1 ?_
      exact zq_95 rfl
    · refine zq_6_0 ?_
      refine zr_60 hw rfl ?_
      refine zq_1 ?_
      refine zq_47 ?_ ?_
      · refine zq_1 ?_
        exact zq_95 rfl
      · refine zq_6_0 ?_
        refine zq_6_0 ?_
        refine zr_60 hw rfl ?_
        refine zE_vl ?_
        refine zr_62 hw rfl ?_
        refine zq_6_0 ?_
        refine zq_1 ?_
        refine zE_vl ?_
        refine zr_62 hw rfl ?_
        refine zq_6_0 ?_
        refine zq_1 ?_
        refine zE_vl ?_
        refine zr_62 hw rfl ?_
        refine zq_6_0 ?_
        refine zr_61 hw rfl ?_
        refine zq_6_0 ?_
        refine zr_60 hw rfl ?_
        refine zq_1 ?_
        refine zr_68 hw rfl rfl rfl ?_
        refine zq_6_0 ?_
        refine zr_61 hw rfl ?_
        refine zq_6_0 ?_
        refine zr_60 hw rfl ?_
        refine zq_1 ?_
        refine zr_68 hw rfl rfl rfl ?_
        refine zq_6_0 ?_
        refine zr_61 hw rfl ?_
        refine zq_6_0 ?_
        refine zr_60 hw rfl ?_
        refine zq_1 ?_
        refine zr_68 hw rfl rfl rfl ?_
        refine zq_1 ?_
        refine zq_7_3 rfl ?_
        refine zq_6_0 ?_
        refine zq_92_1i (zR_is hw) rfl rfl (gM_clause_ok (E := E) hw _ _) fun v11 s12 => ?_
        refine zq_7_4 rfl ?_
        refine zq_57 ?_
        refine zE_w [true, true, true, true, true] (gM_contract_l4_ok (E := E) hw d zFU _ _ _ _ _ _ (fun x25 x26 x27 s28 => ?_))
        refine zE_jn (fun q33 => ∀ (y0 : Int) (y1 : Int) (y2 : Int) (s : zSg), zE (zov R h0) Ji E (d + 42) 259 (zB 259 7) ([some (.inr (.inr R)), some (.inl y0), some (.inl y1), none, none]) ([.inl y2]) s (q33 y0 y1 y2 s)) (fun x29 x30 x31 s32 => ?_) (fun q33 hq33 => ?_)
        · refine zq_7_4 rfl ?_
          refine zq_6_0 ?_
          refine zq_1 ?_
          refine zE_vl ?_
          refine zr_62 hw rfl ?_
          refine zq_4_4 ?_
          refine zq_41 ?_ ?_
          · refine zq_1 ?_
            refine zq_6_0 ?_
            refine zr_60 hw rfl ?_
            refine zq_12 ?_
            exact zq_95 rfl
          · refine zq_6_0 ?_
            refine zr_61 hw rfl ?_
            refine zq_6_0 ?_
            refine zr_60 hw rfl ?_
            refine zq_4_1 ?_
            refine zr_68 hw rfl rfl rfl ?_
            refine zq_6_0 ?_
            refine zr_61 hw rfl ?_
            refine zq_6_0 ?_
            refine zr_60 hw rfl ?_
            refine zq_4_2 ?_
            refine zr_68 hw rfl rfl rfl ?_
            refine zq_6_0 ?_
            refine zq_33 ?_
            refine zr_60 hw rfl ?_
            refine zq_1 ?_
            refine zq_11 ?_
            refine zE_vl ?_
            refine zr_62 hw rfl ?_
            refine zq_6_0 ?_
            refine zr_60 hw rfl ?_
            refine zq_1 ?_
            refine zq_12 ?_
            exact zq_95 rfl
        refine zE_jn (fun q41 => ∀ (y0 : Int) (y1 : Int) (s : zSg), zE (zov R h0) Ji E (d + 42) 259 (zB 259 6) ([some (.inr (.inr R)), some (.inl y0), some (.inl y1), none, none]) ([]) s (q41 y0 y1 s)) (fun x38 x39 s40 => ?_) (fun q41 hq41 => ?_)
        · refine zq_1 ?_
          refine zq_57 ?_
          exact zE_w [true, true, true, false, false] (hq33 _ _ _ _)
        refine zq_4_4 ?_
        refine zq_40 ?_ ?_
        · exact zE_w [true, true, true, false, false] (hq41 _ _ _)
        refine zq_6_0 ?_
        refine zr_60 hw rfl ?_
        refine zq_6_0 ?_
        refine zr_60 hw rfl ?_
        refine zq_47 ?_ ?_
        · refine zq_1 ?_
          refine zq_56 ?_
          exact zE_w [true, true, true, false, false] (hq33 _ _ _ _)
        · exact zE_w [true, true, true, false, false] (hq41 _ _ _)
/-! 260: EngraversHouseModel.contractOf:(II)I -/
noncomputable def gM_contractOf_l1 : Nat → Int → Int → Int → Int → zSg → Option (Int × zSg)
  | 0, _, _, _, _, _ => none
  | n + 1, x1, x2, x3, x4, s5 =>
   yjn (fun (x6 : Int) (x7 : Int) (x8 : Int) (x9 : Int) (s10 : zSg) =>
    yvl (zadd x9 1) fun v12 =>
    gM_contractOf_l1 n x6 x7 x8 v12 s10) fun q11 =>
    yjn (fun (x13 : Int) (x14 : Int) (x15 : Int) (s16 : zSg) =>
    q11 x13 x14 x15 x15 s16) fun q17 =>
    if x4 < (s5 0 44) then
     (yrd 13 45 x4 s5 fun v18 =>
     if v18 = x1 then
       (yrd 13 46 x4 s5 fun v19 =>
       if x2 < v19 then
         (q11 x1 x2 x3 x4 s5)
       else
       if x3 < 0 then
         (q17 x1 x2 x4 s5)
       else
       yrd 13 46 x4 s5 fun v20 =>
       yrd 13 46 x3 s5 fun v21 =>
       if v20 < v21 then
         (q11 x1 x2 x3 x4 s5)
       else
       q17 x1 x2 x4 s5)
     else
       (q11 x1 x2 x3 x4 s5))
   else
     (some (x3, s5))
theorem gM_contractOf_l1_ok {E : Nat → Nat} {R : Nat} {h0 : zHp} (hw : zRg R h0) (d : Nat) : ∀ (n : Nat) (x1 : Int) (x2 : Int) (x3 : Int) (x4 : Int) (s5 : zSg), zE (zov R h0) Ji E (d + 0) 260 (zB 260 1) ([some (.inr (.inr R)), some (.inl x1), some (.inl x2), some (.inl x3), some (.inl x4)]) ([]) s5 (gM_contractOf_l1 n x1 x2 x3 x4 s5) := by
  intro n
  induction n with
  | zero => intro x1 x2 x3 x4 s5; exact zE_none
  | succ n ih =>
    intro x1 x2 x3 x4 s5
    unfold gM_contractOf_l1
    refine zE_jn (fun q11 => ∀ (y0 : Int) (y1 : Int) (y2 : Int) (y3 : Int) (s : zSg), zE (zov R h0) Ji E (d + 0) 260 (zB 260 3) ([some (.inr (.inr R)), some (.inl y0), some (.inl y1), some (.inl y2), some (.inl y3)]) ([]) s (q11 y0 y1 y2 y3 s)) (fun x6 x7 x8 x9 s10 => ?_) (fun q11 hq11 => ?_)
    · refine zE_vl ?_
      refine zq_10_4 rfl ?_
      refine zq_56 ?_
      exact zE_w [true, true, true, true, true] (ih _ _ _ _ _)
    refine zE_jn (fun q17 => ∀ (y0 : Int) (y1 : Int) (y2 : Int) (s : zSg), zE (zov R h0) Ji E (d + 0) 260 (zB 260 2) ([some (.inr (.inr R)), some (.inl y0), some (.inl y1), none, some (.inl y2)]) ([]) s (q17 y0 y1 y2 s)) (fun x13 x14 x15 s16 => ?_) (fun q17 hq17 => ?_)
    · refine zq_4_4 ?_
      refine zq_7_3 rfl ?_
      refine zq_57 ?_
      exact zE_w [true, true, true, true, true] (hq11 _ _ _ _ _)
    refine zq_4_4 ?_
    refine zq_6_0 ?_
    refine zr_60 hw rfl ?_
    refine zq_49 ?_ ?_
    · refine zq_6_0 ?_
      refine zr_61 hw rfl ?_
      refine zq_4_4 ?_
      refine zr_65 hw rfl rfl rfl ?_
      refine zq_4_1 ?_
      refine zq_47 ?_ ?_
      · refine zq_6_0 ?_
        refine zr_61 hw rfl ?_
        refine zq_4_4 ?_
        refine zr_65 hw rfl rfl rfl ?_
        refine zq_4_2 ?_
        refine zq_50 ?_ ?_
        · exact zE_w [true, true, true, true, true] (hq11 _ _ _ _ _)
        refine zq_4_3 ?_
        refine zq_42 ?_ ?_
        · exact zE_w [true, true, true, false, true] (hq17 _ _ _ _)
        refine zq_6_0 ?_
        refine zr_61 hw rfl ?_
        refine zq_4_4 ?_
        refine zr_65 hw rfl rfl rfl ?_
        refine zq_6_0 ?_
        refine zr_61 hw rfl ?_
        refine zq_4_3 ?_
        refine zr_65 hw rfl rfl rfl ?_
        refine zq_48 ?_ ?_
        · exact zE_w [true, true, true, true, true] (hq11 _ _ _ _ _)
        refine zq_57 ?_
        exact zE_w [true, true, true, false, true] (hq17 _ _ _ _)
      · exact zE_w [true, true, true, true, true] (hq11 _ _ _ _ _)
    · refine zq_4_3 ?_
      exact zq_95 rfl
noncomputable def gM_contractOf (a1 : Int) (a2 : Int) (s : zSg) : Option (Int × zSg) :=
  gM_contractOf_l1 zFU a1 a2 (-1) 0 s
theorem gM_contractOf_ok {E : Nat → Nat} {R : Nat} {h0 : zHp} (hw : zRg R h0) (d : Nat) (a1 : Int) (a2 : Int) (s : zSg) : zE (zov R h0) Ji E (d + 0) 260 (zB 260 0) (zent 5 [.inr (.inr R), .inl a1, .inl a2]) [] s (gM_contractOf a1 a2 s) := by
  show zE _ _ _ _ _ _ [some (.inr (.inr R)), some (.inl a1), some (.inl a2), none, none] _ _ _
  unfold gM_contractOf
  refine zq_1 ?_
  refine zq_7_3 rfl ?_
  refine zq_1 ?_
  refine zq_7_4 rfl ?_
  refine zq_57 ?_
  exact zE_w [true, true, true, true, true] (gM_contractOf_l1_ok (E := E) hw d zFU _ _ _ _ _)
