/-! 229: EngraversHouseModel.plate:(III)I -/
noncomputable def gM_plate_l7 : Nat → Int → Int → Int → Int → Int → Int → zSg → (Int → Int → Int → Int → Int → zSg → Option (Int × zSg)) → Option (Int × zSg)
  | 0, _, _, _, _, _, _, _, _ => none
  | n + 1, x23, x24, x25, x26, x27, x28, s29, k30 =>
   if x28 < (s29 0 16) then
     (yvl (zadd (zadd (zmul 64 x26) (zmul 8 x27)) x28) fun v31 =>
     yrd 8 17 x28 s29 fun v32 =>
     ywi 3840 20 v31 v32 s29 fun s33 =>
     yrd 8 18 x28 s33 fun v34 =>
     ywi 3840 21 v31 v34 s33 fun s35 =>
     yrd 8 19 x28 s35 fun v36 =>
     ywi 3840 22 v31 v36 s35 fun s37 =>
     yvl (zadd x28 1) fun v38 =>
     gM_plate_l7 n x23 x24 x25 x26 x27 v38 s37 k30)
   else
     (k30 x23 x24 x25 x26 x27 s29)
theorem gM_plate_l7_ok {E : Nat → Nat} {R : Nat} {h0 : zHp} (hw : zRg R h0) (d : Nat) : ∀ (n : Nat) (x23 : Int) (x24 : Int) (x25 : Int) (x26 : Int) (x27 : Int) (x28 : Int) (s29 : zSg) (k30 : Int → Int → Int → Int → Int → zSg → Option (Int × zSg)) (hk30 : ∀ (y0 : Int) (y1 : Int) (y2 : Int) (y3 : Int) (y4 : Int) (s : zSg), zE (zov R h0) Ji E (d + 3) 229 (zB 229 8) ([some (.inr (.inr R)), some (.inl y0), some (.inl y1), some (.inl y2), some (.inl y3), some (.inl y4), none, none]) ([]) s (k30 y0 y1 y2 y3 y4 s)), zE (zov R h0) Ji E (d + 3) 229 (zB 229 7) ([some (.inr (.inr R)), some (.inl x23), some (.inl x24), some (.inl x25), some (.inl x26), some (.inl x27), some (.inl x28), none]) ([]) s29 (gM_plate_l7 n x23 x24 x25 x26 x27 x28 s29 k30) := by
  intro n
  induction n with
  | zero => intro x23 x24 x25 x26 x27 x28 s29 k30 hk30; exact zE_none
  | succ n ih =>
    intro x23 x24 x25 x26 x27 x28 s29 k30 hk30
    unfold gM_plate_l7
    refine zq_4_6 ?_
    refine zq_6_0 ?_
    refine zr_60 hw rfl ?_
    refine zq_49 ?_ ?_
    · refine zq_1 ?_
      refine zq_4_4 ?_
      refine zq_13 ?_
      refine zq_1 ?_
      refine zq_4_5 ?_
      refine zq_13 ?_
      refine zq_11 ?_
      refine zq_4_6 ?_
      refine zq_11 ?_
      refine zE_vl ?_
      refine zq_7_7 rfl ?_
      refine zq_6_0 ?_
      refine zr_61 hw rfl ?_
      refine zq_4_7 ?_
      refine zq_6_0 ?_
      refine zr_61 hw rfl ?_
      refine zq_4_6 ?_
      refine zr_65 hw rfl rfl rfl ?_
      refine zr_68 hw rfl rfl rfl ?_
      refine zq_6_0 ?_
      refine zr_61 hw rfl ?_
      refine zq_4_7 ?_
      refine zq_6_0 ?_
      refine zr_61 hw rfl ?_
      refine zq_4_6 ?_
      refine zr_65 hw rfl rfl rfl ?_
      refine zr_68 hw rfl rfl rfl ?_
      refine zq_6_0 ?_
      refine zr_61 hw rfl ?_
      refine zq_4_7 ?_
      refine zq_6_0 ?_
      refine zr_61 hw rfl ?_
      refine zq_4_6 ?_
      refine zr_65 hw rfl rfl rfl ?_
      refine zr_68 hw rfl rfl rfl ?_
      refine zE_vl ?_
      refine zq_10_6 rfl ?_
      refine zq_56 ?_
      exact zE_w [true, true, true, true, true, true, true, false] (ih _ _ _ _ _ _ _ _ hk30)
    · exact zE_w [true, true, true, true, true, true, false, false] (hk30 _ _ _ _ _ _)
noncomputable def gM_plate_l6 : Nat → Int → Int → Int → Int → Int → zSg → Option (Int × zSg)
  | 0, _, _, _, _, _, _ => none
  | n + 1, x15, x16, x17, x18, x19, s20 =>
   if (zsub x17 x16) < x19 then
     (some (x18, s20))
   else
   ybd (gM_readBar x15 (zadd x16 x19) s20) fun _ s21 =>
   ywi 480 23 (zadd (zmul 8 x18) x19) (s21 0 16) s21 fun s22 =>
   gM_plate_l7 zFU x15 x16 x17 x18 x19 0 s22 (fun (x39 : Int) (x40 : Int) (x41 : Int) (x42 : Int) (x43 : Int) (s44 : zSg) =>
    yvl (zadd x43 1) fun v45 =>
    gM_plate_l6 n x39 x40 x41 x42 v45 s44)
theorem gM_plate_l6_ok {E : Nat → Nat} {R : Nat} {h0 : zHp} (hw : zRg R h0) (d : Nat) : ∀ (n : Nat) (x15 : Int) (x16 : Int) (x17 : Int) (x18 : Int) (x19 : Int) (s20 : zSg), zE (zov R h0) Ji E (d + 3) 229 (zB 229 6) ([some (.inr (.inr R)), some (.inl x15), some (.inl x16), some (.inl x17), some (.inl x18), some (.inl x19), none, none]) ([]) s20 (gM_plate_l6 n x15 x16 x17 x18 x19 s20) := by
  intro n
  induction n with
  | zero => intro x15 x16 x17 x18 x19 s20; exact zE_none
  | succ n ih =>
    intro x15 x16 x17 x18 x19 s20
    unfold gM_plate_l6
    refine zq_4_5 ?_
    refine zq_4_3 ?_
    refine zq_4_2 ?_
    refine zq_12 ?_
    refine zq_50 ?_ ?_
    · refine zq_4_4 ?_
      exact zq_95 rfl
    refine zq_6_0 ?_
    refine zq_4_1 ?_
    refine zq_4_2 ?_
    refine zq_4_5 ?_
    refine zq_11 ?_
    refine zq_92_3v (zR_is hw) rfl rfl (gM_readBar_ok (E := E) hw _ _ _ _) fun _ s21 => ?_
    refine zq_6_0 ?_
    refine zr_61 hw rfl ?_
    refine zq_1 ?_
    refine zq_4_4 ?_
    refine zq_13 ?_
    refine zq_4_5 ?_
    refine zq_11 ?_
    refine zq_6_0 ?_
    refine zr_60 hw rfl ?_
    refine zr_68 hw rfl rfl rfl ?_
    refine zq_1 ?_
    refine zq_7_6 rfl ?_
    refine zq_57 ?_
    refine zE_w [true, true, true, true, true, true, true, false] (gM_plate_l7_ok (E := E) hw d zFU _ _ _ _ _ _ _ _ (fun x39 x40 x41 x42 x43 s44 => ?_))
    refine zE_vl ?_
    refine zq_10_5 rfl ?_
    refine zq_56 ?_
    exact zE_w [true, true, true, true, true, true, false, false] (ih _ _ _ _ _ _)
noncomputable def gM_plate (a1 : Int) (a2 : Int) (a3 : Int) (s : zSg) : Option (Int × zSg) :=
  ybd (gM_isThing a1 s) fun v1 s2 =>
  if v1 = 0 then
    (some ((-1), s2))
  else
    (ybd (gM_isPart a1 s2) fun v3 s4 =>
    if v3 = 0 then
      (some ((-12), s4))
    else
      (ybd (gM_barsOf a1 s4) fun v5 s6 =>
      ybd (gM_in a2 0 (zsub v5 1) s6) fun v7 s8 =>
      if v7 = 0 then
        (some ((-2), s8))
      else
      ybd (gM_barsOf a1 s8) fun v9 s10 =>
      ybd (gM_in a3 a2 (zsub v9 1) s10) fun v11 s12 =>
      if v11 = 0 then
        (some ((-2), s12))
      else
      if (zsub a3 a2) < 8 then
        (if (s12 0 2) = 60 then
          (some ((-4), s12))
        else
          (ybd (gM_add 3 a1 a2 (zadd (zsub a3 a2) 1) s12) fun v13 s14 =>
          gM_plate_l6 zFU a1 a2 a3 v13 0 s14))
      else
      some ((-2), s12)))
theorem gM_plate_ok {E : Nat → Nat} {R : Nat} {h0 : zHp} (hw : zRg R h0) (d : Nat) (a1 : Int) (a2 : Int) (a3 : Int) (s : zSg) : zE (zov R h0) Ji E (d + 3) 229 (zB 229 0) (zent 8 [.inr (.inr R), .inl a1, .inl a2, .inl a3]) [] s (gM_plate a1 a2 a3 s) := by
  show zE _ _ _ _ _ _ [some (.inr (.inr R)), some (.inl a1), some (.inl a2), some (.inl a3), none, none, none, none] _ _ _
  unfold gM_plate
  refine zq_6_0 ?_
  refine zq_4_1 ?_
  refine zq_92_2i (zR_is hw) rfl rfl (gM_isThing_ok (E := E) hw _ _ _) fun v1 s2 => ?_
  refine zq_41 ?_ ?_
  · refine zq_1 ?_
    exact zq_95 rfl
  · refine zq_6_0 ?_
    refine zq_4_1 ?_
    refine zq_92_2i (zR_is hw) rfl rfl (gM_isPart_ok (E := E) hw _ _ _) fun v3 s4 => ?_
    refine zq_41 ?_ ?_
    · refine zq_1 ?_
      exact zq_95 rfl
    · refine zq_4_2 ?_
      refine zq_1 ?_
      refine zq_6_0 ?_
      refine zq_4_1 ?_
      refine zq_92_2i (zR_is hw) rfl rfl (gM_barsOf_ok (E := E) hw _ _ _) fun v5 s6 => ?_
      refine zq_1 ?_
      refine zq_12 ?_
      refine zq_90_3i rfl rfl (gM_in_ok (E := E) hw _ _ _ _ _) fun v7 s8 => ?_
      refine zq_40 ?_ ?_
      · refine zq_1 ?_
        exact zq_95 rfl
      refine zq_4_3 ?_
      refine zq_4_2 ?_
      refine zq_6_0 ?_
      refine zq_4_1 ?_
      refine zq_92_2i (zR_is hw) rfl rfl (gM_barsOf_ok (E := E) hw _ _ _) fun v9 s10 => ?_
      refine zq_1 ?_
      refine zq_12 ?_
      refine zq_90_3i rfl rfl (gM_in_ok (E := E) hw _ _ _ _ _) fun v11 s12 => ?_
      refine zq_40 ?_ ?_
      · refine zq_1 ?_
        exact zq_95 rfl
      refine zq_4_3 ?_
      refine zq_4_2 ?_
      refine zq_12 ?_
      refine zq_1 ?_
      refine zq_48 ?_ ?_
      · refine zq_6_0 ?_
        refine zr_60 hw rfl ?_
        refine zq_1 ?_
        refine zq_47 ?_ ?_
        · refine zq_1 ?_
          exact zq_95 rfl
        · refine zq_6_0 ?_
          refine zq_1 ?_
          refine zq_4_1 ?_
          refine zq_4_2 ?_
          refine zq_4_3 ?_
          refine zq_4_2 ?_
          refine zq_12 ?_
          refine zq_1 ?_
          refine zq_11 ?_
          refine zq_92_5i (zR_is hw) rfl rfl (gM_add_ok (E := E) hw _ _ _ _ _ _) fun v13 s14 => ?_
          refine zq_7_4 rfl ?_
          refine zq_1 ?_
          refine zq_7_5 rfl ?_
          refine zq_57 ?_
          exact zE_w [true, true, true, true, true, true, false, false] (gM_plate_l6_ok (E := E) hw d zFU _ _ _ _ _ _)
      refine zq_57 ?_
      refine zq_1 ?_
      exact zq_95 rfl
/-! 230: EngraversHouseModel.mend:(IIII)I -/
noncomputable def gM_mend (a1 : Int) (a2 : Int) (a3 : Int) (a4 : Int) (s : zSg) : Option (Int × zSg) :=
  ybd (gM_isThing a1 s) fun v1 s2 =>
  if v1 = 0 then
    (some ((-1), s2))
  else
    (yrd 60 3 a1 s2 fun v3 =>
    if v3 = 3 then
      (yrd 60 5 a1 s2 fun v4 =>
      yrd 60 5 a1 s2 fun v5 =>
      yrd 60 6 a1 s2 fun v6 =>
      ybd (gM_in a2 v4 (zsub (zadd v5 v6) 1) s2) fun v7 s8 =>
      if v7 = 0 then
        (some ((-1), s8))
      else
        (yrd 60 5 a1 s8 fun v9 =>
        yvl (zsub a2 v9) fun v10 =>
        yrd 480 23 (zadd (zmul 8 a1) v10) s8 fun v11 =>
        ybd (gM_in a3 0 (zsub v11 1) s8) fun v12 s13 =>
        if v12 = 0 then
          (some ((-1), s13))
        else
          (ybd (gM_in a4 1 72 s13) fun v14 s15 =>
          if v14 = 0 then
            (some ((-2), s15))
          else
            (yvl (zadd (zadd (zmul 64 a1) (zmul 8 v10)) a3) fun v16 =>
            yrd 3840 20 v16 s15 fun v17 =>
            if v17 = (-1000) then
              (some ((-3), s15))
            else
              (yrd 3840 20 v16 s15 fun v18 =>
              ywi 3840 20 v16 a4 s15 fun s19 =>
              some (v18, s19))))))
    else
    some ((-12), s2))
theorem gM_mend_ok {E : Nat → Nat} {R : Nat} {h0 : zHp} (hw : zRg R h0) (d : Nat) (a1 : Int) (a2 : Int) (a3 : Int) (a4 : Int) (s : zSg) : zE (zov R h0) Ji E (d + 2) 230 (zB 230 0) (zent 8 [.inr (.inr R), .inl a1, .inl a2, .inl a3, .inl a4]) [] s (gM_mend a1 a2 a3 a4 s) := by
  show zE _ _ _ _ _ _ [some (.inr (.inr R)), some (.inl a1), some (.inl a2), some (.inl a3), some (.inl a4), none, none, none] _ _ _
  unfold gM_mend
  refine zq_6_0 ?_
  refine zq_4_1 ?_
  refine zq_92_2i (zR_is hw) rfl rfl (gM_isThing_ok (E := E) hw _ _ _) fun v1 s2 => ?_
  refine zq_41 ?_ ?_
  · refine zq_1 ?_
    exact zq_95 rfl
  · refine zq_6_0 ?_
    refine zr_61 hw rfl ?_
    refine zq_4_1 ?_
    refine zr_65 hw rfl rfl rfl ?_
    refine zq_1 ?_
    refine zq_46 ?_ ?_
    · refine zq_4_2 ?_
      refine zq_6_0 ?_
      refine zr_61 hw rfl ?_
      refine zq_4_1 ?_
      refine zr_65 hw rfl rfl rfl ?_
      refine zq_6_0 ?_
      refine zr_61 hw rfl ?_
      refine zq_4_1 ?_
      refine zr_65 hw rfl rfl rfl ?_
      refine zq_6_0 ?_
      refine zr_61 hw rfl ?_
      refine zq_4_1 ?_
      refine zr_65 hw rfl rfl rfl ?_
      refine zq_11 ?_
      refine zq_1 ?_
      refine zq_12 ?_
      refine zq_90_3i rfl rfl (gM_in_ok (E := E) hw _ _ _ _ _) fun v7 s8 => ?_
      refine zq_41 ?_ ?_
      · refine zq_1 ?_
        exact zq_95 rfl
      · refine zq_4_2 ?_
        refine zq_6_0 ?_
        refine zr_61 hw rfl ?_
        refine zq_4_1 ?_
        refine zr_65 hw rfl rfl rfl ?_
        refine zq_12 ?_
        refine zE_vl ?_
        refine zq_7_5 rfl ?_
        refine zq_4_3 ?_
        refine zq_1 ?_
        refine zq_6_0 ?_
        refine zr_61 hw rfl ?_
        refine zq_1 ?_
        refine zq_4_1 ?_
        refine zq_13 ?_
        refine zq_4_5 ?_
        refine zq_11 ?_
        refine zr_65 hw rfl rfl rfl ?_
        refine zq_1 ?_
        refine zq_12 ?_
        refine zq_90_3i rfl rfl (gM_in_ok (E := E) hw _ _ _ _ _) fun v12 s13 => ?_
        refine zq_41 ?_ ?_
        · refine zq_1 ?_
          exact zq_95 rfl
        · refine zq_4_4 ?_
          refine zq_1 ?_
          refine zq_1 ?_
          refine zq_90_3i rfl rfl (gM_in_ok (E := E) hw _ _ _ _ _) fun v14 s15 => ?_
          refine zq_41 ?_ ?_
          · refine zq_1 ?_
            exact zq_95 rfl
          · refine zq_1 ?_
            refine zq_4_1 ?_
            refine zq_13 ?_
            refine zq_1 ?_
            refine zq_4_5 ?_
            refine zq_13 ?_
            refine zq_11 ?_
            refine zq_4_3 ?_
            refine zq_11 ?_
            refine zE_vl ?_
            refine zq_7_6 rfl ?_
            refine zq_6_0 ?_
            refine zr_61 hw rfl ?_
            refine zq_4_6 ?_
            refine zr_65 hw rfl rfl rfl ?_
            refine zq_1 ?_
            refine zq_47 ?_ ?_
            · refine zq_1 ?_
              exact zq_95 rfl
            · refine zq_6_0 ?_
              refine zr_61 hw rfl ?_
              refine zq_4_6 ?_
              refine zr_65 hw rfl rfl rfl ?_
              refine zq_7_7 rfl ?_
              refine zq_6_0 ?_
              refine zr_61 hw rfl ?_
              refine zq_4_6 ?_
              refine zq_4_4 ?_
              refine zr_68 hw rfl rfl rfl ?_
              refine zq_4_7 ?_
              exact zq_95 rfl
    refine zq_1 ?_
    exact zq_95 rfl
/-! 231: EngraversHouseModel.isOff:(II)Z -/
noncomputable def gM_isOff_l2 : Nat → Int → Int → Int → zSg → Option (Int × zSg)
  | 0, _, _, _, _ => none
  | n + 1, x5, x6, x7, s8 =>
   if x7 < (s8 0 16) then
     (yvl (zadd (zadd (zmul 64 x5) (zmul 8 x6)) x7) fun v9 =>
     yrd 8 17 x7 s8 fun v10 =>
     yrd 3840 20 v9 s8 fun v11 =>
     if v10 = v11 then
       (yrd 8 18 x7 s8 fun v12 =>
       yrd 3840 21 v9 s8 fun v13 =>
       if v12 = v13 then
         (yrd 8 19 x7 s8 fun v14 =>
         yrd 3840 22 v9 s8 fun v15 =>
         if v14 = v15 then
           (yvl (zadd x7 1) fun v16 =>
           gM_isOff_l2 n x5 x6 v16 s8)
         else
         some (1, s8))
       else
         (some (1, s8)))
     else
       (some (1, s8)))
   else
     (some (0, s8))
theorem gM_isOff_l2_ok {E : Nat → Nat} {R : Nat} {h0 : zHp} (hw : zRg R h0) (d : Nat) : ∀ (n : Nat) (x5 : Int) (x6 : Int) (x7 : Int) (s8 : zSg), zE (zov R h0) Ji E (d + 2) 231 (zB 231 2) ([some (.inr (.inr R)), some (.inl x5), some (.inl x6), some (.inl x7), none]) ([]) s8 (gM_isOff_l2 n x5 x6 x7 s8) := by
  intro n
  induction n with
  | zero => intro x5 x6 x7 s8; exact zE_none
  | succ n ih =>
    intro x5 x6 x7 s8
    unfold gM_isOff_l2
    refine zq_4_3 ?_
    refine zq_6_0 ?_
    refine zr_60 hw rfl ?_
    refine zq_49 ?_ ?_
    · refine zq_1 ?_
      refine zq_4_1 ?_
      refine zq_13 ?_
      refine zq_1 ?_
      refine zq_4_2 ?_
      refine zq_13 ?_
      refine zq_11 ?_
      refine zq_4_3 ?_
      refine zq_11 ?_
      refine zE_vl ?_
      refine zq_7_4 rfl ?_
      refine zq_6_0 ?_
      refine zr_61 hw rfl ?_
      refine zq_4_3 ?_
      refine zr_65 hw rfl rfl rfl ?_
      refine zq_6_0 ?_
      refine zr_61 hw rfl ?_
      refine zq_4_4 ?_
      refine zr_65 hw rfl rfl rfl ?_
      refine zq_47 ?_ ?_
      · refine zq_6_0 ?_
        refine zr_61 hw rfl ?_
        refine zq_4_3 ?_
        refine zr_65 hw rfl rfl rfl ?_
        refine zq_6_0 ?_
        refine zr_61 hw rfl ?_
        refine zq_4_4 ?_
        refine zr_65 hw rfl rfl rfl ?_
        refine zq_47 ?_ ?_
        · refine zq_6_0 ?_
          refine zr_61 hw rfl ?_
          refine zq_4_3 ?_
          refine zr_65 hw rfl rfl rfl ?_
          refine zq_6_0 ?_
          refine zr_61 hw rfl ?_
          refine zq_4_4 ?_
          refine zr_65 hw rfl rfl rfl ?_
          refine zq_46 ?_ ?_
          · refine zE_vl ?_
            refine zq_10_3 rfl ?_
            refine zq_56 ?_
            exact zE_w [true, true, true, true, false] (ih _ _ _ _)
          refine zq_57 ?_
          refine zq_1 ?_
          exact zq_96c (by decide)
        · refine zq_1 ?_
          exact zq_96c (by decide)
      · refine zq_1 ?_
        exact zq_96c (by decide)
    · refine zq_1 ?_
      exact zq_96c (by decide)
noncomputable def gM_isOff (a1 : Int) (a2 : Int) (s : zSg) : Option (Int × zSg) :=
  yrd 60 4 a1 s fun v1 =>
  yrd 60 5 a1 s fun v2 =>
  ybd (gM_readBar v1 (zadd v2 a2) s) fun _ s3 =>
  yrd 480 23 (zadd (zmul 8 a1) a2) s3 fun v4 =>
  if (s3 0 16) = v4 then
    (gM_isOff_l2 zFU a1 a2 0 s3)
  else
  some (1, s3)
theorem gM_isOff_ok {E : Nat → Nat} {R : Nat} {h0 : zHp} (hw : zRg R h0) (d : Nat) (a1 : Int) (a2 : Int) (s : zSg) : zE (zov R h0) Ji E (d + 2) 231 (zB 231 0) (zent 5 [.inr (.inr R), .inl a1, .inl a2]) [] s (gM_isOff a1 a2 s) := by
  show zE _ _ _ _ _ _ [some (.inr (.inr R)), some (.inl a1), some (.inl a2), none, none] _ _ _
  unfold gM_isOff
  refine zq_6_0 ?_
  refine zq_6_0 ?_
  refine zr_61 hw rfl ?_
  refine zq_4_1 ?_
  refine zr_65 hw rfl rfl rfl ?_
  refine zq_6_0 ?_
  refine zr_61 hw rfl ?_
  refine zq_4_1 ?_
  refine zr_65 hw rfl rfl rfl ?_
  refine zq_4_2 ?_
  refine zq_11 ?_
  refine zq_92_3v (zR_is hw) rfl rfl (gM_readBar_ok (E := E) hw _ _ _ _) fun _ s3 => ?_
  refine zq_6_0 ?_
  refine zr_60 hw rfl ?_
  refine zq_6_0 ?_
  refine zr_61 hw rfl ?_
  refine zq_1 ?_
  refine zq_4_1 ?_
  refine zq_13 ?_
  refine zq_4_2 ?_
  refine zq_11 ?_
  refine zr_65 hw rfl rfl rfl ?_
  refine zq_46 ?_ ?_
  · refine zq_1 ?_
    refine zq_7_3 rfl ?_
    refine zq_57 ?_
    exact zE_w [true, true, true, true, false] (gM_isOff_l2_ok (E := E) hw d zFU _ _ _ _)
  refine zq_1 ?_
  exact zq_96c (by decide)
/-! 232: EngraversHouseModel.offs:(I)I -/
noncomputable def gM_offs_l1 : Nat → Int → Int → Int → zSg → Option (Int × zSg)
  | 0, _, _, _, _ => none
  | n + 1, x1, x2, x3, s4 =>
   yjn (fun (x5 : Int) (x6 : Int) (x7 : Int) (x8 : Int) (s9 : zSg) =>
    yvl (zor x7 x8) fun v11 =>
    yvl (zadd x6 1) fun v12 =>
    gM_offs_l1 n x5 v11 v12 s9) fun q10 =>
    yrd 60 6 x1 s4 fun v13 =>
   if x3 < v13 then
     (ybd (gM_isOff x1 x3 s4) fun v14 s15 =>
     if v14 = 0 then
       (q10 x1 x3 x2 0 s15)
     else
     q10 x1 x3 x2 (zshl 1 x3) s15)
   else
     (some (x2, s4))
theorem gM_offs_l1_ok {E : Nat → Nat} {R : Nat} {h0 : zHp} (hw : zRg R h0) (d : Nat) : ∀ (n : Nat) (x1 : Int) (x2 : Int) (x3 : Int) (s4 : zSg), zE (zov R h0) Ji E (d + 3) 232 (zB 232 1) ([some (.inr (.inr R)), some (.inl x1), some (.inl x2), some (.inl x3)]) ([]) s4 (gM_offs_l1 n x1 x2 x3 s4) := by
  intro n
  induction n with
  | zero => intro x1 x2 x3 s4; exact zE_none
  | succ n ih =>
    intro x1 x2 x3 s4
    unfold gM_offs_l1
    refine zE_jn (fun q10 => ∀ (y0 : Int) (y1 : Int) (y2 : Int) (y3 : Int) (s : zSg), zE (zov R h0) Ji E (d + 3) 232 (zB 232 3) ([some (.inr (.inr R)), some (.inl y0), none, some (.inl y1)]) ([.inl y3, .inl y2]) s (q10 y0 y1 y2 y3 s)) (fun x5 x6 x7 x8 s9 => ?_) (fun q10 hq10 => ?_)
    · refine zq_21 ?_
      refine zE_vl ?_
      refine zq_7_2 rfl ?_
      refine zE_vl ?_
      refine zq_10_3 rfl ?_
      refine zq_56 ?_
      exact zE_w [true, true, true, true] (ih _ _ _ _)
    refine zq_4_3 ?_
    refine zq_6_0 ?_
    refine zr_61 hw rfl ?_
    refine zq_4_1 ?_
    refine zr_65 hw rfl rfl rfl ?_
    refine zq_49 ?_ ?_
    · refine zq_4_2 ?_
      refine zq_6_0 ?_
      refine zq_4_1 ?_
      refine zq_4_3 ?_
      refine zq_92_3i (zR_is hw) rfl rfl (gM_isOff_ok (E := E) hw _ _ _ _) fun v14 s15 => ?_
      refine zq_40 ?_ ?_
      · refine zq_1 ?_
        refine zq_57 ?_
        exact zE_w [true, true, false, true] (hq10 _ _ _ _ _)
      refine zq_1 ?_
      refine zq_4_3 ?_
      refine zq_17 ?_
      refine zq_56 ?_
      exact zE_w [true, true, false, true] (hq10 _ _ _ _ _)
    · refine zq_4_2 ?_
      exact zq_95 rfl
noncomputable def gM_offs (a1 : Int) (s : zSg) : Option (Int × zSg) :=
  gM_offs_l1 zFU a1 0 0 s
theorem gM_offs_ok {E : Nat → Nat} {R : Nat} {h0 : zHp} (hw : zRg R h0) (d : Nat) (a1 : Int) (s : zSg) : zE (zov R h0) Ji E (d + 3) 232 (zB 232 0) (zent 4 [.inr (.inr R), .inl a1]) [] s (gM_offs a1 s) := by
  show zE _ _ _ _ _ _ [some (.inr (.inr R)), some (.inl a1), none, none] _ _ _
  unfold gM_offs
  refine zq_1 ?_
  refine zq_7_2 rfl ?_
  refine zq_1 ?_
  refine zq_7_3 rfl ?_
  refine zq_57 ?_
  exact zE_w [true, true, true, true] (gM_offs_l1_ok (E := E) hw d zFU _ _ _ _)
/-! 233: EngraversHouseModel.bitsOf:(I)I -/
noncomputable def gM_bitsOf_l1 : Nat → Int → Int → zSg → Option (Int × zSg)
  | 0, _, _, _ => none
  | n + 1, x1, x2, s3 =>
   if x2 = 0 then
     (some (x1, s3))
   else
   yvl (zadd x1 1) fun v4 =>
   yvl (zand x2 (zsub x2 1)) fun v5 =>
   gM_bitsOf_l1 n v4 v5 s3
theorem gM_bitsOf_l1_ok {E : Nat → Nat} {R : Nat} {h0 : zHp} (hw : zRg R h0) (d : Nat) : ∀ (n : Nat) (x1 : Int) (x2 : Int) (s3 : zSg), zE (zov R h0) Ji E (d + 0) 233 (zB 233 1) ([none, some (.inl x1), some (.inl x2)]) ([]) s3 (gM_bitsOf_l1 n x1 x2 s3) := by
  intro n
  induction n with
  | zero => intro x1 x2 s3; exact zE_none
  | succ n ih =>
    intro x1 x2 s3
    unfold gM_bitsOf_l1
    refine zq_4_2 ?_
    refine zq_40 ?_ ?_
    · refine zq_4_1 ?_
      exact zq_95 rfl
    refine zE_vl ?_
    refine zq_10_1 rfl ?_
    refine zq_4_2 ?_
    refine zq_4_2 ?_
    refine zq_1 ?_
    refine zq_12 ?_
    refine zq_20 ?_
    refine zE_vl ?_
    refine zq_7_2 rfl ?_
    refine zq_56 ?_
    exact zE_w [false, true, true] (ih _ _ _)
noncomputable def gM_bitsOf (a0 : Int) (s : zSg) : Option (Int × zSg) :=
  gM_bitsOf_l1 zFU 0 a0 s
theorem gM_bitsOf_ok {E : Nat → Nat} {R : Nat} {h0 : zHp} (hw : zRg R h0) (d : Nat) (a0 : Int) (s : zSg) : zE (zov R h0) Ji E (d + 0) 233 (zB 233 0) (zent 3 [.inl a0]) [] s (gM_bitsOf a0 s) := by
  show zE _ _ _ _ _ _ [some (.inl a0), none, none] _ _ _
  unfold gM_bitsOf
  refine zq_1 ?_
  refine zq_7_1 rfl ?_
  refine zq_4_0 ?_
  refine zq_7_2 rfl ?_
  refine zq_57 ?_
  exact zE_w [false, true, true] (gM_bitsOf_l1_ok (E := E) hw d zFU _ _ _)
/-! 234: EngraversHouseModel.differs:(II)I -/
noncomputable def gM_differs_l6 : Nat → Int → Int → Int → zSg → (Int → Int → zSg → Option (Int × zSg)) → Option (Int × zSg)
  | 0, _, _, _, _, _ => none
  | n + 1, x8, x9, x10, s11, k12 =>
   if (zand (zshr x9 x10) 1) = 0 then
     (yvl (zadd x10 1) fun v13 =>
     gM_differs_l6 n x8 x9 v13 s11 k12)
   else
     (k12 x8 x10 s11)
theorem gM_differs_l6_ok {E : Nat → Nat} {R : Nat} {h0 : zHp} (hw : zRg R h0) (d : Nat) : ∀ (n : Nat) (x8 : Int) (x9 : Int) (x10 : Int) (s11 : zSg) (k12 : Int → Int → zSg → Option (Int × zSg)) (hk12 : ∀ (y0 : Int) (y1 : Int) (s : zSg), zE (zov R h0) Ji E (d + 4) 234 (zB 234 7) ([some (.inr (.inr R)), some (.inl y0), none, none, some (.inl y1)]) ([]) s (k12 y0 y1 s)), zE (zov R h0) Ji E (d + 4) 234 (zB 234 6) ([some (.inr (.inr R)), some (.inl x8), none, some (.inl x9), some (.inl x10)]) ([]) s11 (gM_differs_l6 n x8 x9 x10 s11 k12) := by
  intro n
  induction n with
  | zero => intro x8 x9 x10 s11 k12 hk12; exact zE_none
  | succ n ih =>
    intro x8 x9 x10 s11 k12 hk12
    unfold gM_differs_l6
    refine zq_4_3 ?_
    refine zq_4_4 ?_
    refine zq_18 ?_
    refine zq_1 ?_
    refine zq_20 ?_
    refine zq_41 ?_ ?_
    · refine zE_vl ?_
      refine zq_10_4 rfl ?_
      refine zq_56 ?_
      exact zE_w [true, true, false, true, true] (ih _ _ _ _ _ hk12)
    · exact zE_w [true, true, false, false, true] (hk12 _ _ _)
noncomputable def gM_differs (a1 : Int) (a2 : Int) (s : zSg) : Option (Int × zSg) :=
  ybd (gM_isThing a1 s) fun v1 s2 =>
  if v1 = 0 then
    (some ((-1), s2))
  else
  ybd (gM_in a2 0 1 s2) fun v3 s4 =>
  if v3 = 0 then
    (some ((-1), s4))
  else
    (yrd 60 3 a1 s4 fun v5 =>
    if v5 = 3 then
      (ybd (gM_offs a1 s4) fun v6 s7 =>
      if a2 = 0 then
        (ybd (gM_bitsOf v6 s7) fun v18 s19 =>
        some (v18, s19))
      else
        (if v6 = 0 then
          (some ((-1), s7))
        else
          (gM_differs_l6 zFU a1 v6 0 s7 (fun (x14 : Int) (x15 : Int) (s16 : zSg) =>
           yrd 60 5 x14 s16 fun v17 =>
           some (zadd v17 x15, s16)))))
    else
    some ((-12), s4))
theorem gM_differs_ok {E : Nat → Nat} {R : Nat} {h0 : zHp} (hw : zRg R h0) (d : Nat) (a1 : Int) (a2 : Int) (s : zSg) : zE (zov R h0) Ji E (d + 4) 234 (zB 234 0) (zent 5 [.inr (.inr R), .inl a1, .inl a2]) [] s (gM_differs a1 a2 s) := by
  show zE _ _ _ _ _ _ [some (.inr (.inr R)), some (.inl a1), some (.inl a2), none, none] _ _ _
  unfold gM_differs
  refine zq_6_0 ?_
  refine zq_4_1 ?_
  refine zq_92_2i (zR_is hw) rfl rfl (gM_isThing_ok (E := E) hw _ _ _) fun v1 s2 => ?_
  refine zq_40 ?_ ?_
  · refine zq_1 ?_
    exact zq_95 rfl
  refine zq_4_2 ?_
  refine zq_1 ?_
  refine zq_1 ?_
  refine zq_90_3i rfl rfl (gM_in_ok (E := E) hw _ _ _ _ _) fun v3 s4 => ?_
  refine zq_41 ?_ ?_
  · refine zq_57 ?_
    refine zq_1 ?_
    exact zq_95 rfl
  · refine zq_6_0 ?_
    refine zr_61 hw rfl ?_
    refine zq_4_1 ?_
    refine zr_65 hw rfl rfl rfl ?_
    refine zq_1 ?_
    refine zq_46 ?_ ?_
    · refine zq_6_0 ?_
      refine zq_4_1 ?_
      refine zq_92_2i (zR_is hw) rfl rfl (gM_offs_ok (E := E) hw _ _ _) fun v6 s7 => ?_
      refine zq_7_3 rfl ?_
      refine zq_4_2 ?_
      refine zq_41 ?_ ?_
      · refine zq_4_3 ?_
        refine zq_90_1i rfl rfl (gM_bitsOf_ok (E := E) hw _ _ _) fun v18 s19 => ?_
        exact zq_95 rfl
      · refine zq_4_3 ?_
        refine zq_41 ?_ ?_
        · refine zq_1 ?_
          exact zq_95 rfl
        · refine zq_1 ?_
          refine zq_7_4 rfl ?_
          refine zq_57 ?_
          refine zE_w [true, true, false, true, true] (gM_differs_l6_ok (E := E) hw d zFU _ _ _ _ _ (fun x14 x15 s16 => ?_))
          refine zq_6_0 ?_
          refine zr_61 hw rfl ?_
          refine zq_4_1 ?_
          refine zr_65 hw rfl rfl rfl ?_
          refine zq_4_4 ?_
          refine zq_11 ?_
          exact zq_95 rfl
    refine zq_1 ?_
    exact zq_95 rfl
/-! 235: EngraversHouseModel.press:(I)I -/
noncomputable def gM_press (a1 : Int) (s : zSg) : Option (Int × zSg) :=
  ybd (gM_isThing a1 s) fun v1 s2 =>
  if v1 = 0 then
    (some ((-1), s2))
  else
    (yrd 60 3 a1 s2 fun v3 =>
    if v3 = 3 then
      (yjn (fun (x4 : Int) (s5 : zSg) =>
       if (s5 0 24) = 12 then
         (some ((-4), s5))
       else
         (ywi 12 25 (s5 0 24) x4 s5 fun s7 =>
         yvl (zup s7 0 24 (zadd (s7 0 24) 1)) fun s8 =>
         some (s8 0 24, s8))) fun q6 =>
       if 0 < (s2 0 24) then
        (yrd 12 25 0 s2 fun v9 =>
        ybd (gM_scoreOf v9 s2) fun v10 s11 =>
        ybd (gM_scoreOf a1 s11) fun v12 s13 =>
        if v10 = v12 then
          (q6 a1 s13)
        else
        some ((-3), s13))
      else
        (q6 a1 s2))
    else
    some ((-12), s2))
theorem gM_press_ok {E : Nat → Nat} {R : Nat} {h0 : zHp} (hw : zRg R h0) (d : Nat) (a1 : Int) (s : zSg) : zE (zov R h0) Ji E (d + 2) 235 (zB 235 0) (zent 2 [.inr (.inr R), .inl a1]) [] s (gM_press a1 s) := by
  show zE _ _ _ _ _ _ [some (.inr (.inr R)), some (.inl a1)] _ _ _
  unfold gM_press
  refine zq_6_0 ?_
  refine zq_4_1 ?_
  refine zq_92_2i (zR_is hw) rfl rfl (gM_isThing_ok (E := E) hw _ _ _) fun v1 s2 => ?_
  refine zq_41 ?_ ?_
  · refine zq_1 ?_
    exact zq_95 rfl
  · refine zq_6_0 ?_
    refine zr_61 hw rfl ?_
    refine zq_4_1 ?_
    refine zr_65 hw rfl rfl rfl ?_
    refine zq_1 ?_
    refine zq_46 ?_ ?_
    · refine zE_jn (fun q6 => ∀ (y0 : Int) (s : zSg), zE (zov R h0) Ji E (d + 2) 235 (zB 235 3) ([some (.inr (.inr R)), some (.inl y0)]) ([]) s (q6 y0 s)) (fun x4 s5 => ?_) (fun q6 hq6 => ?_)
      · refine zq_6_0 ?_
        refine zr_60 hw rfl ?_
        refine zq_1 ?_
        refine zq_47 ?_ ?_
        · refine zq_1 ?_
          exact zq_95 rfl
        · refine zq_6_0 ?_
          refine zr_61 hw rfl ?_
          refine zq_6_0 ?_
          refine zr_60 hw rfl ?_
          refine zq_4_1 ?_
          refine zr_68 hw rfl rfl rfl ?_
          refine zq_6_0 ?_
          refine zq_33 ?_
          refine zr_60 hw rfl ?_
          refine zq_1 ?_
          refine zq_11 ?_
          refine zE_vl ?_
          refine zr_62 hw rfl ?_
          refine zq_6_0 ?_
          refine zr_60 hw rfl ?_
          exact zq_95 rfl
      refine zq_6_0 ?_
      refine zr_60 hw rfl ?_
      refine zq_45 ?_ ?_
      · refine zq_6_0 ?_
        refine zq_6_0 ?_
        refine zr_61 hw rfl ?_
        refine zq_1 ?_
        refine zr_65 hw rfl rfl rfl ?_
        refine zq_92_2i (zR_is hw) rfl rfl (gM_scoreOf_ok (E := E) hw _ _ _) fun v10 s11 => ?_
        refine zq_6_0 ?_
        refine zq_4_1 ?_
        refine zq_92_2i (zR_is hw) rfl rfl (gM_scoreOf_ok (E := E) hw _ _ _) fun v12 s13 => ?_
        refine zq_46 ?_ ?_
        · exact zE_w [true, true] (hq6 _ _)
        refine zq_1 ?_
        exact zq_95 rfl
      · exact zE_w [true, true] (hq6 _ _)
    refine zq_1 ?_
    exact zq_95 rfl
/-! 236: EngraversHouseModel.edition:()I -/
noncomputable def gM_edition_l5 : Nat → Int → Int → Int → Int → Int → Int → Int → zSg → (Int → Int → Int → Int → Int → zSg → Option (Int × zSg)) → Option (Int × zSg)
  | 0, _, _, _, _, _, _, _, _, _ => none
  | n + 1, x28, x29, x30, x31, x32, x33, x34, s35, k36 =>
   yjn (fun (x37 : Int) (x38 : Int) (x39 : Int) (x40 : Int) (x41 : Int) (x42 : Int) (x43 : Int) (x44 : Int) (x45 : Int) (x46 : Int) (s47 : zSg) =>
    ywi 38400 26 x45 x46 s47 fun s49 =>
    yrd 3840 21 x44 s49 fun v50 =>
    ywi 38400 27 (zadd (zmul 8 x42) x43) v50 s49 fun s51 =>
    yrd 3840 22 x44 s51 fun v52 =>
    ywi 38400 28 (zadd (zmul 8 x42) x43) v52 s51 fun s53 =>
    yvl (zadd x43 1) fun v54 =>
    gM_edition_l5 n x37 x38 x39 x40 x41 x42 v54 s53 k36) fun q48 =>
    yrd 4800 29 x33 s35 fun v55 =>
   if x34 < v55 then
     (yvl (zadd (zadd (zmul 64 x30) (zmul 8 x32)) x34) fun v56 =>
     yrd 3840 20 v56 s35 fun v57 =>
     if v57 = (-1000) then
       (q48 x28 x29 x30 x31 x32 x33 x34 v56 (zadd (zmul 8 x33) x34) (-1000) s35)
     else
       (yrd 3840 20 v56 s35 fun v58 =>
       q48 x28 x29 x30 x31 x32 x33 x34 v56 (zadd (zmul 8 x33) x34) (zsub v58 x31) s35))
   else
     (k36 x28 x29 x30 x31 x32 s35)
theorem gM_edition_l5_ok {E : Nat → Nat} {R : Nat} {h0 : zHp} (hw : zRg R h0) (d : Nat) : ∀ (n : Nat) (x28 : Int) (x29 : Int) (x30 : Int) (x31 : Int) (x32 : Int) (x33 : Int) (x34 : Int) (s35 : zSg) (k36 : Int → Int → Int → Int → Int → zSg → Option (Int × zSg)) (hk36 : ∀ (y0 : Int) (y1 : Int) (y2 : Int) (y3 : Int) (y4 : Int) (s : zSg), zE (zov R h0) Ji E (d + 1) 236 (zB 236 8) ([some (.inr (.inr R)), some (.inl y0), some (.inl y1), some (.inl y2), some (.inl y3), some (.inl y4), none, none, none]) ([]) s (k36 y0 y1 y2 y3 y4 s)), zE (zov R h0) Ji E (d + 1) 236 (zB 236 5) ([some (.inr (.inr R)), some (.inl x28), some (.inl x29), some (.inl x30), some (.inl x31), some (.inl x32), some (.inl x33), some (.inl x34), none]) ([]) s35 (gM_edition_l5 n x28 x29 x30 x31 x32 x33 x34 s35 k36) := by
  intro n
  induction n with
  | zero => intro x28 x29 x30 x31 x32 x33 x34 s35 k36 hk36; exact zE_none
  | succ n ih =>
    intro x28 x29 x30 x31 x32 x33 x34 s35 k36 hk36
    unfold gM_edition_l5
    refine zE_jn (fun q48 => ∀ (y0 : Int) (y1 : Int) (y2 : Int) (y3 : Int) (y4 : Int) (y5 : Int) (y6 : Int) (y7 : Int) (y8 : Int) (y9 : Int) (s : zSg), zE (zov R h0) Ji E (d + 1) 236 (zB 236 7) ([some (.inr (.inr R)), some (.inl y0), some (.inl y1), some (.inl y2), some (.inl y3), some (.inl y4), some (.inl y5), some (.inl y6), some (.inl y7)]) ([.inl y9, .inl y8, .inr (.inr (zra R 26))]) s (q48 y0 y1 y2 y3 y4 y5 y6 y7 y8 y9 s)) (fun x37 x38 x39 x40 x41 x42 x43 x44 x45 x46 s47 => ?_) (fun q48 hq48 => ?_)
    · refine zr_68 hw rfl rfl rfl ?_
      refine zq_6_0 ?_
      refine zr_61 hw rfl ?_
      refine zq_1 ?_
      refine zq_4_6 ?_
      refine zq_13 ?_
      refine zq_4_7 ?_
      refine zq_11 ?_
      refine zq_6_0 ?_
      refine zr_61 hw rfl ?_
      refine zq_4_8 ?_
      refine zr_65 hw rfl rfl rfl ?_
      refine zr_68 hw rfl rfl rfl ?_
      refine zq_6_0 ?_
      refine zr_61 hw rfl ?_
      refine zq_1 ?_
      refine zq_4_6 ?_
      refine zq_13 ?_
      refine zq_4_7 ?_
      refine zq_11 ?_
      refine zq_6_0 ?_
      refine zr_61 hw rfl ?_
      refine zq_4_8 ?_
      refine zr_65 hw rfl rfl rfl ?_
      refine zr_68 hw rfl rfl rfl ?_
      refine zE_vl ?_
      refine zq_10_7 rfl ?_
      refine zq_56 ?_
      exact zE_w [true, true, true, true, true, true, true, true, false] (ih _ _ _ _ _ _ _ _ _ hk36)
    refine zq_4_7 ?_
    refine zq_6_0 ?_
    refine zr_61 hw rfl ?_
    refine zq_4_6 ?_
    refine zr_65 hw rfl rfl rfl ?_
    refine zq_49 ?_ ?_
    · refine zq_1 ?_
      refine zq_4_3 ?_
      refine zq_13 ?_
      refine zq_1 ?_
      refine zq_4_5 ?_
      refine zq_13 ?_
      refine zq_11 ?_
      refine zq_4_7 ?_
      refine zq_11 ?_
      refine zE_vl ?_
      refine zq_7_8 rfl ?_
      refine zq_6_0 ?_
      refine zr_61 hw rfl ?_
      refine zq_1 ?_
      refine zq_4_6 ?_
      refine zq_13 ?_
      refine zq_4_7 ?_
      refine zq_11 ?_
      refine zq_6_0 ?_
      refine zr_61 hw rfl ?_
      refine zq_4_8 ?_
      refine zr_65 hw rfl rfl rfl ?_
      refine zq_1 ?_
      refine zq_47 ?_ ?_
      · refine zq_1 ?_
        refine zq_56 ?_
        exact zE_w [true, true, true, true, true, true, true, true, true] (hq48 _ _ _ _ _ _ _ _ _ _ _)
      · refine zq_6_0 ?_
        refine zr_61 hw rfl ?_
        refine zq_4_8 ?_
        refine zr_65 hw rfl rfl rfl ?_
        refine zq_4_4 ?_
        refine zq_12 ?_
        refine zq_57 ?_
        exact zE_w [true, true, true, true, true, true, true, true, true] (hq48 _ _ _ _ _ _ _ _ _ _ _)
    · exact zE_w [true, true, true, true, true, true, false, false, false] (hk36 _ _ _ _ _ _)
noncomputable def gM_edition_l4 : Nat → Int → Int → Int → Int → Int → zSg → (Int → Int → zSg → Option (Int × zSg)) → Option (Int × zSg)
  | 0, _, _, _, _, _, _, _ => none
  | n + 1, x13, x14, x15, x16, x17, s18, k19 =>
   yrd 60 6 x15 s18 fun v20 =>
   if x17 < v20 then
     (yrd 60 4 x15 s18 fun v21 =>
     yrd 60 5 v21 s18 fun v22 =>
     yrd 60 5 x15 s18 fun v23 =>
     ybd (gM_barAt x13 v22 (zadd v23 x17) s18) fun v24 s25 =>
     yrd 480 23 (zadd (zmul 8 x15) x17) s25 fun v26 =>
     ywi 4800 29 v24 v26 s25 fun s27 =>
     gM_edition_l5 zFU x13 x14 x15 x16 x17 v24 0 s27 (fun (x59 : Int) (x60 : Int) (x61 : Int) (x62 : Int) (x63 : Int) (s64 : zSg) =>
      yvl (zadd x63 1) fun v65 =>
      gM_edition_l4 n x59 x60 x61 x62 v65 s64 k19))
   else
     (k19 x13 x14 s18)
theorem gM_edition_l4_ok {E : Nat → Nat} {R : Nat} {h0 : zHp} (hw : zRg R h0) (d : Nat) : ∀ (n : Nat) (x13 : Int) (x14 : Int) (x15 : Int) (x16 : Int) (x17 : Int) (s18 : zSg) (k19 : Int → Int → zSg → Option (Int × zSg)) (hk19 : ∀ (y0 : Int) (y1 : Int) (s : zSg), zE (zov R h0) Ji E (d + 1) 236 (zB 236 9) ([some (.inr (.inr R)), some (.inl y0), some (.inl y1), none, none, none, none, none, none]) ([]) s (k19 y0 y1 s)), zE (zov R h0) Ji E (d + 1) 236 (zB 236 4) ([some (.inr (.inr R)), some (.inl x13), some (.inl x14), some (.inl x15), some (.inl x16), some (.inl x17), none, none, none]) ([]) s18 (gM_edition_l4 n x13 x14 x15 x16 x17 s18 k19) := by
  intro n
  induction n with
  | zero => intro x13 x14 x15 x16 x17 s18 k19 hk19; exact zE_none
  | succ n ih =>
    intro x13 x14 x15 x16 x17 s18 k19 hk19
    unfold gM_edition_l4
    refine zq_4_5 ?_
    refine zq_6_0 ?_
    refine zr_61 hw rfl ?_
    refine zq_4_3 ?_
    refine zr_65 hw rfl rfl rfl ?_
    refine zq_49 ?_ ?_
    · refine zq_6_0 ?_
      refine zq_4_1 ?_
      refine zq_6_0 ?_
      refine zr_61 hw rfl ?_
      refine zq_6_0 ?_
      refine zr_61 hw rfl ?_
      refine zq_4_3 ?_
      refine zr_65 hw rfl rfl rfl ?_
      refine zr_65 hw rfl rfl rfl ?_
      refine zq_6_0 ?_
      refine zr_61 hw rfl ?_
      refine zq_4_3 ?_
      refine zr_65 hw rfl rfl rfl ?_
      refine zq_4_5 ?_
      refine zq_11 ?_
      refine zq_92_4i (zR_is hw) rfl rfl (gM_barAt_ok (E := E) hw _ _ _ _ _) fun v24 s25 => ?_
      refine zq_7_6 rfl ?_
      refine zq_6_0 ?_
      refine zr_61 hw rfl ?_
      refine zq_4_6 ?_
      refine zq_6_0 ?_
      refine zr_61 hw rfl ?_
      refine zq_1 ?_
      refine zq_4_3 ?_
      refine zq_13 ?_
      refine zq_4_5 ?_
      refine zq_11 ?_
      refine zr_65 hw rfl rfl rfl ?_
      refine zr_68 hw rfl rfl rfl ?_
      refine zq_1 ?_
      refine zq_7_7 rfl ?_
      refine zq_57 ?_
      refine zE_w [true, true, true, true, true, true, true, true, false] (gM_edition_l5_ok (E := E) hw d zFU _ _ _ _ _ _ _ _ _ (fun x59 x60 x61 x62 x63 s64 => ?_))
      refine zE_vl ?_
      refine zq_10_5 rfl ?_
      refine zq_56 ?_
      exact zE_w [true, true, true, true, true, true, false, false, false] (ih _ _ _ _ _ _ _ hk19)
    · exact zE_w [true, true, true, false, false, false, false, false, false] (hk19 _ _ _)
noncomputable def gM_edition_l3 : Nat → Int → Int → zSg → (Int → zSg → Option (Int × zSg)) → Option (Int × zSg)
  | 0, _, _, _, _ => none
  | n + 1, x6, x7, s8, k9 =>
   if x7 < (s8 0 24) then
     (yrd 12 25 x7 s8 fun v10 =>
     yrd 60 4 v10 s8 fun v11 =>
     yrd 60 6 v11 s8 fun v12 =>
     gM_edition_l4 zFU x6 x7 v10 v12 0 s8 (fun (x66 : Int) (x67 : Int) (s68 : zSg) =>
      yvl (zadd x67 1) fun v69 =>
      gM_edition_l3 n x66 v69 s68 k9))
   else
     (k9 x6 s8)
theorem gM_edition_l3_ok {E : Nat → Nat} {R : Nat} {h0 : zHp} (hw : zRg R h0) (d : Nat) : ∀ (n : Nat) (x6 : Int) (x7 : Int) (s8 : zSg) (k9 : Int → zSg → Option (Int × zSg)) (hk9 : ∀ (y0 : Int) (s : zSg), zE (zov R h0) Ji E (d + 1) 236 (zB 236 10) ([some (.inr (.inr R)), some (.inl y0), none, none, none, none, none, none, none]) ([]) s (k9 y0 s)), zE (zov R h0) Ji E (d + 1) 236 (zB 236 3) ([some (.inr (.inr R)), some (.inl x6), some (.inl x7), none, none, none, none, none, none]) ([]) s8 (gM_edition_l3 n x6 x7 s8 k9) := by
  intro n
  induction n with
  | zero => intro x6 x7 s8 k9 hk9; exact zE_none
  | succ n ih =>
    intro x6 x7 s8 k9 hk9
    unfold gM_edition_l3
    refine zq_4_2 ?_
    refine zq_6_0 ?_
    refine zr_60 hw rfl ?_
    refine zq_49 ?_ ?_
    · refine zq_6_0 ?_
      refine zr_61 hw rfl ?_
      refine zq_4_2 ?_
      refine zr_65 hw rfl rfl rfl ?_
      refine zq_7_3 rfl ?_
      refine zq_6_0 ?_
      refine zr_61 hw rfl ?_
      refine zq_6_0 ?_
      refine zr_61 hw rfl ?_
      refine zq_4_3 ?_
      refine zr_65 hw rfl rfl rfl ?_
      refine zr_65 hw rfl rfl rfl ?_
      refine zq_7_4 rfl ?_
      refine zq_1 ?_
      refine zq_7_5 rfl ?_
      refine zq_57 ?_
      refine zE_w [true, true, true, true, true, true, false, false, false] (gM_edition_l4_ok (E := E) hw d zFU _ _ _ _ _ _ _ (fun x66 x67 s68 => ?_))
      refine zE_vl ?_
      refine zq_10_2 rfl ?_
      refine zq_56 ?_
      exact zE_w [true, true, true, false, false, false, false, false, false] (ih _ _ _ _ hk9)
    · exact zE_w [true, true, false, false, false, false, false, false, false] (hk9 _ _)
noncomputable def gM_edition (s : zSg) : Option (Int × zSg) :=
  if (s 0 24) = 0 then
    (some ((-3), s))
  else
    (if (s 0 2) = 60 then
      (some ((-4), s))
    else
      (yrd 12 25 0 s fun v1 =>
      ybd (gM_scoreOf v1 s) fun v2 s3 =>
      ybd (gM_add 4 v2 (s3 0 24) 0 s3) fun v4 s5 =>
      gM_edition_l3 zFU v4 0 s5 (fun (x70 : Int) (s71 : zSg) =>
       yvl (zup s71 0 24 0) fun s72 =>
       some (x70, s72))))
theorem gM_edition_ok {E : Nat → Nat} {R : Nat} {h0 : zHp} (hw : zRg R h0) (d : Nat) (s : zSg) : zE (zov R h0) Ji E (d + 1) 236 (zB 236 0) (zent 9 [.inr (.inr R)]) [] s (gM_edition s) := by
  show zE _ _ _ _ _ _ [some (.inr (.inr R)), none, none, none, none, none, none, none, none] _ _ _
  unfold gM_edition
  refine zq_6_0 ?_
  refine zr_60 hw rfl ?_
  refine zq_41 ?_ ?_
  · refine zq_1 ?_
    exact zq_95 rfl
  · refine zq_6_0 ?_
    refine zr_60 hw rfl ?_
    refine zq_1 ?_
    refine zq_47 ?_ ?_
    · refine zq_1 ?_
      exact zq_95 rfl
    · refine zq_6_0 ?_
      refine zq_1 ?_
      refine zq_6_0 ?_
      refine zq_6_0 ?_
      refine zr_61 hw rfl ?_
      refine zq_1 ?_
      refine zr_65 hw rfl rfl rfl ?_
      refine zq_92_2i (zR_is hw) rfl rfl (gM_scoreOf_ok (E := E) hw _ _ _) fun v2 s3 => ?_
      refine zq_6_0 ?_
      refine zr_60 hw rfl ?_
      refine zq_1 ?_
      refine zq_92_5i (zR_is hw) rfl rfl (gM_add_ok (E := E) hw _ _ _ _ _ _) fun v4 s5 => ?_
      refine zq_7_1 rfl ?_
      refine zq_1 ?_
      refine zq_7_2 rfl ?_
      refine zq_57 ?_
      refine zE_w [true, true, true, false, false, false, false, false, false] (gM_edition_l3_ok (E := E) hw d zFU _ _ _ _ (fun x70 s71 => ?_))
      refine zq_6_0 ?_
      refine zq_1 ?_
      refine zE_vl ?_
      refine zr_62 hw rfl ?_
      refine zq_4_1 ?_
      exact zq_95 rfl
/-! 237: EngraversHouseModel.amendedPitch:(IIIII)I -/
noncomputable def gM_amendedPitch_l1 : Nat → Int → Int → Int → Int → Int → Int → Int → zSg → Option (Int × zSg)
  | 0, _, _, _, _, _, _, _, _ => none
  | n + 1, x4, x5, x6, x7, x8, x9, x10, s11 =>
   yjn (fun (x12 : Int) (x13 : Int) (x14 : Int) (x15 : Int) (x16 : Int) (x17 : Int) (x18 : Int) (s19 : zSg) =>
    yvl (zadd x18 1) fun v21 =>
    gM_amendedPitch_l1 n x12 x13 x14 x15 x16 x17 v21 s19) fun q20 =>
    if x10 < x8 then
     (yrd 60 3 x10 s11 fun v22 =>
     if v22 = 7 then
       (yrd 60 4 x10 s11 fun v23 =>
       if v23 = x4 then
         (yrd 60 5 x10 s11 fun v24 =>
         if v24 = x5 then
           (yrd 60 6 x10 s11 fun v25 =>
           if v25 = x6 then
             (yrd 60 32 x10 s11 fun v26 =>
             if v26 = x7 then
               (yrd 60 30 x10 s11 fun v27 =>
               if x9 = v27 then
                 (yrd 60 31 x10 s11 fun v28 =>
                 q20 x4 x5 x6 x7 x8 v28 x10 s11)
               else
                 (q20 x4 x5 x6 x7 x8 x9 x10 s11))
             else
               (q20 x4 x5 x6 x7 x8 x9 x10 s11))
           else
             (q20 x4 x5 x6 x7 x8 x9 x10 s11))
         else
           (q20 x4 x5 x6 x7 x8 x9 x10 s11))
       else
         (q20 x4 x5 x6 x7 x8 x9 x10 s11))
     else
       (q20 x4 x5 x6 x7 x8 x9 x10 s11))
   else
     (some (x9, s11))
theorem gM_amendedPitch_l1_ok {E : Nat → Nat} {R : Nat} {h0 : zHp} (hw : zRg R h0) (d : Nat) : ∀ (n : Nat) (x4 : Int) (x5 : Int) (x6 : Int) (x7 : Int) (x8 : Int) (x9 : Int) (x10 : Int) (s11 : zSg), zE (zov R h0) Ji E (d + 1) 237 (zB 237 1) ([some (.inr (.inr R)), some (.inl x4), some (.inl x5), some (.inl x6), some (.inl x7), some (.inl x8), some (.inl x9), some (.inl x10)]) ([]) s11 (gM_amendedPitch_l1 n x4 x5 x6 x7 x8 x9 x10 s11) := by
  intro n
  induction n with
  | zero => intro x4 x5 x6 x7 x8 x9 x10 s11; exact zE_none
  | succ n ih =>
    intro x4 x5 x6 x7 x8 x9 x10 s11
    unfold gM_amendedPitch_l1
    refine zE_jn (fun q20 => ∀ (y0 : Int) (y1 : Int) (y2 : Int) (y3 : Int) (y4 : Int) (y5 : Int) (y6 : Int) (s : zSg), zE (zov R h0) Ji E (d + 1) 237 (zB 237 2) ([some (.inr (.inr R)), some (.inl y0), some (.inl y1), some (.inl y2), some (.inl y3), some (.inl y4), some (.inl y5), some (.inl y6)]) ([]) s (q20 y0 y1 y2 y3 y4 y5 y6 s)) (fun x12 x13 x14 x15 x16 x17 x18 s19 => ?_) (fun q20 hq20 => ?_)
    · refine zE_vl ?_
      refine zq_10_7 rfl ?_
      refine zq_56 ?_
      exact zE_w [true, true, true, true, true, true, true, true] (ih _ _ _ _ _ _ _ _)
    refine zq_4_7 ?_
    refine zq_4_5 ?_
    refine zq_49 ?_ ?_
    · refine zq_6_0 ?_
      refine zr_61 hw rfl ?_
      refine zq_4_7 ?_
      refine zr_65 hw rfl rfl rfl ?_
      refine zq_1 ?_
      refine zq_47 ?_ ?_
      · refine zq_6_0 ?_
        refine zr_61 hw rfl ?_
        refine zq_4_7 ?_
        refine zr_65 hw rfl rfl rfl ?_
        refine zq_4_1 ?_
        refine zq_47 ?_ ?_
        · refine zq_6_0 ?_
          refine zr_61 hw rfl ?_
          refine zq_4_7 ?_
          refine zr_65 hw rfl rfl rfl ?_
          refine zq_4_2 ?_
          refine zq_47 ?_ ?_
          · refine zq_6_0 ?_
            refine zr_61 hw rfl ?_
            refine zq_4_7 ?_
            refine zr_65 hw rfl rfl rfl ?_
            refine zq_4_3 ?_
            refine zq_47 ?_ ?_
            · refine zq_6_0 ?_
              refine zr_61 hw rfl ?_
              refine zq_4_7 ?_
              refine zr_65 hw rfl rfl rfl ?_
              refine zq_4_4 ?_
              refine zq_47 ?_ ?_
              · refine zq_4_6 ?_
                refine zq_6_0 ?_
                refine zr_61 hw rfl ?_
                refine zq_4_7 ?_
                refine zr_65 hw rfl rfl rfl ?_
                refine zq_47 ?_ ?_
                · refine zq_6_0 ?_
                  refine zr_61 hw rfl ?_
                  refine zq_4_7 ?_
                  refine zr_65 hw rfl rfl rfl ?_
                  refine zq_7_6 rfl ?_
                  refine zq_57 ?_
                  exact zE_w [true, true, true, true, true, true, true, true] (hq20 _ _ _ _ _ _ _ _)
                · exact zE_w [true, true, true, true, true, true, true, true] (hq20 _ _ _ _ _ _ _ _)
              · exact zE_w [true, true, true, true, true, true, true, true] (hq20 _ _ _ _ _ _ _ _)
            · exact zE_w [true, true, true, true, true, true, true, true] (hq20 _ _ _ _ _ _ _ _)
          · exact zE_w [true, true, true, true, true, true, true, true] (hq20 _ _ _ _ _ _ _ _)
        · exact zE_w [true, true, true, true, true, true, true, true] (hq20 _ _ _ _ _ _ _ _)
      · exact zE_w [true, true, true, true, true, true, true, true] (hq20 _ _ _ _ _ _ _ _)
    · refine zq_4_6 ?_
      exact zq_95 rfl
noncomputable def gM_amendedPitch (a1 : Int) (a2 : Int) (a3 : Int) (a4 : Int) (a5 : Int) (s : zSg) : Option (Int × zSg) :=
  ybd (gM_barAt a1 a2 a3 s) fun v1 s2 =>
  yrd 38400 26 (zadd (zmul 8 v1) a4) s2 fun v3 =>
  gM_amendedPitch_l1 zFU a1 a2 a3 a4 a5 v3 0 s2
theorem gM_amendedPitch_ok {E : Nat → Nat} {R : Nat} {h0 : zHp} (hw : zRg R h0) (d : Nat) (a1 : Int) (a2 : Int) (a3 : Int) (a4 : Int) (a5 : Int) (s : zSg) : zE (zov R h0) Ji E (d + 1) 237 (zB 237 0) (zent 8 [.inr (.inr R), .inl a1, .inl a2, .inl a3, .inl a4, .inl a5]) [] s (gM_amendedPitch a1 a2 a3 a4 a5 s) := by
  show zE _ _ _ _ _ _ [some (.inr (.inr R)), some (.inl a1), some (.inl a2), some (.inl a3), some (.inl a4), some (.inl a5), none, none] _ _ _
  unfold gM_amendedPitch
  refine zq_6_0 ?_
  refine zr_61 hw rfl ?_
  refine zq_1 ?_
  refine zq_6_0 ?_
  refine zq_4_1 ?_
  refine zq_4_2 ?_
  refine zq_4_3 ?_
  refine zq_92_4i (zR_is hw) rfl rfl (gM_barAt_ok (E := E) hw _ _ _ _ _) fun v1 s2 => ?_
  refine zq_13 ?_
  refine zq_4_4 ?_
  refine zq_11 ?_
  refine zr_65 hw rfl rfl rfl ?_
  refine zq_7_6 rfl ?_
  refine zq_1 ?_
  refine zq_7_7 rfl ?_
  refine zq_57 ?_
  exact zE_w [true, true, true, true, true, true, true, true] (gM_amendedPitch_l1_ok (E := E) hw d zFU _ _ _ _ _ _ _ _)
/-! 238: EngraversHouseModel.hasBar:(III)Z -/
noncomputable def gM_hasBar (a1 : Int) (a2 : Int) (a3 : Int) (s : zSg) : Option (Int × zSg) :=
  ybd (gM_in a2 0 3 s) fun v1 s2 =>
  if v1 = 0 then
    (some (0, s2))
  else
  ybd (gM_in a3 0 19 s2) fun v3 s4 =>
  if v3 = 0 then
    (some (0, s4))
  else
  ybd (gM_barAt a1 a2 a3 s4) fun v5 s6 =>
  yrd 4800 29 v5 s6 fun v7 =>
  if v7 < 0 then
    (some (0, s6))
  else
  some (1, s6)
theorem gM_hasBar_ok {E : Nat → Nat} {R : Nat} {h0 : zHp} (hw : zRg R h0) (d : Nat) (a1 : Int) (a2 : Int) (a3 : Int) (s : zSg) : zE (zov R h0) Ji E (d + 1) 238 (zB 238 0) (zent 4 [.inr (.inr R), .inl a1, .inl a2, .inl a3]) [] s (gM_hasBar a1 a2 a3 s) := by
  show zE _ _ _ _ _ _ [some (.inr (.inr R)), some (.inl a1), some (.inl a2), some (.inl a3)] _ _ _
  unfold gM_hasBar
  refine zq_4_2 ?_
  refine zq_1 ?_
  refine zq_1 ?_
  refine zq_90_3i rfl rfl (gM_in_ok (E := E) hw _ _ _ _ _) fun v1 s2 => ?_
  refine zq_40 ?_ ?_
  · refine zq_1 ?_
    refine zq_57 ?_
    exact zq_96c (by decide)
  refine zq_4_3 ?_
  refine zq_1 ?_
  refine zq_1 ?_
  refine zq_90_3i rfl rfl (gM_in_ok (E := E) hw _ _ _ _ _) fun v3 s4 => ?_
  refine zq_40 ?_ ?_
  · refine zq_1 ?_
    refine zq_57 ?_
    exact zq_96c (by decide)
  refine zq_6_0 ?_
  refine zr_61 hw rfl ?_
  refine zq_6_0 ?_
  refine zq_4_1 ?_
  refine zq_4_2 ?_
  refine zq_4_3 ?_
  refine zq_92_4i (zR_is hw) rfl rfl (gM_barAt_ok (E := E) hw _ _ _ _ _) fun v5 s6 => ?_
  refine zr_65 hw rfl rfl rfl ?_
  refine zq_42 ?_ ?_
  · refine zq_1 ?_
    refine zq_57 ?_
    exact zq_96c (by decide)
  refine zq_1 ?_
  refine zq_56 ?_
  exact zq_96c (by decide)
/-! 239: EngraversHouseModel.printed:(IIIII)I -/
noncomputable def gM_printed (a1 : Int) (a2 : Int) (a3 : Int) (a4 : Int) (a5 : Int) (s : zSg) : Option (Int × zSg) :=
  ybd (gM_isThing a1 s) fun v1 s2 =>
  if v1 = 0 then
    (some ((-5), s2))
  else
  yrd 60 3 a1 s2 fun v3 =>
  if v3 = 4 then
    (ybd (gM_hasBar a1 a2 a3 s2) fun v4 s5 =>
    if v4 = 0 then
      (some ((-5), s5))
    else
    ybd (gM_in a5 0 1 s5) fun v6 s7 =>
    if v6 = 0 then
      (some ((-5), s7))
    else
      (ybd (gM_barAt a1 a2 a3 s7) fun v8 s9 =>
      yrd 4800 29 v8 s9 fun v10 =>
      ybd (gM_in a4 (-1) (zsub v10 1) s9) fun v11 s12 =>
      if v11 = 0 then
        (some ((-5), s12))
      else
        (if a4 < 0 then
          (yrd 4800 29 v8 s12 fun v28 =>
          some (v28, s12))
        else
          (yjn (fun (x13 : Int) (x14 : Int) (x15 : Int) (x16 : Int) (x17 : Int) (x18 : Int) (x19 : Int) (s20 : zSg) =>
           ybd (gM_amendedPitch x15 x16 x17 x18 x19 s20) fun v22 s23 =>
           yrd 38400 27 (zadd (zmul 8 x14) x13) s23 fun v24 =>
           yrd 38400 28 (zadd (zmul 8 x14) x13) s23 fun v25 =>
           ybd (gM_told v22 v24 v25 s23) fun v26 s27 =>
           some (v26, s27)) fun q21 =>
           if a5 = 0 then
            (q21 a4 v8 a1 a2 a3 a4 0 s12)
          else
            (q21 a4 v8 a1 a2 a3 a4 (s12 0 2) s12)))))
  else
    (some ((-5), s2))
theorem gM_printed_ok {E : Nat → Nat} {R : Nat} {h0 : zHp} (hw : zRg R h0) (d : Nat) (a1 : Int) (a2 : Int) (a3 : Int) (a4 : Int) (a5 : Int) (s : zSg) : zE (zov R h0) Ji E (d + 2) 239 (zB 239 0) (zent 7 [.inr (.inr R), .inl a1, .inl a2, .inl a3, .inl a4, .inl a5]) [] s (gM_printed a1 a2 a3 a4 a5 s) := by
  show zE _ _ _ _ _ _ [some (.inr (.inr R)), some (.inl a1), some (.inl a2), some (.inl a3), some (.inl a4), some (.inl a5), none] _ _ _
  unfold gM_printed
  refine zq_6_0 ?_
  refine zq_4_1 ?_
  refine zq_92_2i (zR_is hw) rfl rfl (gM_isThing_ok (E := E) hw _ _ _) fun v1 s2 => ?_
  refine zq_40 ?_ ?_
  · refine zq_1 ?_
    exact zq_95 rfl
  refine zq_6_0 ?_
  refine zr_61 hw rfl ?_
  refine zq_4_1 ?_
  refine zr_65 hw rfl rfl rfl ?_
  refine zq_1 ?_
  refine zq_47 ?_ ?_
  · refine zq_6_0 ?_
    refine zq_4_1 ?_
    refine zq_4_2 ?_
    refine zq_4_3 ?_
    refine zq_92_4i (zR_is hw) rfl rfl (gM_hasBar_ok (E := E) hw _ _ _ _ _) fun v4 s5 => ?_
    refine zq_40 ?_ ?_
    · refine zq_1 ?_
      exact zq_95 rfl
    refine zq_4_5 ?_
    refine zq_1 ?_
    refine zq_1 ?_
    refine zq_90_3i rfl rfl (gM_in_ok (E := E) hw _ _ _ _ _) fun v6 s7 => ?_
    refine zq_41 ?_ ?_
    · refine zq_57 ?_
      refine zq_1 ?_
      exact zq_95 rfl
    · refine zq_6_0 ?_
      refine zq_4_1 ?_
      refine zq_4_2 ?_
      refine zq_4_3 ?_
      refine zq_92_4i (zR_is hw) rfl rfl (gM_barAt_ok (E := E) hw _ _ _ _ _) fun v8 s9 => ?_
      refine zq_7_6 rfl ?_
      refine zq_4_4 ?_
      refine zq_1 ?_
      refine zq_6_0 ?_
      refine zr_61 hw rfl ?_
      refine zq_4_6 ?_
      refine zr_65 hw rfl rfl rfl ?_
      refine zq_1 ?_
      refine zq_12 ?_
      refine zq_90_3i rfl rfl (gM_in_ok (E := E) hw _ _ _ _ _) fun v11 s12 => ?_
      refine zq_41 ?_ ?_
      · refine zq_1 ?_
        exact zq_95 rfl
      · refine zq_4_4 ?_
        refine zq_43 ?_ ?_
        · refine zq_6_0 ?_
          refine zr_61 hw rfl ?_
          refine zq_4_6 ?_
          refine zr_65 hw rfl rfl rfl ?_
          exact zq_95 rfl
        · refine zE_jn (fun q21 => ∀ (y0 : Int) (y1 : Int) (y2 : Int) (y3 : Int) (y4 : Int) (y5 : Int) (y6 : Int) (s : zSg), zE (zov R h0) Ji E (d + 2) 239 (zB 239 6) ([some (.inr (.inr R)), none, none, none, some (.inl y0), none, some (.inl y1)]) ([.inl y6, .inl y5, .inl y4, .inl y3, .inl y2, .inr (.inr R)]) s (q21 y0 y1 y2 y3 y4 y5 y6 s)) (fun x13 x14 x15 x16 x17 x18 x19 s20 => ?_) (fun q21 hq21 => ?_)
          · refine zq_92_6i (zR_is hw) rfl rfl (gM_amendedPitch_ok (E := E) hw _ _ _ _ _ _ _) fun v22 s23 => ?_
            refine zq_6_0 ?_
            refine zr_61 hw rfl ?_
            refine zq_1 ?_
            refine zq_4_6 ?_
            refine zq_13 ?_
            refine zq_4_4 ?_
            refine zq_11 ?_
            refine zr_65 hw rfl rfl rfl ?_
            refine zq_6_0 ?_
            refine zr_61 hw rfl ?_
            refine zq_1 ?_
            refine zq_4_6 ?_
            refine zq_13 ?_
            refine zq_4_4 ?_
            refine zq_11 ?_
            refine zr_65 hw rfl rfl rfl ?_
            refine zq_90_3i rfl rfl (gM_told_ok (E := E) hw _ _ _ _ _) fun v26 s27 => ?_
            exact zq_95 rfl
          refine zq_6_0 ?_
          refine zq_4_1 ?_
          refine zq_4_2 ?_
          refine zq_4_3 ?_
          refine zq_4_4 ?_
          refine zq_4_5 ?_
          refine zq_41 ?_ ?_
          · refine zq_1 ?_
            refine zq_56 ?_
            exact zE_w [true, false, false, false, true, false, true] (hq21 _ _ _ _ _ _ _ _)
          · refine zq_6_0 ?_
            refine zr_60 hw rfl ?_
            refine zq_57 ?_
            exact zE_w [true, false, false, false, true, false, true] (hq21 _ _ _ _ _ _ _ _)
  · refine zq_1 ?_
    exact zq_95 rfl
/-! 240: EngraversHouseModel.erratum:(IIIIII)I -/
noncomputable def gM_erratum (a1 : Int) (a2 : Int) (a3 : Int) (a4 : Int) (a5 : Int) (a6 : Int) (s : zSg) : Option (Int × zSg) :=
  ybd (gM_isThing a1 s) fun v1 s2 =>
  if v1 = 0 then
    (some ((-1), s2))
  else
  ybd (gM_in a2 0 3 s2) fun v3 s4 =>
  if v3 = 0 then
    (some ((-1), s4))
  else
    (yrd 60 3 a1 s4 fun v5 =>
    if v5 = 4 then
      (ybd (gM_in a3 0 19 s4) fun v6 s7 =>
      if v6 = 0 then
        (some ((-2), s7))
      else
      ybd (gM_in a4 0 7 s7) fun v8 s9 =>
      if v8 = 0 then
        (some ((-2), s9))
      else
      ybd (gM_in a5 1 60 s9) fun v10 s11 =>
      if v10 = 0 then
        (some ((-2), s11))
      else
      ybd (gM_in a6 1 60 s11) fun v12 s13 =>
      if v12 = 0 then
        (some ((-2), s13))
      else
        (if (s13 0 2) = 60 then
          (some ((-4), s13))
        else
          (ybd (gM_add 7 a1 a2 a3 s13) fun v14 s15 =>
          ywi 60 32 v14 a4 s15 fun s16 =>
          ywi 60 30 v14 a5 s16 fun s17 =>
          ywi 60 31 v14 a6 s17 fun s18 =>
          some (v14, s18))))
    else
    some ((-12), s4))
theorem gM_erratum_ok {E : Nat → Nat} {R : Nat} {h0 : zHp} (hw : zRg R h0) (d : Nat) (a1 : Int) (a2 : Int) (a3 : Int) (a4 : Int) (a5 : Int) (a6 : Int) (s : zSg) : zE (zov R h0) Ji E (d + 2) 240 (zB 240 0) (zent 8 [.inr (.inr R), .inl a1, .inl a2, .inl a3, .inl a4, .inl a5, .inl a6]) [] s (gM_erratum a1 a2 a3 a4 a5 a6 s) := by
  show zE _ _ _ _ _ _ [some (.inr (.inr R)), some (.inl a1), some (.inl a2), some (.inl a3), some (.inl a4), some (.inl a5), some (.inl a6), none] _ _ _
  unfold gM_erratum
  refine zq_6_0 ?_
  refine zq_4_1 ?_
  refine zq_92_2i (zR_is hw) rfl rfl (gM_isThing_ok (E := E) hw _ _ _) fun v1 s2 => ?_
  refine zq_40 ?_ ?_
  · refine zq_1 ?_
    exact zq_95 rfl
  refine zq_4_2 ?_
  refine zq_1 ?_
  refine zq_1 ?_
  refine zq_90_3i rfl rfl (gM_in_ok (E := E) hw _ _ _ _ _) fun v3 s4 => ?_
  refine zq_41 ?_ ?_
  · refine zq_57 ?_
    refine zq_1 ?_
    exact zq_95 rfl
  · refine zq_6_0 ?_
    refine zr_61 hw rfl ?_
    refine zq_4_1 ?_
    refine zr_65 hw rfl rfl rfl ?_
    refine zq_1 ?_
    refine zq_46 ?_ ?_
    · refine zq_4_3 ?_
      refine zq_1 ?_
      refine zq_1 ?_
      refine zq_90_3i rfl rfl (gM_in_ok (E := E) hw _ _ _ _ _) fun v6 s7 => ?_
      refine zq_40 ?_ ?_
      · refine zq_1 ?_
        exact zq_95 rfl
      refine zq_4_4 ?_
      refine zq_1 ?_
      refine zq_1 ?_
      refine zq_90_3i rfl rfl (gM_in_ok (E := E) hw _ _ _ _ _) fun v8 s9 => ?_
      refine zq_40 ?_ ?_
      · refine zq_1 ?_
        exact zq_95 rfl
      refine zq_4_5 ?_
      refine zq_1 ?_
      refine zq_1 ?_
      refine zq_90_3i rfl rfl (gM_in_ok (E := E) hw _ _ _ _ _) fun v10 s11 => ?_
      refine zq_40 ?_ ?_
      · refine zq_1 ?_
        exact zq_95 rfl
      refine zq_4_6 ?_
      refine zq_1 ?_
      refine zq_1 ?_
      refine zq_90_3i rfl rfl (gM_in_ok (E := E) hw _ _ _ _ _) fun v12 s13 => ?_
      refine zq_41 ?_ ?_
      · refine zq_57 ?_
        refine zq_1 ?_
        exact zq_95 rfl
      · refine zq_6_0 ?_
        refine zr_60 hw rfl ?_
        refine zq_1 ?_
        refine zq_47 ?_ ?_
        · refine zq_1 ?_
          exact zq_95 rfl
        · refine zq_6_0 ?_
          refine zq_1 ?_
          refine zq_4_1 ?_
          refine zq_4_2 ?_
          refine zq_4_3 ?_
          refine zq_92_5i (zR_is hw) rfl rfl (gM_add_ok (E := E) hw _ _ _ _ _ _) fun v14 s15 => ?_
          refine zq_7_7 rfl ?_
          refine zq_6_0 ?_
          refine zr_61 hw rfl ?_
          refine zq_4_7 ?_
          refine zq_4_4 ?_
          refine zr_68 hw rfl rfl rfl ?_
          refine zq_6_0 ?_
          refine zr_61 hw rfl ?_
          refine zq_4_7 ?_
          refine zq_4_5 ?_
          refine zr_68 hw rfl rfl rfl ?_
          refine zq_6_0 ?_
          refine zr_61 hw rfl ?_
          refine zq_4_7 ?_
          refine zq_4_6 ?_
          refine zr_68 hw rfl rfl rfl ?_
          refine zq_4_7 ?_
          exact zq_95 rfl
    refine zq_1 ?_
    exact zq_95 rfl
/-! 241: EngraversHouseModel.idle:(I)I -/
noncomputable def gM_idle (a1 : Int) (s : zSg) : Option (Int × zSg) :=
  ybd (gM_isThing a1 s) fun v1 s2 =>
  if v1 = 0 then
    (some ((-1), s2))
  else
    (yrd 60 3 a1 s2 fun v3 =>
    if v3 = 7 then
      (yrd 60 4 a1 s2 fun v4 =>
      yrd 60 5 a1 s2 fun v5 =>
      yrd 60 6 a1 s2 fun v6 =>
      ybd (gM_hasBar v4 v5 v6 s2) fun v7 s8 =>
      if v7 = 0 then
        (some (1, s8))
      else
      yrd 60 32 a1 s8 fun v9 =>
      yrd 60 5 a1 s8 fun v10 =>
      yrd 60 6 a1 s8 fun v11 =>
      ybd (gM_barAt v4 v10 v11 s8) fun v12 s13 =>
      yrd 4800 29 v12 s13 fun v14 =>
      if v9 < v14 then
        (yrd 60 5 a1 s13 fun v15 =>
        yrd 60 6 a1 s13 fun v16 =>
        yrd 60 32 a1 s13 fun v17 =>
        ybd (gM_amendedPitch v4 v15 v16 v17 a1 s13) fun v18 s19 =>
        yrd 60 30 a1 s19 fun v20 =>
        if v18 = v20 then
          (some (0, s19))
        else
          (some (1, s19)))
      else
      some (1, s13))
    else
    some ((-12), s2))
theorem gM_idle_ok {E : Nat → Nat} {R : Nat} {h0 : zHp} (hw : zRg R h0) (d : Nat) (a1 : Int) (s : zSg) : zE (zov R h0) Ji E (d + 2) 241 (zB 241 0) (zent 3 [.inr (.inr R), .inl a1]) [] s (gM_idle a1 s) := by
  show zE _ _ _ _ _ _ [some (.inr (.inr R)), some (.inl a1), none] _ _ _
  unfold gM_idle
  refine zq_6_0 ?_
  refine zq_4_1 ?_
  refine zq_92_2i (zR_is hw) rfl rfl (gM_isThing_ok (E := E) hw _ _ _) fun v1 s2 => ?_
  refine zq_41 ?_ ?_
  · refine zq_1 ?_
    exact zq_95 rfl
  · refine zq_6_0 ?_
    refine zr_61 hw rfl ?_
    refine zq_4_1 ?_
    refine zr_65 hw rfl rfl rfl ?_
    refine zq_1 ?_
    refine zq_46 ?_ ?_
    · refine zq_6_0 ?_
      refine zr_61 hw rfl ?_
      refine zq_4_1 ?_
      refine zr_65 hw rfl rfl rfl ?_
      refine zq_7_2 rfl ?_
      refine zq_6_0 ?_
      refine zq_4_2 ?_
      refine zq_6_0 ?_
      refine zr_61 hw rfl ?_
      refine zq_4_1 ?_
      refine zr_65 hw rfl rfl rfl ?_
      refine zq_6_0 ?_
      refine zr_61 hw rfl ?_
      refine zq_4_1 ?_
      refine zr_65 hw rfl rfl rfl ?_
      refine zq_92_4i (zR_is hw) rfl rfl (gM_hasBar_ok (E := E) hw _ _ _ _ _) fun v7 s8 => ?_
      refine zq_40 ?_ ?_
      · refine zq_1 ?_
        exact zq_95 rfl
      refine zq_6_0 ?_
      refine zr_61 hw rfl ?_
      refine zq_4_1 ?_
      refine zr_65 hw rfl rfl rfl ?_
      refine zq_6_0 ?_
      refine zr_61 hw rfl ?_
      refine zq_6_0 ?_
      refine zq_4_2 ?_
      refine zq_6_0 ?_
      refine zr_61 hw rfl ?_
      refine zq_4_1 ?_
      refine zr_65 hw rfl rfl rfl ?_
      refine zq_6_0 ?_
      refine zr_61 hw rfl ?_
      refine zq_4_1 ?_
      refine zr_65 hw rfl rfl rfl ?_
      refine zq_92_4i (zR_is hw) rfl rfl (gM_barAt_ok (E := E) hw _ _ _ _ _) fun v12 s13 => ?_
      refine zr_65 hw rfl rfl rfl ?_
      refine zq_48 ?_ ?_
      · refine zq_6_0 ?_
        refine zq_4_2 ?_
        refine zq_6_0 ?_
        refine zr_61 hw rfl ?_
        refine zq_4_1 ?_
        refine zr_65 hw rfl rfl rfl ?_
        refine zq_6_0 ?_
        refine zr_61 hw rfl ?_
        refine zq_4_1 ?_
        refine zr_65 hw rfl rfl rfl ?_
        refine zq_6_0 ?_
        refine zr_61 hw rfl ?_
        refine zq_4_1 ?_
        refine zr_65 hw rfl rfl rfl ?_
        refine zq_4_1 ?_
        refine zq_92_6i (zR_is hw) rfl rfl (gM_amendedPitch_ok (E := E) hw _ _ _ _ _ _ _) fun v18 s19 => ?_
        refine zq_6_0 ?_
        refine zr_61 hw rfl ?_
        refine zq_4_1 ?_
        refine zr_65 hw rfl rfl rfl ?_
        refine zq_47 ?_ ?_
        · refine zq_1 ?_
          refine zq_56 ?_
          exact zq_95 rfl
        · refine zq_1 ?_
          refine zq_57 ?_
          exact zq_95 rfl
      refine zq_57 ?_
      refine zq_1 ?_
      exact zq_95 rfl
    refine zq_1 ?_
    exact zq_95 rfl
/-! 242: EngraversHouseModel.areAlike:(II)Z -/
noncomputable def gM_areAlike_l2 : Nat → Int → Int → Int → zSg → Option (Int × zSg)
  | 0, _, _, _, _ => none
  | n + 1, x3, x4, x5, s6 =>
   yrd 4800 29 x3 s6 fun v7 =>
   if x5 < v7 then
     (yrd 38400 26 (zadd (zmul 8 x3) x5) s6 fun v8 =>
     yrd 38400 26 (zadd (zmul 8 x4) x5) s6 fun v9 =>
     if v8 = v9 then
       (yrd 38400 27 (zadd (zmul 8 x3) x5) s6 fun v10 =>
       yrd 38400 27 (zadd (zmul 8 x4) x5) s6 fun v11 =>
       if v10 = v11 then
         (yrd 38400 28 (zadd (zmul 8 x3) x5) s6 fun v12 =>
         yrd 38400 28 (zadd (zmul 8 x4) x5) s6 fun v13 =>
         if v12 = v13 then
           (yvl (zadd x5 1) fun v14 =>
           gM_areAlike_l2 n x3 x4 v14 s6)
         else
         some (0, s6))
       else
         (some (0, s6)))
     else
       (some (0, s6)))
   else
     (some (1, s6))
theorem gM_areAlike_l2_ok {E : Nat → Nat} {R : Nat} {h0 : zHp} (hw : zRg R h0) (d : Nat) : ∀ (n : Nat) (x3 : Int) (x4 : Int) (x5 : Int) (s6 : zSg), zE (zov R h0) Ji E (d + 0) 242 (zB 242 2) ([some (.inr (.inr R)), some (.inl x3), some (.inl x4), some (.inl x5)]) ([]) s6 (gM_areAlike_l2 n x3 x4 x5 s6) := by
  intro n
  induction n with
  | zero => intro x3 x4 x5 s6; exact zE_none
  | succ n ih =>
    intro x3 x4 x5 s6
    unfold gM_areAlike_l2
    refine zq_4_3 ?_
    refine zq_6_0 ?_
    refine zr_61 hw rfl ?_
    refine zq_4_1 ?_
    refine zr_65 hw rfl rfl rfl ?_
    refine zq_49 ?_ ?_
    · refine zq_6_0 ?_
      refine zr_61 hw rfl ?_
      refine zq_1 ?_
      refine zq_4_1 ?_
      refine zq_13 ?_
      refine zq_4_3 ?_
      refine zq_11 ?_
      refine zr_65 hw rfl rfl rfl ?_
      refine zq_6_0 ?_
      refine zr_61 hw rfl ?_
      refine zq_1 ?_
      refine zq_4_2 ?_
      refine zq_13 ?_
      refine zq_4_3 ?_
      refine zq_11 ?_
      refine zr_65 hw rfl rfl rfl ?_
      refine zq_47 ?_ ?_
      · refine zq_6_0 ?_
        refine zr_61 hw rfl ?_
        refine zq_1 ?_
        refine zq_4_1 ?_
        refine zq_13 ?_
        refine zq_4_3 ?_
        refine zq_11 ?_
        refine zr_65 hw rfl rfl rfl ?_
        refine zq_6_0 ?_
        refine zr_61 hw rfl ?_
        refine zq_1 ?_
        refine zq_4_2 ?_
        refine zq_13 ?_
        refine zq_4_3 ?_
        refine zq_11 ?_
        refine zr_65 hw rfl rfl rfl ?_
        refine zq_47 ?_ ?_
        · refine zq_6_0 ?_
          refine zr_61 hw rfl ?_
          refine zq_1 ?_
          refine zq_4_1 ?_
          refine zq_13 ?_
          refine zq_4_3 ?_
          refine zq_11 ?_
          refine zr_65 hw rfl rfl rfl ?_
          refine zq_6_0 ?_
          refine zr_61 hw rfl ?_
          refine zq_1 ?_
          refine zq_4_2 ?_
          refine zq_13 ?_
          refine zq_4_3 ?_
          refine zq_11 ?_
          refine zr_65 hw rfl rfl rfl ?_
          refine zq_46 ?_ ?_
          · refine zE_vl ?_
            refine zq_10_3 rfl ?_
            refine zq_56 ?_
            exact zE_w [true, true, true, true] (ih _ _ _ _)
          refine zq_57 ?_
          refine zq_1 ?_
          exact zq_96c (by decide)
        · refine zq_1 ?_
          exact zq_96c (by decide)
      · refine zq_1 ?_
        exact zq_96c (by decide)
    · refine zq_1 ?_
      exact zq_96c (by decide)
noncomputable def gM_areAlike (a1 : Int) (a2 : Int) (s : zSg) : Option (Int × zSg) :=
  yrd 4800 29 a1 s fun v1 =>
  yrd 4800 29 a2 s fun v2 =>
  if v1 = v2 then
    (gM_areAlike_l2 zFU a1 a2 0 s)
  else
  some (0, s)
theorem gM_areAlike_ok {E : Nat → Nat} {R : Nat} {h0 : zHp} (hw : zRg R h0) (d : Nat) (a1 : Int) (a2 : Int) (s : zSg) : zE (zov R h0) Ji E (d + 0) 242 (zB 242 0) (zent 4 [.inr (.inr R), .inl a1, .inl a2]) [] s (gM_areAlike a1 a2 s) := by
  show zE _ _ _ _ _ _ [some (.inr (.inr R)), some (.inl a1), some (.inl a2), none] _ _ _
  unfold gM_areAlike
  refine zq_6_0 ?_
  refine zr_61 hw rfl ?_
  refine zq_4_1 ?_
  refine zr_65 hw rfl rfl rfl ?_
  refine zq_6_0 ?_
  refine zr_61 hw rfl ?_
  refine zq_4_2 ?_
  refine zr_65 hw rfl rfl rfl ?_
  refine zq_46 ?_ ?_
  · refine zq_1 ?_
    refine zq_7_3 rfl ?_
    refine zq_57 ?_
    exact zE_w [true, true, true, true] (gM_areAlike_l2_ok (E := E) hw d zFU _ _ _ _)
  refine zq_1 ?_
  exact zq_96c (by decide)
/-! 243: EngraversHouseModel.changesOf:(III)I -/
noncomputable def gM_changesOf_l1 : Nat → Int → Int → Int → Int → Int → Int → zSg → (Int → Int → zSg → Option (Int × zSg)) → Option (Int × zSg)
  | 0, _, _, _, _, _, _, _, _ => none
  | n + 1, x1, x2, x3, x4, x5, x6, s7, k8 =>
   yjn (fun (x9 : Int) (x10 : Int) (x11 : Int) (x12 : Int) (x13 : Int) (x14 : Int) (s15 : zSg) =>
    yjn (fun (x17 : Int) (x18 : Int) (x19 : Int) (x20 : Int) (x21 : Int) (x22 : Int) (s23 : zSg) =>
     yvl (zadd x22 1) fun v25 =>
     gM_changesOf_l1 n x17 x18 x19 x20 x21 v25 s23 k8) fun q24 =>
     ybd (gM_hasBar x10 x11 x14 s15) fun v26 s27 =>
    if v26 = 0 then
      (q24 x9 x10 x11 x12 x13 x14 s27)
    else
    ybd (gM_barAt x10 x11 x14 s27) fun v28 s29 =>
    ywi 20 34 x13 v28 s29 fun s30 =>
    yvl (zadd x13 1) fun v31 =>
    q24 x9 x10 x11 x12 v31 x14 s30) fun q16 =>
    if x6 < 20 then
     (ybd (gM_hasBar x1 x3 x6 s7) fun v32 s33 =>
     if v32 = 0 then
       (q16 x1 x2 x3 x4 x5 x6 s33)
     else
     ybd (gM_barAt x1 x3 x6 s33) fun v34 s35 =>
     ywi 20 33 x4 v34 s35 fun s36 =>
     yvl (zadd x4 1) fun v37 =>
     q16 x1 x2 x3 v37 x5 x6 s36)
   else
     (k8 x4 x5 s7)
theorem gM_changesOf_l1_ok {E : Nat → Nat} {R : Nat} {h0 : zHp} (hw : zRg R h0) (d : Nat) : ∀ (n : Nat) (x1 : Int) (x2 : Int) (x3 : Int) (x4 : Int) (x5 : Int) (x6 : Int) (s7 : zSg) (k8 : Int → Int → zSg → Option (Int × zSg)) (hk8 : ∀ (y0 : Int) (y1 : Int) (s : zSg), zE (zov R h0) Ji E (d + 2) 243 (zB 243 4) ([some (.inr (.inr R)), none, none, none, some (.inl y0), some (.inl y1), none, none, none]) ([]) s (k8 y0 y1 s)), zE (zov R h0) Ji E (d + 2) 243 (zB 243 1) ([some (.inr (.inr R)), some (.inl x1), some (.inl x2), some (.inl x3), some (.inl x4), some (.inl x5), some (.inl x6), none, none]) ([]) s7 (gM_changesOf_l1 n x1 x2 x3 x4 x5 x6 s7 k8) := by
  intro n
  induction n with
  | zero => intro x1 x2 x3 x4 x5 x6 s7 k8 hk8; exact zE_none
  | succ n ih =>
    intro x1 x2 x3 x4 x5 x6 s7 k8 hk8
    unfold gM_changesOf_l1
    refine zE_jn (fun q16 => ∀ (y0 : Int) (y1 : Int) (y2 : Int) (y3 : Int) (y4 : Int) (y5 : Int) (s : zSg), zE (zov R h0) Ji E (d + 2) 243 (zB 243 2) ([some (.inr (.inr R)), some (.inl y0), some (.inl y1), some (.inl y2), some (.inl y3), some (.inl y4), some (.inl y5), none, none]) ([]) s (q16 y0 y1 y2 y3 y4 y5 s)) (fun x9 x10 x11 x12 x13 x14 s15 => ?_) (fun q16 hq16 => ?_)
    · refine zE_jn (fun q24 => ∀ (y0 : Int) (y1 : Int) (y2 : Int) (y3 : Int) (y4 : Int) (y5 : Int) (s : zSg), zE (zov R h0) Ji E (d + 2) 243 (zB 243 3) ([some (.inr (.inr R)), some (.inl y0), some (.inl y1), some (.inl y2), some (.inl y3), some (.inl y4), some (.inl y5), none, none]) ([]) s (q24 y0 y1 y2 y3 y4 y5 s)) (fun x17 x18 x19 x20 x21 x22 s23 => ?_) (fun q24 hq24 => ?_)
      · refine zE_vl ?_
        refine zq_10_6 rfl ?_
        refine zq_56 ?_
        exact zE_w [true, true, true, true, true, true, true, false, false] (ih _ _ _ _ _ _ _ _ hk8)
      refine zq_6_0 ?_
      refine zq_4_2 ?_
      refine zq_4_3 ?_
      refine zq_4_6 ?_
      refine zq_92_4i (zR_is hw) rfl rfl (gM_hasBar_ok (E := E) hw _ _ _ _ _) fun v26 s27 => ?_
      refine zq_40 ?_ ?_
      · exact zE_w [true, true, true, true, true, true, true, false, false] (hq24 _ _ _ _ _ _ _)
      refine zq_6_0 ?_
      refine zr_61 hw rfl ?_
      refine zq_4_5 ?_
      refine zq_6_0 ?_
      refine zq_4_2 ?_
      refine zq_4_3 ?_
      refine zq_4_6 ?_
      refine zq_92_4i (zR_is hw) rfl rfl (gM_barAt_ok (E := E) hw _ _ _ _ _) fun v28 s29 => ?_
      refine zr_68 hw rfl rfl rfl ?_
      refine zE_vl ?_
      refine zq_10_5 rfl ?_
      refine zq_57 ?_
      exact zE_w [true, true, true, true, true, true, true, false, false] (hq24 _ _ _ _ _ _ _)
    refine zq_4_6 ?_
    refine zq_1 ?_
    refine zq_49 ?_ ?_
    · refine zq_6_0 ?_
      refine zq_4_1 ?_
      refine zq_4_3 ?_
      refine zq_4_6 ?_
      refine zq_92_4i (zR_is hw) rfl rfl (gM_hasBar_ok (E := E) hw _ _ _ _ _) fun v32 s33 => ?_
      refine zq_40 ?_ ?_
      · exact zE_w [true, true, true, true, true, true, true, false, false] (hq16 _ _ _ _ _ _ _)
      refine zq_6_0 ?_
      refine zr_61 hw rfl ?_
      refine zq_4_4 ?_
      refine zq_6_0 ?_
      refine zq_4_1 ?_
      refine zq_4_3 ?_
      refine zq_4_6 ?_
      refine zq_92_4i (zR_is hw) rfl rfl (gM_barAt_ok (E := E) hw _ _ _ _ _) fun v34 s35 => ?_
      refine zr_68 hw rfl rfl rfl ?_
      refine zE_vl ?_
      refine zq_10_4 rfl ?_
      refine zq_57 ?_
      exact zE_w [true, true, true, true, true, true, true, false, false] (hq16 _ _ _ _ _ _ _)
    · exact zE_w [true, false, false, false, true, true, false, false, false] (hk8 _ _ _)
noncomputable def gM_changesOf_l6 : Nat → Int → Int → Int → Int → zSg → (Int → Int → Int → zSg → Option (Int × zSg)) → Option (Int × zSg)
  | 0, _, _, _, _, _, _ => none
  | n + 1, x46, x47, x48, x49, s50, k51 =>
   yjn (fun (x52 : Int) (x53 : Int) (x54 : Int) (x55 : Int) (x56 : Int) (s57 : zSg) =>
    yjn (fun (x59 : Int) (x60 : Int) (x61 : Int) (x62 : Int) (x63 : Int) (s64 : zSg) =>
     ywi 441 35 (zadd (zmul 21 x61) x62) x63 s64 fun s66 =>
     yvl (zadd x62 1) fun v67 =>
     gM_changesOf_l6 n x59 x60 x61 v67 s66 k51) fun q65 =>
     yjn (fun (x68 : Int) (x69 : Int) (x70 : Int) (x71 : Int) (x72 : Int) (s73 : zSg) =>
     yrd 441 35 (zsub (zadd (zmul 21 x70) x71) 1) s73 fun v75 =>
     if (zadd v75 1) < x72 then
       (yrd 441 35 (zsub (zadd (zmul 21 x70) x71) 1) s73 fun v76 =>
       yvl (zadd v76 1) fun v77 =>
       q65 x68 x69 x70 x71 v77 s73)
     else
       (q65 x68 x69 x70 x71 x72 s73)) fun q74 =>
     if 0 < x54 then
      (if 0 < x55 then
        (yrd 441 35 (zadd (zmul 21 (zsub x54 1)) x55) s57 fun v78 =>
        if (zadd v78 1) < x56 then
          (yrd 441 35 (zadd (zmul 21 (zsub x54 1)) x55) s57 fun v79 =>
          yvl (zadd v79 1) fun v80 =>
          q74 x52 x53 x54 x55 v80 s57)
        else
          (q74 x52 x53 x54 x55 x56 s57))
      else
        (q65 x52 x53 x54 x55 x56 s57))
    else
      (q65 x52 x53 x54 x55 x56 s57)) fun q58 =>
    if x47 < x49 then
     (k51 x46 x47 x48 s50)
   else
   if x48 = 0 then
     (q58 x46 x47 x48 x49 x49 s50)
   else
     (if x49 = 0 then
       (q58 x46 x47 x48 x49 x48 s50)
     else
       (yjn (fun (x81 : Int) (x82 : Int) (x83 : Int) (x84 : Int) (x85 : Int) (x86 : Int) (s87 : zSg) =>
        q58 x81 x82 x83 x84 (zadd x85 x86) s87) fun q88 =>
        yrd 441 35 (zsub (zadd (zmul 21 (zsub x48 1)) x49) 1) s50 fun v89 =>
       yrd 20 33 (zsub x48 1) s50 fun v90 =>
       yrd 20 34 (zsub x49 1) s50 fun v91 =>
       ybd (gM_areAlike v90 v91 s50) fun v92 s93 =>
       if v92 = 0 then
         (q88 x46 x47 x48 x49 v89 1 s93)
       else
       q88 x46 x47 x48 x49 v89 0 s93))
theorem gM_changesOf_l6_ok {E : Nat → Nat} {R : Nat} {h0 : zHp} (hw : zRg R h0) (d : Nat) : ∀ (n : Nat) (x46 : Int) (x47 : Int) (x48 : Int) (x49 : Int) (s50 : zSg) (k51 : Int → Int → Int → zSg → Option (Int × zSg)) (hk51 : ∀ (y0 : Int) (y1 : Int) (y2 : Int) (s : zSg), zE (zov R h0) Ji E (d + 2) 243 (zB 243 14) ([some (.inr (.inr R)), none, none, none, some (.inl y0), some (.inl y1), some (.inl y2), none, none]) ([]) s (k51 y0 y1 y2 s)), zE (zov R h0) Ji E (d + 2) 243 (zB 243 6) ([some (.inr (.inr R)), none, none, none, some (.inl x46), some (.inl x47), some (.inl x48), some (.inl x49), none]) ([]) s50 (gM_changesOf_l6 n x46 x47 x48 x49 s50 k51) := by
  intro n
  induction n with
  | zero => intro x46 x47 x48 x49 s50 k51 hk51; exact zE_none
  | succ n ih =>
    intro x46 x47 x48 x49 s50 k51 hk51
    unfold gM_changesOf_l6
    refine zE_jn (fun q58 => ∀ (y0 : Int) (y1 : Int) (y2 : Int) (y3 : Int) (y4 : Int) (s : zSg), zE (zov R h0) Ji E (d + 2) 243 (zB 243 11) ([some (.inr (.inr R)), none, none, none, some (.inl y0), some (.inl y1), some (.inl y2), some (.inl y3), none]) ([.inl y4]) s (q58 y0 y1 y2 y3 y4 s)) (fun x52 x53 x54 x55 x56 s57 => ?_) (fun q58 hq58 => ?_)
    · refine zE_jn (fun q65 => ∀ (y0 : Int) (y1 : Int) (y2 : Int) (y3 : Int) (y4 : Int) (s : zSg), zE (zov R h0) Ji E (d + 2) 243 (zB 243 13) ([some (.inr (.inr R)), none, none, none, some (.inl y0), some (.inl y1), some (.inl y2), some (.inl y3), some (.inl y4)]) ([]) s (q65 y0 y1 y2 y3 y4 s)) (fun x59 x60 x61 x62 x63 s64 => ?_) (fun q65 hq65 => ?_)
      · refine zq_6_0 ?_
        refine zr_61 hw rfl ?_
        refine zq_1 ?_
        refine zq_4_6 ?_
        refine zq_13 ?_
        refine zq_4_7 ?_
        refine zq_11 ?_
        refine zq_4_8 ?_
        refine zr_68 hw rfl rfl rfl ?_
        refine zE_vl ?_
        refine zq_10_7 rfl ?_
        refine zq_56 ?_
        exact zE_w [true, false, false, false, true, true, true, true, false] (ih _ _ _ _ _ _ hk51)
      refine zE_jn (fun q74 => ∀ (y0 : Int) (y1 : Int) (y2 : Int) (y3 : Int) (y4 : Int) (s : zSg), zE (zov R h0) Ji E (d + 2) 243 (zB 243 12) ([some (.inr (.inr R)), none, none, none, some (.inl y0), some (.inl y1), some (.inl y2), some (.inl y3), some (.inl y4)]) ([]) s (q74 y0 y1 y2 y3 y4 s)) (fun x68 x69 x70 x71 x72 s73 => ?_) (fun q74 hq74 => ?_)
      · refine zq_6_0 ?_
        refine zr_61 hw rfl ?_
        refine zq_1 ?_
        refine zq_4_6 ?_
        refine zq_13 ?_
        refine zq_4_7 ?_
        refine zq_11 ?_
        refine zq_1 ?_
        refine zq_12 ?_
        refine zr_65 hw rfl rfl rfl ?_
        refine zq_1 ?_
        refine zq_11 ?_
        refine zq_4_8 ?_
        refine zq_49 ?_ ?_
        · refine zq_6_0 ?_
          refine zr_61 hw rfl ?_
          refine zq_1 ?_
          refine zq_4_6 ?_
          refine zq_13 ?_
          refine zq_4_7 ?_
          refine zq_11 ?_
          refine zq_1 ?_
          refine zq_12 ?_
          refine zr_65 hw rfl rfl rfl ?_
          refine zq_1 ?_
          refine zq_11 ?_
          refine zE_vl ?_
          refine zq_7_8 rfl ?_
          refine zq_57 ?_
          exact zE_w [true, false, false, false, true, true, true, true, true] (hq65 _ _ _ _ _ _)
        · exact zE_w [true, false, false, false, true, true, true, true, true] (hq65 _ _ _ _ _ _)
      refine zq_7_8 rfl ?_
      refine zq_4_6 ?_
      refine zq_45 ?_ ?_
      · refine zq_4_7 ?_
        refine zq_45 ?_ ?_
        · refine zq_6_0 ?_
          refine zr_61 hw rfl ?_
          refine zq_1 ?_
          refine zq_4_6 ?_
          refine zq_1 ?_
          refine zq_12 ?_
          refine zq_13 ?_
          refine zq_4_7 ?_
          refine zq_11 ?_
          refine zr_65 hw rfl rfl rfl ?_
          refine zq_1 ?_
          refine zq_11 ?_
          refine zq_4_8 ?_
          refine zq_49 ?_ ?_
          · refine zq_6_0 ?_
            refine zr_61 hw rfl ?_
            refine zq_1 ?_
            refine zq_4_6 ?_
            refine zq_1 ?_
            refine zq_12 ?_
            refine zq_13 ?_
            refine zq_4_7 ?_
            refine zq_11 ?_
            refine zr_65 hw rfl rfl rfl ?_
            refine zq_1 ?_
            refine zq_11 ?_
            refine zE_vl ?_
            refine zq_7_8 rfl ?_
            refine zq_57 ?_
            exact zE_w [true, false, false, false, true, true, true, true, true] (hq74 _ _ _ _ _ _)
          · exact zE_w [true, false, false, false, true, true, true, true, true] (hq74 _ _ _ _ _ _)
        · exact zE_w [true, false, false, false, true, true, true, true, true] (hq65 _ _ _ _ _ _)
      · exact zE_w [true, false, false, false, true, true, true, true, true] (hq65 _ _ _ _ _ _)
    refine zq_4_7 ?_
    refine zq_4_5 ?_
    refine zq_50 ?_ ?_
    · exact zE_w [true, false, false, false, true, true, true, false, false] (hk51 _ _ _ _)
    refine zq_4_6 ?_
    refine zq_41 ?_ ?_
    · refine zq_4_7 ?_
      refine zq_56 ?_
      exact zE_w [true, false, false, false, true, true, true, true, false] (hq58 _ _ _ _ _ _)
    · refine zq_4_7 ?_
      refine zq_41 ?_ ?_
      · refine zq_4_6 ?_
        refine zq_56 ?_
        exact zE_w [true, false, false, false, true, true, true, true, false] (hq58 _ _ _ _ _ _)
      · refine zE_jn (fun q88 => ∀ (y0 : Int) (y1 : Int) (y2 : Int) (y3 : Int) (y4 : Int) (y5 : Int) (s : zSg), zE (zov R h0) Ji E (d + 2) 243 (zB 243 10) ([some (.inr (.inr R)), none, none, none, some (.inl y0), some (.inl y1), some (.inl y2), some (.inl y3), none]) ([.inl y5, .inl y4]) s (q88 y0 y1 y2 y3 y4 y5 s)) (fun x81 x82 x83 x84 x85 x86 s87 => ?_) (fun q88 hq88 => ?_)
        · refine zq_11 ?_
          refine zq_57 ?_
          exact zE_w [true, false, false, false, true, true, true, true, false] (hq58 _ _ _ _ _ _)
        refine zq_6_0 ?_
        refine zr_61 hw rfl ?_
        refine zq_1 ?_
        refine zq_4_6 ?_
        refine zq_1 ?_
        refine zq_12 ?_
        refine zq_13 ?_
        refine zq_4_7 ?_
        refine zq_11 ?_
        refine zq_1 ?_
        refine zq_12 ?_
        refine zr_65 hw rfl rfl rfl ?_
        refine zq_6_0 ?_
        refine zq_6_0 ?_
        refine zr_61 hw rfl ?_
        refine zq_4_6 ?_
        refine zq_1 ?_
        refine zq_12 ?_
        refine zr_65 hw rfl rfl rfl ?_
        refine zq_6_0 ?_
        refine zr_61 hw rfl ?_
        refine zq_4_7 ?_
        refine zq_1 ?_
        refine zq_12 ?_
        refine zr_65 hw rfl rfl rfl ?_
        refine zq_92_3i (zR_is hw) rfl rfl (gM_areAlike_ok (E := E) hw _ _ _ _) fun v92 s93 => ?_
        refine zq_40 ?_ ?_
        · refine zq_1 ?_
          refine zq_57 ?_
          exact zE_w [true, false, false, false, true, true, true, true, false] (hq88 _ _ _ _ _ _ _)
        refine zq_1 ?_
        refine zq_56 ?_
        exact zE_w [true, false, false, false, true, true, true, true, false] (hq88 _ _ _ _ _ _ _)
noncomputable def gM_changesOf_l5 : Nat → Int → Int → Int → zSg → (Int → Int → zSg → Option (Int × zSg)) → Option (Int × zSg)
  | 0, _, _, _, _, _ => none
  | n + 1, x41, x42, x43, s44, k45 =>
   if x41 < x43 then
     (k45 x41 x42 s44)
   else
   gM_changesOf_l6 zFU x41 x42 x43 0 s44 (fun (x94 : Int) (x95 : Int) (x96 : Int) (s97 : zSg) =>
    yvl (zadd x96 1) fun v98 =>
    gM_changesOf_l5 n x94 x95 v98 s97 k45)
theorem gM_changesOf_l5_ok {E : Nat → Nat} {R : Nat} {h0 : zHp} (hw : zRg R h0) (d : Nat) : ∀ (n : Nat) (x41 : Int) (x42 : Int) (x43 : Int) (s44 : zSg) (k45 : Int → Int → zSg → Option (Int × zSg)) (hk45 : ∀ (y0 : Int) (y1 : Int) (s : zSg), zE (zov R h0) Ji E (d + 2) 243 (zB 243 15) ([some (.inr (.inr R)), none, none, none, some (.inl y0), some (.inl y1), none, none, none]) ([]) s (k45 y0 y1 s)), zE (zov R h0) Ji E (d + 2) 243 (zB 243 5) ([some (.inr (.inr R)), none, none, none, some (.inl x41), some (.inl x42), some (.inl x43), none, none]) ([]) s44 (gM_changesOf_l5 n x41 x42 x43 s44 k45) := by
  intro n
  induction n with
  | zero => intro x41 x42 x43 s44 k45 hk45; exact zE_none
  | succ n ih =>
    intro x41 x42 x43 s44 k45 hk45
    unfold gM_changesOf_l5
    refine zq_4_6 ?_
    refine zq_4_4 ?_
    refine zq_50 ?_ ?_
    · exact zE_w [true, false, false, false, true, true, false, false, false] (hk45 _ _ _)
    refine zq_1 ?_
    refine zq_7_7 rfl ?_
    refine zq_57 ?_
    refine zE_w [true, false, false, false, true, true, true, true, false] (gM_changesOf_l6_ok (E := E) hw d zFU _ _ _ _ _ _ (fun x94 x95 x96 s97 => ?_))
    refine zE_vl ?_
    refine zq_10_6 rfl ?_
    refine zq_56 ?_
    exact zE_w [true, false, false, false, true, true, true, false, false] (ih _ _ _ _ _ hk45)
noncomputable def gM_changesOf (a1 : Int) (a2 : Int) (a3 : Int) (s : zSg) : Option (Int × zSg) :=
  gM_changesOf_l1 zFU a1 a2 a3 0 0 0 s (fun (x38 : Int) (x39 : Int) (s40 : zSg) =>
   gM_changesOf_l5 zFU x38 x39 0 s40 (fun (x99 : Int) (x100 : Int) (s101 : zSg) =>
    yrd 441 35 (zadd (zmul 21 x99) x100) s101 fun v102 =>
    some (v102, s101)))
theorem gM_changesOf_ok {E : Nat → Nat} {R : Nat} {h0 : zHp} (hw : zRg R h0) (d : Nat) (a1 : Int) (a2 : Int) (a3 : Int) (s : zSg) : zE (zov R h0) Ji E (d + 2) 243 (zB 243 0) (zent 9 [.inr (.inr R), .inl a1, .inl a2, .inl a3]) [] s (gM_changesOf a1 a2 a3 s) := by
  show zE _ _ _ _ _ _ [some (.inr (.inr R)), some (.inl a1), some (.inl a2), some (.inl a3), none, none, none, none, none] _ _ _
  unfold gM_changesOf
  refine zq_1 ?_
  refine zq_7_4 rfl ?_
  refine zq_1 ?_
  refine zq_7_5 rfl ?_
  refine zq_1 ?_
  refine zq_7_6 rfl ?_
  refine zq_57 ?_
  refine zE_w [true, true, true, true, true, true, true, false, false] (gM_changesOf_l1_ok (E := E) hw d zFU _ _ _ _ _ _ _ _ (fun x38 x39 s40 => ?_))
  refine zq_1 ?_
  refine zq_7_6 rfl ?_
  refine zq_57 ?_
  refine zE_w [true, false, false, false, true, true, true, false, false] (gM_changesOf_l5_ok (E := E) hw d zFU _ _ _ _ _ (fun x99 x100 s101 => ?_))
  refine zq_6_0 ?_
  refine zr_61 hw rfl ?_
  refine zq_1 ?_
  refine zq_4_4 ?_
  refine zq_13 ?_
  refine zq_4_5 ?_
  refine zq_11 ?_
  refine zr_65 hw rfl rfl rfl ?_
  exact zq_95 rfl
/-! 244: EngraversHouseModel.distance:(II)I -/
noncomputable def gM_distance_l1 : Nat → Int → Int → Int → Int → zSg → Option (Int × zSg)
  | 0, _, _, _, _, _ => none
  | n + 1, x1, x2, x3, x4, s5 =>
   if x4 < 4 then
     (ybd (gM_changesOf x1 x2 x4 s5) fun v6 s7 =>
     yvl (zadd x3 v6) fun v8 =>
     yvl (zadd x4 1) fun v9 =>
     gM_distance_l1 n x1 x2 v8 v9 s7)
   else
     (some (x3, s5))
theorem gM_distance_l1_ok {E : Nat → Nat} {R : Nat} {h0 : zHp} (hw : zRg R h0) (d : Nat) : ∀ (n : Nat) (x1 : Int) (x2 : Int) (x3 : Int) (x4 : Int) (s5 : zSg), zE (zov R h0) Ji E (d + 3) 244 (zB 244 1) ([some (.inr (.inr R)), some (.inl x1), some (.inl x2), some (.inl x3), some (.inl x4)]) ([]) s5 (gM_distance_l1 n x1 x2 x3 x4 s5) := by
  intro n
  induction n with
  | zero => intro x1 x2 x3 x4 s5; exact zE_none
  | succ n ih =>
    intro x1 x2 x3 x4 s5
    unfold gM_distance_l1
    refine zq_4_4 ?_
    refine zq_1 ?_
    refine zq_49 ?_ ?_
    · refine zq_4_3 ?_
      refine zq_6_0 ?_
      refine zq_4_1 ?_
      refine zq_4_2 ?_
      refine zq_4_4 ?_
      refine zq_92_4i (zR_is hw) rfl rfl (gM_changesOf_ok (E := E) hw _ _ _ _ _) fun v6 s7 => ?_
      refine zq_11 ?_
      refine zE_vl ?_
      refine zq_7_3 rfl ?_
      refine zE_vl ?_
      refine zq_10_4 rfl ?_
      refine zq_56 ?_
      exact zE_w [true, true, true, true, true] (ih _ _ _ _ _)
    · refine zq_4_3 ?_
      exact zq_95 rfl
noncomputable def gM_distance (a1 : Int) (a2 : Int) (s : zSg) : Option (Int × zSg) :=
  gM_distance_l1 zFU a1 a2 0 0 s
theorem gM_distance_ok {E : Nat → Nat} {R : Nat} {h0 : zHp} (hw : zRg R h0) (d : Nat) (a1 : Int) (a2 : Int) (s : zSg) : zE (zov R h0) Ji E (d + 3) 244 (zB 244 0) (zent 5 [.inr (.inr R), .inl a1, .inl a2]) [] s (gM_distance a1 a2 s) := by
  show zE _ _ _ _ _ _ [some (.inr (.inr R)), some (.inl a1), some (.inl a2), none, none] _ _ _
  unfold gM_distance
  refine zq_1 ?_
  refine zq_7_3 rfl ?_
  refine zq_1 ?_
  refine zq_7_4 rfl ?_
  refine zq_57 ?_
  exact zE_w [true, true, true, true, true] (gM_distance_l1_ok (E := E) hw d zFU _ _ _ _ _)
