/-! 53: EngraversHouse.isTape:(I)Z -/
noncomputable def fH_isTape (a0 : Int) (s : zHp) : Option (Int × zHp) :=
  ybd (fH_within a0 0 5 s) fun v1 s2 =>
  yrb v1 s2
theorem fH_isTape_ok {E : Nat → Nat} (d : Nat) (a0 : Int) (s : zHp) : zE zI Ji E (d + 1) 53 (zB 53 0) (zent 1 [.inl a0]) [] s (fH_isTape a0 s) := by
  show zE _ _ _ _ _ _ [some (.inl a0)] _ _ _
  unfold fH_isTape
  refine zq_4_0 ?_
  refine zq_1 ?_
  refine zq_1 ?_
  refine zq_90_3i rfl rfl (fH_within_ok (E := E) _ _ _ _ _) fun v1 s2 => ?_
  exact zq_96
/-! 54: EngraversHouse.hasStretch:(IJJ)Z -/
noncomputable def fH_hasStretch (a0 : Nat) (a1 : Int) (a2 : Int) (a3 : Int) (s : zHp) : Option (Int × zHp) :=
  ybd (fH_isTape a1 s) fun v1 s2 =>
  if v1 = 0 then
    (some (0, s2))
  else
  if (zlcmp a2 0) < 0 then
    (some (0, s2))
  else
  if (zlcmp a3 0) < 0 then
    (some (0, s2))
  else
  ygr 10 17 a0 s2 fun p3 =>
  yai p3 a1 s2 fun v4 =>
  if 0 < (zlcmp (zladd a2 a3) (zi2l v4)) then
    (some (0, s2))
  else
  some (1, s2)
theorem fH_hasStretch_ok {E : Nat → Nat} (d : Nat) (a0 : Nat) (a1 : Int) (a2 : Int) (a3 : Int) (s : zHp) : zE zI Ji E (d + 2) 54 (zB 54 0) (zent 6 [.inr (.inr a0), .inl a1, .inr (.inl a2), .inr (.inl a3)]) [] s (fH_hasStretch a0 a1 a2 a3 s) := by
  show zE _ _ _ _ _ _ [some (.inr (.inr a0)), some (.inl a1), some (.inr (.inl a2)), none, some (.inr (.inl a3)), none] _ _ _
  unfold fH_hasStretch
  refine zq_4_1 ?_
  refine zq_90_1i rfl rfl (fH_isTape_ok (E := E) _ _ _) fun v1 s2 => ?_
  refine zq_40 ?_ ?_
  · refine zq_1 ?_
    refine zq_57 ?_
    exact zq_96c (by decide)
  refine zq_5_2 ?_
  refine zq_2 ?_
  refine zq_31 ?_
  refine zq_42 ?_ ?_
  · refine zq_1 ?_
    refine zq_57 ?_
    exact zq_96c (by decide)
  refine zq_5_4 ?_
  refine zq_2 ?_
  refine zq_31 ?_
  refine zq_42 ?_ ?_
  · refine zq_1 ?_
    refine zq_57 ?_
    exact zq_96c (by decide)
  refine zq_5_2 ?_
  refine zq_5_4 ?_
  refine zq_28 ?_
  refine zq_6_0 ?_
  refine zh_61 ?_
  refine zq_4_1 ?_
  refine zh_65 ?_
  refine zq_23 ?_
  refine zq_31 ?_
  refine zq_44 ?_ ?_
  · refine zq_1 ?_
    refine zq_57 ?_
    exact zq_96c (by decide)
  refine zq_1 ?_
  refine zq_56 ?_
  exact zq_96c (by decide)
/-! 55: EngraversHouse.takeFromTape:(LEngraversHouse$Score;IIJ)I -/
noncomputable def fH_takeFromTape (a0 : Nat) (a1 : Nat) (a2 : Int) (a3 : Int) (a4 : Int) (s : zHp) : Option (Int × zHp) :=
  yck 10 a0 s <| ybd (fH_hasStretch a0 a3 a4 1 s) fun v1 s2 =>
  if v1 = 0 then
    (some (1, s2))
  else
    (ygr 10 15 a0 s2 fun p3 =>
    yar p3 a3 s2 fun p4 =>
    yai p4 (zl2i a4) s2 fun v5 =>
    yvl (zdiv v5 100) fun v6 =>
    yvl (zdiv (zrem v5 100) 2) fun v7 =>
    yvl (zand v5 1) fun v8 =>
    ybd (fH_isNote v6 v7 v8 s2) fun v9 s10 =>
    if v9 = 0 then
      (some (2, s10))
    else
      (ybd (fH_noteCode v6 v7 v8 s10) fun v11 s12 =>
      yck 8 a1 s12 <| ybd (fScore_takeNote a1 a2 v11 s12) fun v13 s14 =>
      if v13 = (-4) then
        (some (3, s14))
      else
        (if v13 = (-3) then
          (some (2, s14))
        else
          (some (0, s14)))))
theorem fH_takeFromTape_ok {E : Nat → Nat} (d : Nat) (a0 : Nat) (a1 : Nat) (a2 : Int) (a3 : Int) (a4 : Int) (s : zHp) : zE zI Ji E (d + 4) 55 (zB 55 0) (zent 11 [.inr (.inr a0), .inr (.inr a1), .inl a2, .inl a3, .inr (.inl a4)]) [] s (fH_takeFromTape a0 a1 a2 a3 a4 s) := by
  show zE _ _ _ _ _ _ [some (.inr (.inr a0)), some (.inr (.inr a1)), some (.inl a2), some (.inl a3), some (.inr (.inl a4)), none, none, none, none, none, none] _ _ _
  unfold fH_takeFromTape
  refine zq_6_0 ?_
  refine zq_4_3 ?_
  refine zq_5_4 ?_
  refine zq_2 ?_
  refine zE_g fun hg => ?_
  refine zq_92_4i hg rfl rfl (fH_hasStretch_ok (E := E) _ _ _ _ _ _) fun v1 s2 => ?_
  refine zq_41 ?_ ?_
  · refine zq_1 ?_
    exact zq_95 rfl
  · refine zq_6_0 ?_
    refine zh_61 ?_
    refine zq_4_3 ?_
    refine zh_67 ?_
    refine zq_5_4 ?_
    refine zq_24 ?_
    refine zh_65 ?_
    refine zq_7_6 rfl ?_
    refine zq_4_6 ?_
    refine zq_1 ?_
    refine zq_14c (by decide) ?_
    refine zE_vl ?_
    refine zq_7_7 rfl ?_
    refine zq_4_6 ?_
    refine zq_1 ?_
    refine zq_15c (by decide) ?_
    refine zq_1 ?_
    refine zq_14c (by decide) ?_
    refine zE_vl ?_
    refine zq_7_8 rfl ?_
    refine zq_4_6 ?_
    refine zq_1 ?_
    refine zq_20 ?_
    refine zE_vl ?_
    refine zq_7_9 rfl ?_
    refine zq_4_7 ?_
    refine zq_4_8 ?_
    refine zq_4_9 ?_
    refine zq_90_3i rfl rfl (fH_isNote_ok (E := E) _ _ _ _ _) fun v9 s10 => ?_
    refine zq_41 ?_ ?_
    · refine zq_1 ?_
      exact zq_95 rfl
    · refine zq_6_1 ?_
      refine zq_4_2 ?_
      refine zq_4_7 ?_
      refine zq_4_8 ?_
      refine zq_4_9 ?_
      refine zq_90_3i rfl rfl (fH_noteCode_ok (E := E) _ _ _ _ _) fun v11 s12 => ?_
      refine zE_g fun hg => ?_
      refine zq_92_3i hg rfl rfl (fScore_takeNote_ok (E := E) _ _ _ _ _) fun v13 s14 => ?_
      refine zq_7_10 rfl ?_
      refine zq_4_10 ?_
      refine zq_1 ?_
      refine zq_47 ?_ ?_
      · refine zq_1 ?_
        exact zq_95 rfl
      · refine zq_4_10 ?_
        refine zq_1 ?_
        refine zq_47 ?_ ?_
        · refine zq_1 ?_
          refine zq_56 ?_
          exact zq_95 rfl
        · refine zq_1 ?_
          refine zq_57 ?_
          exact zq_95 rfl
/-! 56: EngraversHouse.music:(IIIII)I -/
noncomputable def fH_music_l7 : Nat → Nat → Int → Int → Int → Int → Nat → Int → zHp → Option (Int × zHp)
  | 0, _, _, _, _, _, _, _, _ => none
  | n + 1, x20, x21, x22, x23, x24, x25, x26, s27 =>
   if x26 < x24 then
     (ygi 10 5 x20 s27 fun v28 =>
     if v28 = 0 then
       (yck 10 x20 s27 <| ybd (fH_takeFromTape x20 x25 x21 x22 (zladd (zi2l x23) (zi2l x26)) s27) fun v29 s30 =>
       ypi 10 5 x20 v29 s30 fun s31 =>
       ygi 10 5 x20 s31 fun v32 =>
       if v32 = 0 then
         (yvl (zadd x26 1) fun v33 =>
         fH_music_l7 n x20 x21 x22 x23 x24 x25 v33 s31)
       else
         (fH_music_l7 n x20 x21 x22 x23 x24 x25 x26 s31))
     else
       (some (x26, s27)))
   else
     (some (x26, s27))
theorem fH_music_l7_ok {E : Nat → Nat} (d : Nat) : ∀ (n : Nat) (x20 : Nat) (x21 : Int) (x22 : Int) (x23 : Int) (x24 : Int) (x25 : Nat) (x26 : Int) (s27 : zHp), zE zI Ji E (d + 5) 56 (zB 56 7) ([some (.inr (.inr x20)), none, some (.inl x21), some (.inl x22), some (.inl x23), some (.inl x24), some (.inr (.inr x25)), some (.inl x26)]) ([]) s27 (fH_music_l7 n x20 x21 x22 x23 x24 x25 x26 s27) := by
  intro n
  induction n with
  | zero => intro x20 x21 x22 x23 x24 x25 x26 s27; exact zE_none
  | succ n ih =>
    intro x20 x21 x22 x23 x24 x25 x26 s27
    unfold fH_music_l7
    refine zq_4_7 ?_
    refine zq_4_5 ?_
    refine zq_49 ?_ ?_
    · refine zq_6_0 ?_
      refine zh_60 ?_
      refine zq_41 ?_ ?_
      · refine zq_6_0 ?_
        refine zq_6_0 ?_
        refine zq_6_6 ?_
        refine zq_4_2 ?_
        refine zq_4_3 ?_
        refine zq_4_4 ?_
        refine zq_23 ?_
        refine zq_4_7 ?_
        refine zq_23 ?_
        refine zq_28 ?_
        refine zE_g fun hg => ?_
        refine zq_92_5i hg rfl rfl (fH_takeFromTape_ok (E := E) _ _ _ _ _ _ _) fun v29 s30 => ?_
        refine zh_62 ?_
        refine zq_6_0 ?_
        refine zh_60 ?_
        refine zq_41 ?_ ?_
        · refine zE_vl ?_
          refine zq_10_7 rfl ?_
          refine zq_56 ?_
          exact zE_w [true, false, true, true, true, true, true, true] (ih _ _ _ _ _ _ _ _)
        · exact zE_w [true, false, true, true, true, true, true, true] (ih _ _ _ _ _ _ _ _)
      · refine zq_4_7 ?_
        exact zq_95 rfl
    · refine zq_4_7 ?_
      exact zq_95 rfl
noncomputable def fH_music (a0 : Nat) (a1 : Int) (a2 : Int) (a3 : Int) (a4 : Int) (a5 : Int) (s : zHp) : Option (Int × zHp) :=
  yck 10 a0 s <| ybd (fH_thingAt a0 a1 s) fun p1 s2 =>
  if p1 = 0 then
    (some ((-1), s2))
  else
  ybd (fH_isTape a3 s2) fun v3 s4 =>
  if v3 = 0 then
    (some ((-1), s4))
  else
    (yck 10 a0 s4 <| ybd (fH_scoreAt a0 a1 s4) fun p5 s6 =>
    if p5 = 0 then
      (some ((-12), s6))
    else
      (yck 8 p5 s6 <| ybd (fScore_hasVoice p5 a2 s6) fun v7 s8 =>
      if v7 = 0 then
        (some ((-1), s8))
      else
        (ybd (fH_within a5 1 60 s8) fun v9 s10 =>
        if v9 = 0 then
          (some ((-2), s10))
        else
          (yjn (fun (x11 : Nat) (x12 : Int) (x13 : Int) (x14 : Int) (x15 : Int) (x16 : Nat) (s17 : zHp) =>
           ypi 10 5 x11 0 s17 fun s19 =>
           fH_music_l7 zFU x11 x12 x13 x14 x15 x16 0 s19) fun q18 =>
           ygr 10 16 a0 s10 fun p34 =>
          yai p34 a3 s10 fun v35 =>
          if v35 = (-1) then
            (q18 a0 a2 a3 a4 a5 p5 s10)
          else
          ygr 10 16 a0 s10 fun p36 =>
          yai p36 a3 s10 fun v37 =>
          if v37 = 1 then
            (q18 a0 a2 a3 a4 a5 p5 s10)
          else
          some ((-12), s10)))))
theorem fH_music_ok {E : Nat → Nat} (d : Nat) (a0 : Nat) (a1 : Int) (a2 : Int) (a3 : Int) (a4 : Int) (a5 : Int) (s : zHp) : zE zI Ji E (d + 5) 56 (zB 56 0) (zent 8 [.inr (.inr a0), .inl a1, .inl a2, .inl a3, .inl a4, .inl a5]) [] s (fH_music a0 a1 a2 a3 a4 a5 s) := by
  show zE _ _ _ _ _ _ [some (.inr (.inr a0)), some (.inl a1), some (.inl a2), some (.inl a3), some (.inl a4), some (.inl a5), none, none] _ _ _
  unfold fH_music
  refine zq_6_0 ?_
  refine zq_4_1 ?_
  refine zE_g fun hg => ?_
  refine zq_92_2r hg rfl rfl (fH_thingAt_ok (E := E) _ _ _ _) fun p1 s2 => ?_
  refine zq_54 ?_ ?_
  · refine zq_1 ?_
    exact zq_95 rfl
  refine zq_4_3 ?_
  refine zq_90_1i rfl rfl (fH_isTape_ok (E := E) _ _ _) fun v3 s4 => ?_
  refine zq_41 ?_ ?_
  · refine zq_57 ?_
    refine zq_1 ?_
    exact zq_95 rfl
  · refine zq_6_0 ?_
    refine zq_4_1 ?_
    refine zE_g fun hg => ?_
    refine zq_92_2r hg rfl rfl (fH_scoreAt_ok (E := E) _ _ _ _) fun p5 s6 => ?_
    refine zq_9_6 rfl ?_
    refine zq_6_6 ?_
    refine zq_55 ?_ ?_
    · refine zq_1 ?_
      exact zq_95 rfl
    · refine zq_6_6 ?_
      refine zq_4_2 ?_
      refine zE_g fun hg => ?_
      refine zq_92_2i hg rfl rfl (fScore_hasVoice_ok (E := E) _ _ _ _) fun v7 s8 => ?_
      refine zq_41 ?_ ?_
      · refine zq_1 ?_
        exact zq_95 rfl
      · refine zq_4_5 ?_
        refine zq_1 ?_
        refine zq_1 ?_
        refine zq_90_3i rfl rfl (fH_within_ok (E := E) _ _ _ _ _) fun v9 s10 => ?_
        refine zq_41 ?_ ?_
        · refine zq_1 ?_
          exact zq_95 rfl
        · refine zE_jn (fun q18 => ∀ (y0 : Nat) (y1 : Int) (y2 : Int) (y3 : Int) (y4 : Int) (y5 : Nat) (s : zHp), zE zI Ji E (d + 5) 56 (zB 56 6) ([some (.inr (.inr y0)), none, some (.inl y1), some (.inl y2), some (.inl y3), some (.inl y4), some (.inr (.inr y5)), none]) ([]) s (q18 y0 y1 y2 y3 y4 y5 s)) (fun x11 x12 x13 x14 x15 x16 s17 => ?_) (fun q18 hq18 => ?_)
          · refine zq_1 ?_
            refine zq_7_7 rfl ?_
            refine zq_6_0 ?_
            refine zq_1 ?_
            refine zh_62 ?_
            refine zq_57 ?_
            exact zE_w [true, false, true, true, true, true, true, true] (fH_music_l7_ok (E := E) d zFU _ _ _ _ _ _ _ _)
          refine zq_6_0 ?_
          refine zh_61 ?_
          refine zq_4_3 ?_
          refine zh_65 ?_
          refine zq_1 ?_
          refine zq_46 ?_ ?_
          · exact zE_w [true, false, true, true, true, true, true, false] (hq18 _ _ _ _ _ _ _)
          refine zq_6_0 ?_
          refine zh_61 ?_
          refine zq_4_3 ?_
          refine zh_65 ?_
          refine zq_1 ?_
          refine zq_46 ?_ ?_
          · exact zE_w [true, false, true, true, true, true, true, false] (hq18 _ _ _ _ _ _ _)
          refine zq_1 ?_
          exact zq_95 rfl
/-! 57: EngraversHouse.ended:()I -/
noncomputable def fH_ended (a0 : Nat) (s : zHp) : Option (Int × zHp) :=
  ygi 10 5 a0 s fun v1 =>
  if v1 = (-1) then
    (some ((-3), s))
  else
    (ygi 10 5 a0 s fun v2 =>
    some (v2, s))
theorem fH_ended_ok {E : Nat → Nat} (d : Nat) (a0 : Nat) (s : zHp) : zE zI Ji E (d + 0) 57 (zB 57 0) (zent 1 [.inr (.inr a0)]) [] s (fH_ended a0 s) := by
  show zE _ _ _ _ _ _ [some (.inr (.inr a0))] _ _ _
  unfold fH_ended
  refine zq_6_0 ?_
  refine zh_60 ?_
  refine zq_1 ?_
  refine zq_47 ?_ ?_
  · refine zq_1 ?_
    refine zq_56 ?_
    exact zq_95 rfl
  · refine zq_6_0 ?_
    refine zh_60 ?_
    refine zq_57 ?_
    exact zq_95 rfl
/-! 58: EngraversHouse$Edition.scoreNumber:()I -/
noncomputable def fEdition_scoreNumber (a0 : Nat) (s : zHp) : Option (Int × zHp) :=
  ygr 2 2 a0 s fun p1 =>
  ygi 8 1 p1 s fun v2 =>
  some (v2, s)
theorem fEdition_scoreNumber_ok {E : Nat → Nat} (d : Nat) (a0 : Nat) (s : zHp) : zE zI Ji E (d + 0) 58 (zB 58 0) (zent 1 [.inr (.inr a0)]) [] s (fEdition_scoreNumber a0 s) := by
  show zE _ _ _ _ _ _ [some (.inr (.inr a0))] _ _ _
  unfold fEdition_scoreNumber
  refine zq_6_0 ?_
  refine zh_61 ?_
  refine zh_60 ?_
  exact zq_95 rfl
/-! 59: EngraversHouse$Erratum.scoreNumber:()I -/
noncomputable def fErratum_scoreNumber (a0 : Nat) (s : zHp) : Option (Int × zHp) :=
  ygr 3 2 a0 s fun p1 =>
  ygr 2 2 p1 s fun p2 =>
  ygi 8 1 p2 s fun v3 =>
  some (v3, s)
theorem fErratum_scoreNumber_ok {E : Nat → Nat} (d : Nat) (a0 : Nat) (s : zHp) : zE zI Ji E (d + 0) 59 (zB 59 0) (zent 1 [.inr (.inr a0)]) [] s (fErratum_scoreNumber a0 s) := by
  show zE _ _ _ _ _ _ [some (.inr (.inr a0))] _ _ _
  unfold fErratum_scoreNumber
  refine zq_6_0 ?_
  refine zh_61 ?_
  refine zh_61 ?_
  refine zh_60 ?_
  exact zq_95 rfl
/-! 60: EngraversHouse$Part.scoreNumber:()I -/
noncomputable def fPart_scoreNumber (a0 : Nat) (s : zHp) : Option (Int × zHp) :=
  ygr 5 2 a0 s fun p1 =>
  ygi 8 1 p1 s fun v2 =>
  some (v2, s)
theorem fPart_scoreNumber_ok {E : Nat → Nat} (d : Nat) (a0 : Nat) (s : zHp) : zE zI Ji E (d + 0) 60 (zB 60 0) (zent 1 [.inr (.inr a0)]) [] s (fPart_scoreNumber a0 s) := by
  show zE _ _ _ _ _ _ [some (.inr (.inr a0))] _ _ _
  unfold fPart_scoreNumber
  refine zq_6_0 ?_
  refine zh_61 ?_
  refine zh_60 ?_
  exact zq_95 rfl
/-! 61: EngraversHouse$Plate.scoreNumber:()I -/
noncomputable def fPlate_scoreNumber (a0 : Nat) (s : zHp) : Option (Int × zHp) :=
  ygr 6 2 a0 s fun p1 =>
  ygr 5 2 p1 s fun p2 =>
  ygi 8 1 p2 s fun v3 =>
  some (v3, s)
theorem fPlate_scoreNumber_ok {E : Nat → Nat} (d : Nat) (a0 : Nat) (s : zHp) : zE zI Ji E (d + 0) 61 (zB 61 0) (zent 1 [.inr (.inr a0)]) [] s (fPlate_scoreNumber a0 s) := by
  show zE _ _ _ _ _ _ [some (.inr (.inr a0))] _ _ _
  unfold fPlate_scoreNumber
  refine zq_6_0 ?_
  refine zh_61 ?_
  refine zh_61 ?_
  refine zh_60 ?_
  exact zq_95 rfl
/-! 62: EngraversHouse$Score.scoreNumber:()I -/
noncomputable def fScore_scoreNumber (a0 : Nat) (s : zHp) : Option (Int × zHp) :=
  yck 8 a0 s <| ybd (fScore_rootScore a0 s) fun p1 s2 =>
  ygi 8 1 p1 s2 fun v3 =>
  some (v3, s2)
theorem fScore_scoreNumber_ok {E : Nat → Nat} (d : Nat) (a0 : Nat) (s : zHp) : zE zI Ji E (d + 1) 62 (zB 62 0) (zent 1 [.inr (.inr a0)]) [] s (fScore_scoreNumber a0 s) := by
  show zE _ _ _ _ _ _ [some (.inr (.inr a0))] _ _ _
  unfold fScore_scoreNumber
  refine zq_6_0 ?_
  refine zE_g fun hg => ?_
  refine zq_92_1r hg rfl rfl (fScore_rootScore_ok (E := E) _ _ _) fun p1 s2 => ?_
  refine zh_60 ?_
  exact zq_95 rfl
/-! 63: EngraversHouse$Edition.second:()I -/
noncomputable def fEdition_second (a0 : Nat) (s : zHp) : Option (Int × zHp) :=
  ygi 2 3 a0 s fun v1 =>
  some (v1, s)
theorem fEdition_second_ok {E : Nat → Nat} (d : Nat) (a0 : Nat) (s : zHp) : zE zI Ji E (d + 0) 63 (zB 63 0) (zent 1 [.inr (.inr a0)]) [] s (fEdition_second a0 s) := by
  show zE _ _ _ _ _ _ [some (.inr (.inr a0))] _ _ _
  unfold fEdition_second
  refine zq_6_0 ?_
  refine zh_60 ?_
  exact zq_95 rfl
/-! 64: EngraversHouse$Erratum.voice:()I -/
noncomputable def fErratum_voice (a0 : Nat) (s : zHp) : Option (Int × zHp) :=
  ygi 3 3 a0 s fun v1 =>
  some (zdiv v1 160, s)
theorem fErratum_voice_ok {E : Nat → Nat} (d : Nat) (a0 : Nat) (s : zHp) : zE zI Ji E (d + 0) 64 (zB 64 0) (zent 1 [.inr (.inr a0)]) [] s (fErratum_voice a0 s) := by
  show zE _ _ _ _ _ _ [some (.inr (.inr a0))] _ _ _
  unfold fErratum_voice
  refine zq_6_0 ?_
  refine zh_60 ?_
  refine zq_1 ?_
  refine zq_14c (by decide) ?_
  exact zq_95 rfl
/-! 65: EngraversHouse$Erratum.second:()I -/
noncomputable def fErratum_second (a0 : Nat) (s : zHp) : Option (Int × zHp) :=
  yck 3 a0 s <| ybd (fErratum_voice a0 s) fun v1 s2 =>
  some (v1, s2)
theorem fErratum_second_ok {E : Nat → Nat} (d : Nat) (a0 : Nat) (s : zHp) : zE zI Ji E (d + 1) 65 (zB 65 0) (zent 1 [.inr (.inr a0)]) [] s (fErratum_second a0 s) := by
  show zE _ _ _ _ _ _ [some (.inr (.inr a0))] _ _ _
  unfold fErratum_second
  refine zq_6_0 ?_
  refine zE_g fun hg => ?_
  refine zq_92_1i hg rfl rfl (fErratum_voice_ok (E := E) _ _ _) fun v1 s2 => ?_
  exact zq_95 rfl
/-! 66: EngraversHouse$Part.second:()I -/
noncomputable def fPart_second (a0 : Nat) (s : zHp) : Option (Int × zHp) :=
  ygi 5 3 a0 s fun v1 =>
  some (v1, s)
theorem fPart_second_ok {E : Nat → Nat} (d : Nat) (a0 : Nat) (s : zHp) : zE zI Ji E (d + 0) 66 (zB 66 0) (zent 1 [.inr (.inr a0)]) [] s (fPart_second a0 s) := by
  show zE _ _ _ _ _ _ [some (.inr (.inr a0))] _ _ _
  unfold fPart_second
  refine zq_6_0 ?_
  refine zh_60 ?_
  exact zq_95 rfl
/-! 67: EngraversHouse$Plate.second:()I -/
noncomputable def fPlate_second (a0 : Nat) (s : zHp) : Option (Int × zHp) :=
  ygr 6 2 a0 s fun p1 =>
  ygi 5 3 p1 s fun v2 =>
  some (v2, s)
theorem fPlate_second_ok {E : Nat → Nat} (d : Nat) (a0 : Nat) (s : zHp) : zE zI Ji E (d + 0) 67 (zB 67 0) (zent 1 [.inr (.inr a0)]) [] s (fPlate_second a0 s) := by
  show zE _ _ _ _ _ _ [some (.inr (.inr a0))] _ _ _
  unfold fPlate_second
  refine zq_6_0 ?_
  refine zh_61 ?_
  refine zh_60 ?_
  exact zq_95 rfl
/-! 68: EngraversHouse$Score.second:()I -/
noncomputable def fScore_second (a0 : Nat) (s : zHp) : Option (Int × zHp) :=
  ygi 8 4 a0 s fun v1 =>
  some (v1, s)
theorem fScore_second_ok {E : Nat → Nat} (d : Nat) (a0 : Nat) (s : zHp) : zE zI Ji E (d + 0) 68 (zB 68 0) (zent 1 [.inr (.inr a0)]) [] s (fScore_second a0 s) := by
  show zE _ _ _ _ _ _ [some (.inr (.inr a0))] _ _ _
  unfold fScore_second
  refine zq_6_0 ?_
  refine zh_60 ?_
  exact zq_95 rfl
/-! 69: EngraversHouse$Edition.third:()I -/
noncomputable def fEdition_third (a0 : Nat) (s : zHp) : Option (Int × zHp) :=
  ygi 2 4 a0 s fun v1 =>
  some (v1, s)
theorem fEdition_third_ok {E : Nat → Nat} (d : Nat) (a0 : Nat) (s : zHp) : zE zI Ji E (d + 0) 69 (zB 69 0) (zent 1 [.inr (.inr a0)]) [] s (fEdition_third a0 s) := by
  show zE _ _ _ _ _ _ [some (.inr (.inr a0))] _ _ _
  unfold fEdition_third
  refine zq_6_0 ?_
  refine zh_60 ?_
  exact zq_95 rfl
/-! 70: EngraversHouse$Erratum.bar:()I -/
noncomputable def fErratum_bar (a0 : Nat) (s : zHp) : Option (Int × zHp) :=
  ygi 3 3 a0 s fun v1 =>
  some (zrem (zdiv v1 8) 20, s)
theorem fErratum_bar_ok {E : Nat → Nat} (d : Nat) (a0 : Nat) (s : zHp) : zE zI Ji E (d + 0) 70 (zB 70 0) (zent 1 [.inr (.inr a0)]) [] s (fErratum_bar a0 s) := by
  show zE _ _ _ _ _ _ [some (.inr (.inr a0))] _ _ _
  unfold fErratum_bar
  refine zq_6_0 ?_
  refine zh_60 ?_
  refine zq_1 ?_
  refine zq_14c (by decide) ?_
  refine zq_1 ?_
  refine zq_15c (by decide) ?_
  exact zq_95 rfl
/-! 71: EngraversHouse$Erratum.third:()I -/
noncomputable def fErratum_third (a0 : Nat) (s : zHp) : Option (Int × zHp) :=
  yck 3 a0 s <| ybd (fErratum_bar a0 s) fun v1 s2 =>
  some (v1, s2)
theorem fErratum_third_ok {E : Nat → Nat} (d : Nat) (a0 : Nat) (s : zHp) : zE zI Ji E (d + 1) 71 (zB 71 0) (zent 1 [.inr (.inr a0)]) [] s (fErratum_third a0 s) := by
  show zE _ _ _ _ _ _ [some (.inr (.inr a0))] _ _ _
  unfold fErratum_third
  refine zq_6_0 ?_
  refine zE_g fun hg => ?_
  refine zq_92_1i hg rfl rfl (fErratum_bar_ok (E := E) _ _ _) fun v1 s2 => ?_
  exact zq_95 rfl
/-! 72: EngraversHouse$Part.third:()I -/
noncomputable def fPart_third (a0 : Nat) (s : zHp) : Option (Int × zHp) :=
  ygi 5 4 a0 s fun v1 =>
  some (v1, s)
theorem fPart_third_ok {E : Nat → Nat} (d : Nat) (a0 : Nat) (s : zHp) : zE zI Ji E (d + 0) 72 (zB 72 0) (zent 1 [.inr (.inr a0)]) [] s (fPart_third a0 s) := by
  show zE _ _ _ _ _ _ [some (.inr (.inr a0))] _ _ _
  unfold fPart_third
  refine zq_6_0 ?_
  refine zh_60 ?_
  exact zq_95 rfl
/-! 73: EngraversHouse$Plate.third:()I -/
noncomputable def fPlate_third (a0 : Nat) (s : zHp) : Option (Int × zHp) :=
  ygi 6 3 a0 s fun v1 =>
  some (v1, s)
theorem fPlate_third_ok {E : Nat → Nat} (d : Nat) (a0 : Nat) (s : zHp) : zE zI Ji E (d + 0) 73 (zB 73 0) (zent 1 [.inr (.inr a0)]) [] s (fPlate_third a0 s) := by
  show zE _ _ _ _ _ _ [some (.inr (.inr a0))] _ _ _
  unfold fPlate_third
  refine zq_6_0 ?_
  refine zh_60 ?_
  exact zq_95 rfl
/-! 74: EngraversHouse$Score.third:()I -/
noncomputable def fScore_third (a0 : Nat) (s : zHp) : Option (Int × zHp) :=
  ygi 8 5 a0 s fun v1 =>
  some (v1, s)
theorem fScore_third_ok {E : Nat → Nat} (d : Nat) (a0 : Nat) (s : zHp) : zE zI Ji E (d + 0) 74 (zB 74 0) (zent 1 [.inr (.inr a0)]) [] s (fScore_third a0 s) := by
  show zE _ _ _ _ _ _ [some (.inr (.inr a0))] _ _ _
  unfold fScore_third
  refine zq_6_0 ?_
  refine zh_60 ?_
  exact zq_95 rfl
/-! 75: EngraversHouse.of:(II)I -/
noncomputable def fH_of (a0 : Nat) (a1 : Int) (a2 : Int) (s : zHp) : Option (Int × zHp) :=
  yck 10 a0 s <| ybd (fH_thingAt a0 a1 s) fun p1 s2 =>
  if p1 = 0 then
    (some ((-100), s2))
  else
    (if a2 = 0 then
      (ygi 20 0 p1 s2 fun v3 =>
      some (v3, s2))
    else if a2 = 1 then
      (ybd (yvd (ztg s2 p1) (fEdition_scoreNumber p1 s2) (fErratum_scoreNumber p1 s2) (fPart_scoreNumber p1 s2) (fPlate_scoreNumber p1 s2) (fScore_scoreNumber p1 s2)) fun v4 s5 =>
      some (v4, s5))
    else if a2 = 2 then
      (ybd (yvd (ztg s2 p1) (fEdition_second p1 s2) (fErratum_second p1 s2) (fPart_second p1 s2) (fPlate_second p1 s2) (fScore_second p1 s2)) fun v6 s7 =>
      some (v6, s7))
    else if a2 = 3 then
      (ybd (yvd (ztg s2 p1) (fEdition_third p1 s2) (fErratum_third p1 s2) (fPart_third p1 s2) (fPlate_third p1 s2) (fScore_third p1 s2)) fun v8 s9 =>
      some (v8, s9))
    else some ((-100), s2))
theorem fH_of_ok {E : Nat → Nat} (d : Nat) (a0 : Nat) (a1 : Int) (a2 : Int) (s : zHp) : zE zI Ji E (d + 2) 75 (zB 75 0) (zent 4 [.inr (.inr a0), .inl a1, .inl a2]) [] s (fH_of a0 a1 a2 s) := by
  show zE _ _ _ _ _ _ [some (.inr (.inr a0)), some (.inl a1), some (.inl a2), none] _ _ _
  unfold fH_of
  refine zq_6_0 ?_
  refine zq_4_1 ?_
  refine zE_g fun hg => ?_
  refine zq_92_2r hg rfl rfl (fH_thingAt_ok (E := E) _ _ _ _) fun p1 s2 => ?_
  refine zq_9_3 rfl ?_
  refine zq_6_3 ?_
  refine zq_55 ?_ ?_
  · refine zq_1 ?_
    exact zq_95 rfl
  · refine zq_4_2 ?_
    refine zq_58 ?_
    refine zq_sw ?_ ?_
    · refine zq_6_3 ?_
      refine zh_60 ?_
      exact zq_95 rfl
    refine zq_sw ?_ ?_
    · refine zq_6_3 ?_
      refine zh_93i rfl rfl (fEdition_scoreNumber_ok (E := E) _ _ _) (fErratum_scoreNumber_ok (E := E) _ _ _) (fPart_scoreNumber_ok (E := E) _ _ _) (fPlate_scoreNumber_ok (E := E) _ _ _) (fScore_scoreNumber_ok (E := E) _ _ _) fun v4 s5 => ?_
      exact zq_95 rfl
    refine zq_sw ?_ ?_
    · refine zq_6_3 ?_
      refine zh_93i rfl rfl (fEdition_second_ok (E := E) _ _ _) (fErratum_second_ok (E := E) _ _ _) (fPart_second_ok (E := E) _ _ _) (fPlate_second_ok (E := E) _ _ _) (fScore_second_ok (E := E) _ _ _) fun v6 s7 => ?_
      exact zq_95 rfl
    refine zq_sw ?_ ?_
    · refine zq_6_3 ?_
      refine zh_93i rfl rfl (fEdition_third_ok (E := E) _ _ _) (fErratum_third_ok (E := E) _ _ _) (fPart_third_ok (E := E) _ _ _) (fPlate_third_ok (E := E) _ _ _) (fScore_third_ok (E := E) _ _ _) fun v8 s9 => ?_
      exact zq_95 rfl
    refine zq_1 ?_
    exact zq_95 rfl
/-! 76: EngraversHouse.bars:(II)I -/
noncomputable def fH_bars (a0 : Nat) (a1 : Int) (a2 : Int) (s : zHp) : Option (Int × zHp) :=
  yck 10 a0 s <| ybd (fH_scoreAt a0 a1 s) fun p1 s2 =>
  if p1 = 0 then
    (yck 10 a0 s2 <| ybd (fH_lacking a0 a1 s2) fun v7 s8 =>
    some (v7, s8))
  else
    (yck 8 p1 s2 <| ybd (fScore_hasVoice p1 a2 s2) fun v3 s4 =>
    if v3 = 0 then
      (some ((-1), s4))
    else
    yck 8 p1 s4 <| ybd (fScore_wholeBars p1 a2 s4) fun v5 s6 =>
    some (v5, s6))
theorem fH_bars_ok {E : Nat → Nat} (d : Nat) (a0 : Nat) (a1 : Int) (a2 : Int) (s : zHp) : zE zI Ji E (d + 4) 76 (zB 76 0) (zent 4 [.inr (.inr a0), .inl a1, .inl a2]) [] s (fH_bars a0 a1 a2 s) := by
  show zE _ _ _ _ _ _ [some (.inr (.inr a0)), some (.inl a1), some (.inl a2), none] _ _ _
  unfold fH_bars
  refine zq_6_0 ?_
  refine zq_4_1 ?_
  refine zE_g fun hg => ?_
  refine zq_92_2r hg rfl rfl (fH_scoreAt_ok (E := E) _ _ _ _) fun p1 s2 => ?_
  refine zq_9_3 rfl ?_
  refine zq_6_3 ?_
  refine zq_55 ?_ ?_
  · refine zq_6_0 ?_
    refine zq_4_1 ?_
    refine zE_g fun hg => ?_
    refine zq_92_2i hg rfl rfl (fH_lacking_ok (E := E) _ _ _ _) fun v7 s8 => ?_
    exact zq_95 rfl
  · refine zq_6_3 ?_
    refine zq_4_2 ?_
    refine zE_g fun hg => ?_
    refine zq_92_2i hg rfl rfl (fScore_hasVoice_ok (E := E) _ _ _ _) fun v3 s4 => ?_
    refine zq_40 ?_ ?_
    · refine zq_1 ?_
      refine zq_57 ?_
      exact zq_95 rfl
    refine zq_6_3 ?_
    refine zq_4_2 ?_
    refine zE_g fun hg => ?_
    refine zq_92_2i hg rfl rfl (fScore_wholeBars_ok (E := E) _ _ _ _) fun v5 s6 => ?_
    refine zq_56 ?_
    exact zq_95 rfl
/-! 77: EngraversHouse$Part.<init>:(IILEngraversHouse$Score;II)V -/
noncomputable def fPart_init (a0 : Nat) (a1 : Int) (a2 : Int) (a3 : Nat) (a4 : Int) (a5 : Int) (s : zHp) : Option (Unit × zHp) :=
  yn0 a0 <| ybd (fThing_init a0 a1 a2 s) fun _ s1 =>
  ypi 5 5 a0 0 s1 fun s2 =>
  ynw 0 3 s2 fun p3 s4 =>
  yn0 p3 <| ybd (fBar_init p3 s4) fun _ s5 =>
  ypr 5 6 a0 p3 s5 fun s6 =>
  ypr 5 2 a0 a3 s6 fun s7 =>
  ypi 5 3 a0 a4 s7 fun s8 =>
  ypi 5 4 a0 a5 s8 fun s9 =>
  some ((), s9)
set_option maxRecDepth 20000 in
set_option maxHeartbeats 4000000 in
theorem fPart_init_ok {E : Nat → Nat} (d : Nat) (a0 : Nat) (a1 : Int) (a2 : Int) (a3 : Nat) (a4 : Int) (a5 : Int) (s : zHp) : zE zI Jv E (d + 1) 77 (zB 77 0) (zent 6 [.inr (.inr a0), .inl a1, .inl a2, .inr (.inr a3), .inl a4, .inl a5]) [] s (fPart_init a0 a1 a2 a3 a4 a5 s) := by
  show zE _ _ _ _ _ _ [some (.inr (.inr a0)), some (.inl a1), some (.inl a2), some (.inr (.inr a3)), some (.inl a4), some (.inl a5)] _ _ _
  unfold fPart_init
  refine zq_6_0 ?_
  refine zq_4_1 ?_
  refine zq_4_2 ?_
  refine zq_91_3v rfl rfl (fThing_init_ok (E := E) _ _ _ _ _) fun _ s1 => ?_
  refine zq_6_0 ?_
  refine zq_1 ?_
  refine zh_62 ?_
  refine zq_6_0 ?_
  refine zh_73 ?_
  refine zq_33 ?_
  refine zq_91_1v rfl rfl (fBar_init_ok (E := E) _ _ _) fun _ s5 => ?_
  refine zh_64 ?_
  refine zq_6_0 ?_
  refine zq_6_3 ?_
  refine zh_64 ?_
  refine zq_6_0 ?_
  refine zq_4_4 ?_
  refine zh_62 ?_
  refine zq_6_0 ?_
  refine zq_4_5 ?_
  refine zh_62 ?_
  exact zq_101
/-! 78: EngraversHouse.part:(III)I -/
noncomputable def fH_part (a0 : Nat) (a1 : Int) (a2 : Int) (a3 : Int) (s : zHp) : Option (Int × zHp) :=
  yck 10 a0 s <| ybd (fH_scoreAt a0 a1 s) fun p1 s2 =>
  if p1 = 0 then
    (yck 10 a0 s2 <| ybd (fH_lacking a0 a1 s2) fun v14 s15 =>
    some (v14, s15))
  else
    (yck 8 p1 s2 <| ybd (fScore_hasVoice p1 a2 s2) fun v3 s4 =>
    if v3 = 0 then
      (some ((-1), s4))
    else
      (ybd (fH_within a3 (-12) 12 s4) fun v5 s6 =>
      if v5 = 0 then
        (some ((-2), s6))
      else
        (ygi 10 4 a0 s6 fun v7 =>
        if v7 < 60 then
          (ynw 5 7 s6 fun p8 s9 =>
          ygi 10 4 a0 s9 fun v10 =>
          yn0 p8 <| ybd (fPart_init p8 2 v10 p1 a2 a3 s9) fun _ s11 =>
          yck 10 a0 s11 <| ybd (fH_keep a0 p8 s11) fun v12 s13 =>
          some (v12, s13))
        else
        some ((-4), s6))))
theorem fH_part_ok {E : Nat → Nat} (d : Nat) (a0 : Nat) (a1 : Int) (a2 : Int) (a3 : Int) (s : zHp) : zE zI Ji E (d + 2) 78 (zB 78 0) (zent 5 [.inr (.inr a0), .inl a1, .inl a2, .inl a3]) [] s (fH_part a0 a1 a2 a3 s) := by
  show zE _ _ _ _ _ _ [some (.inr (.inr a0)), some (.inl a1), some (.inl a2), some (.inl a3), none] _ _ _
  unfold fH_part
  refine zq_6_0 ?_
  refine zq_4_1 ?_
  refine zE_g fun hg => ?_
  refine zq_92_2r hg rfl rfl (fH_scoreAt_ok (E := E) _ _ _ _) fun p1 s2 => ?_
  refine zq_9_4 rfl ?_
  refine zq_6_4 ?_
  refine zq_55 ?_ ?_
  · refine zq_6_0 ?_
    refine zq_4_1 ?_
    refine zE_g fun hg => ?_
    refine zq_92_2i hg rfl rfl (fH_lacking_ok (E := E) _ _ _ _) fun v14 s15 => ?_
    exact zq_95 rfl
  · refine zq_6_4 ?_
    refine zq_4_2 ?_
    refine zE_g fun hg => ?_
    refine zq_92_2i hg rfl rfl (fScore_hasVoice_ok (E := E) _ _ _ _) fun v3 s4 => ?_
    refine zq_41 ?_ ?_
    · refine zq_1 ?_
      exact zq_95 rfl
    · refine zq_4_3 ?_
      refine zq_1 ?_
      refine zq_1 ?_
      refine zq_90_3i rfl rfl (fH_within_ok (E := E) _ _ _ _ _) fun v5 s6 => ?_
      refine zq_41 ?_ ?_
      · refine zq_1 ?_
        exact zq_95 rfl
      · refine zq_6_0 ?_
        refine zh_60 ?_
        refine zq_1 ?_
        refine zq_48 ?_ ?_
        · refine zq_6_0 ?_
          refine zh_73 ?_
          refine zq_33 ?_
          refine zq_1 ?_
          refine zq_6_0 ?_
          refine zh_60 ?_
          refine zq_6_4 ?_
          refine zq_4_2 ?_
          refine zq_4_3 ?_
          refine zq_91_6v rfl rfl (fPart_init_ok (E := E) _ _ _ _ _ _ _ _) fun _ s11 => ?_
          refine zE_g fun hg => ?_
          refine zq_92_2i hg rfl rfl (fH_keep_ok (E := E) _ _ _ _) fun v12 s13 => ?_
          exact zq_95 rfl
        refine zq_1 ?_
        exact zq_95 rfl
/-! 79: EngraversHouse.partAt:(I)LEngraversHouse$Part; -/
noncomputable def fH_partAt (a0 : Nat) (a1 : Int) (s : zHp) : Option (Nat × zHp) :=
  yck 10 a0 s <| ybd (fH_thingAt a0 a1 s) fun p1 s2 =>
  yio 5 p1 s2 fun v3 =>
  if v3 = 0 then
    (some (0, s2))
  else
  yck 5 p1 s2 <|
  some (p1, s2)
theorem fH_partAt_ok {E : Nat → Nat} (d : Nat) (a0 : Nat) (a1 : Int) (s : zHp) : zE zI Jr E (d + 1) 79 (zB 79 0) (zent 4 [.inr (.inr a0), .inl a1]) [] s (fH_partAt a0 a1 s) := by
  show zE _ _ _ _ _ _ [some (.inr (.inr a0)), some (.inl a1), none, none] _ _ _
  unfold fH_partAt
  refine zq_6_0 ?_
  refine zq_4_1 ?_
  refine zE_g fun hg => ?_
  refine zq_92_2r hg rfl rfl (fH_thingAt_ok (E := E) _ _ _ _) fun p1 s2 => ?_
  refine zq_9_3 rfl ?_
  refine zq_6_3 ?_
  refine zh_77 ?_
  refine zq_40 ?_ ?_
  · refine zq_3 ?_
    refine zq_57 ?_
    exact zq_100
  refine zq_6_3 ?_
  refine zh_78 ?_
  refine zq_9_2 rfl ?_
  refine zq_6_2 ?_
  refine zq_56 ?_
  exact zq_100
/-! 80: EngraversHouse$Bar.clearNotes:()V -/
noncomputable def fBar_clearNotes (a0 : Nat) (s : zHp) : Option (Unit × zHp) :=
  ypi 0 1 a0 0 s fun s1 =>
  ypi 0 2 a0 0 s1 fun s2 =>
  some ((), s2)
theorem fBar_clearNotes_ok {E : Nat → Nat} (d : Nat) (a0 : Nat) (s : zHp) : zE zI Jv E (d + 0) 80 (zB 80 0) (zent 1 [.inr (.inr a0)]) [] s (fBar_clearNotes a0 s) := by
  show zE _ _ _ _ _ _ [some (.inr (.inr a0))] _ _ _
  unfold fBar_clearNotes
  refine zq_6_0 ?_
  refine zq_1 ?_
  refine zh_62 ?_
  refine zq_6_0 ?_
  refine zq_1 ?_
  refine zh_62 ?_
  exact zq_101
/-! 81: EngraversHouse.shifted:(II)I -/
noncomputable def fH_shifted (a0 : Int) (a1 : Int) (s : zHp) : Option (Int × zHp) :=
  ybd (fH_isRest a0 s) fun v1 s2 =>
  if v1 = 0 then
    (some (zadd a0 (zmul 1000 a1), s2))
  else
  some (a0, s2)
theorem fH_shifted_ok {E : Nat → Nat} (d : Nat) (a0 : Int) (a1 : Int) (s : zHp) : zE zI Ji E (d + 1) 81 (zB 81 0) (zent 2 [.inl a0, .inl a1]) [] s (fH_shifted a0 a1 s) := by
  show zE _ _ _ _ _ _ [some (.inl a0), some (.inl a1)] _ _ _
  unfold fH_shifted
  refine zq_4_0 ?_
  refine zq_90_1i rfl rfl (fH_isRest_ok (E := E) _ _ _) fun v1 s2 => ?_
  refine zq_40 ?_ ?_
  · refine zq_4_0 ?_
    refine zq_1 ?_
    refine zq_4_1 ?_
    refine zq_13 ?_
    refine zq_11 ?_
    refine zq_57 ?_
    exact zq_95 rfl
  refine zq_4_0 ?_
  refine zq_56 ?_
  exact zq_95 rfl
/-! 82: EngraversHouse$Bar.joinNote:(I)V -/
noncomputable def fBar_joinNote (a0 : Nat) (a1 : Int) (s : zHp) : Option (Unit × zHp) :=
  yjn (fun (x1 : Nat) (x2 : Int) (s3 : zHp) =>
   yck 0 x1 s3 <| ybd (fBar_addNote x1 x2 s3) fun _ s5 =>
   some ((), s5)) fun q4 =>
   yjn (fun (x6 : Nat) (x7 : Int) (x8 : Int) (s9 : zHp) =>
   ygr 0 0 x6 s9 fun p11 =>
   yai p11 x8 s9 fun v12 =>
   ygr 0 0 x6 s9 fun p13 =>
   yai p13 x8 s9 fun v14 =>
   ysi p11 x8 (zadd v12 (zsub (zrem x7 1000) (zand v14 1))) s9 fun s15 =>
   ygi 0 2 x6 s15 fun v16 =>
   ybd (fH_lengthOf x7 s15) fun v17 s18 =>
   ypi 0 2 x6 (zadd v16 v17) s18 fun s19 =>
   some ((), s19)) fun q10 =>
   ygi 0 1 a0 s fun v20 =>
  yvl (zsub v20 1) fun v21 =>
  yck 0 a0 s <| ybd (fBar_hasNote a0 v21 s) fun v22 s23 =>
  if v22 = 0 then
    (q4 a0 a1 s23)
  else
  ygr 0 0 a0 s23 fun p24 =>
  yai p24 v21 s23 fun v25 =>
  if (zdiv v25 1000) = (zdiv a1 1000) then
    (ybd (fH_isRest a1 s23) fun v26 s27 =>
    if v26 = 0 then
      (ygr 0 0 a0 s27 fun p28 =>
      yai p28 v21 s27 fun v29 =>
      if (zand v29 1) = 1 then
        (q10 a0 a1 v21 s27)
      else
        (q4 a0 a1 s27))
    else
      (q10 a0 a1 v21 s27))
  else
    (q4 a0 a1 s23)
theorem fBar_joinNote_ok {E : Nat → Nat} (d : Nat) (a0 : Nat) (a1 : Int) (s : zHp) : zE zI Jv E (d + 2) 82 (zB 82 0) (zent 3 [.inr (.inr a0), .inl a1]) [] s (fBar_joinNote a0 a1 s) := by
  show zE _ _ _ _ _ _ [some (.inr (.inr a0)), some (.inl a1), none] _ _ _
  unfold fBar_joinNote
  refine zE_jn (fun q4 => ∀ (y0 : Nat) (y1 : Int) (s : zHp), zE zI Jv E (d + 2) 82 (zB 82 2) ([some (.inr (.inr y0)), some (.inl y1), none]) ([]) s (q4 y0 y1 s)) (fun x1 x2 s3 => ?_) (fun q4 hq4 => ?_)
  · refine zq_6_0 ?_
    refine zq_4_1 ?_
    refine zE_g fun hg => ?_
    refine zq_92_2v hg rfl rfl (fBar_addNote_ok (E := E) _ _ _ _) fun _ s5 => ?_
    refine zq_57 ?_
    exact zq_101
  refine zE_jn (fun q10 => ∀ (y0 : Nat) (y1 : Int) (y2 : Int) (s : zHp), zE zI Jv E (d + 2) 82 (zB 82 1) ([some (.inr (.inr y0)), some (.inl y1), some (.inl y2)]) ([]) s (q10 y0 y1 y2 s)) (fun x6 x7 x8 s9 => ?_) (fun q10 hq10 => ?_)
  · refine zq_6_0 ?_
    refine zh_61 ?_
    refine zq_4_2 ?_
    refine zq_34 ?_
    refine zh_65 ?_
    refine zq_4_1 ?_
    refine zq_1 ?_
    refine zq_15c (by decide) ?_
    refine zq_6_0 ?_
    refine zh_61 ?_
    refine zq_4_2 ?_
    refine zh_65 ?_
    refine zq_1 ?_
    refine zq_20 ?_
    refine zq_12 ?_
    refine zq_11 ?_
    refine zh_68 ?_
    refine zq_6_0 ?_
    refine zq_33 ?_
    refine zh_60 ?_
    refine zq_4_1 ?_
    refine zq_90_1i rfl rfl (fH_lengthOf_ok (E := E) _ _ _) fun v17 s18 => ?_
    refine zq_11 ?_
    refine zh_62 ?_
    refine zq_56 ?_
    exact zq_101
  refine zq_6_0 ?_
  refine zh_60 ?_
  refine zq_1 ?_
  refine zq_12 ?_
  refine zE_vl ?_
  refine zq_7_2 rfl ?_
  refine zq_6_0 ?_
  refine zq_4_2 ?_
  refine zE_g fun hg => ?_
  refine zq_92_2i hg rfl rfl (fBar_hasNote_ok (E := E) _ _ _ _) fun v22 s23 => ?_
  refine zq_40 ?_ ?_
  · exact zE_w [true, true, false] (hq4 _ _ _)
  refine zq_6_0 ?_
  refine zh_61 ?_
  refine zq_4_2 ?_
  refine zh_65 ?_
  refine zq_1 ?_
  refine zq_14c (by decide) ?_
  refine zq_4_1 ?_
  refine zq_1 ?_
  refine zq_14c (by decide) ?_
  refine zq_47 ?_ ?_
  · refine zq_4_1 ?_
    refine zq_90_1i rfl rfl (fH_isRest_ok (E := E) _ _ _) fun v26 s27 => ?_
    refine zq_41 ?_ ?_
    · refine zq_6_0 ?_
      refine zh_61 ?_
      refine zq_4_2 ?_
      refine zh_65 ?_
      refine zq_1 ?_
      refine zq_20 ?_
      refine zq_1 ?_
      refine zq_47 ?_ ?_
      · refine zq_57 ?_
        exact zE_w [true, true, true] (hq10 _ _ _ _)
      · exact zE_w [true, true, false] (hq4 _ _ _)
    · exact zE_w [true, true, true] (hq10 _ _ _ _)
  · exact zE_w [true, true, false] (hq4 _ _ _)
/-! 83: EngraversHouse$Part.barAsRead:(I)LEngraversHouse$Bar; -/
noncomputable def fPart_barAsRead_l2 : Nat → Nat → Nat → Int → zHp → (Nat → zHp → Option (Nat × zHp)) → Option (Nat × zHp)
  | 0, _, _, _, _, _ => none
  | n + 1, x7, x8, x9, s10, k11 =>
   ygi 0 1 x8 s10 fun v12 =>
   if x9 < v12 then
     (ygr 5 6 x7 s10 fun p13 =>
     ygr 0 0 x8 s10 fun p14 =>
     yai p14 x9 s10 fun v15 =>
     ygi 5 4 x7 s10 fun v16 =>
     ybd (fH_shifted v15 v16 s10) fun v17 s18 =>
     yck 0 p13 s18 <| ybd (fBar_joinNote p13 v17 s18) fun _ s19 =>
     yvl (zadd x9 1) fun v20 =>
     fPart_barAsRead_l2 n x7 x8 v20 s19 k11)
   else
     (k11 x7 s10)
theorem fPart_barAsRead_l2_ok {E : Nat → Nat} (d : Nat) : ∀ (n : Nat) (x7 : Nat) (x8 : Nat) (x9 : Int) (s10 : zHp) (k11 : Nat → zHp → Option (Nat × zHp)) (hk11 : ∀ (y0 : Nat) (s : zHp), zE zI Jr E (d + 3) 83 (zB 83 3) ([some (.inr (.inr y0)), none, none, none]) ([]) s (k11 y0 s)), zE zI Jr E (d + 3) 83 (zB 83 2) ([some (.inr (.inr x7)), none, some (.inr (.inr x8)), some (.inl x9)]) ([]) s10 (fPart_barAsRead_l2 n x7 x8 x9 s10 k11) := by
  intro n
  induction n with
  | zero => intro x7 x8 x9 s10 k11 hk11; exact zE_none
  | succ n ih =>
    intro x7 x8 x9 s10 k11 hk11
    unfold fPart_barAsRead_l2
    refine zq_4_3 ?_
    refine zq_6_2 ?_
    refine zh_60 ?_
    refine zq_49 ?_ ?_
    · refine zq_6_0 ?_
      refine zh_61 ?_
      refine zq_6_2 ?_
      refine zh_61 ?_
      refine zq_4_3 ?_
      refine zh_65 ?_
      refine zq_6_0 ?_
      refine zh_60 ?_
      refine zq_90_2i rfl rfl (fH_shifted_ok (E := E) _ _ _ _) fun v17 s18 => ?_
      refine zE_g fun hg => ?_
      refine zq_92_2v hg rfl rfl (fBar_joinNote_ok (E := E) _ _ _ _) fun _ s19 => ?_
      refine zE_vl ?_
      refine zq_10_3 rfl ?_
      refine zq_56 ?_
      exact zE_w [true, false, true, true] (ih _ _ _ _ _ hk11)
    · exact zE_w [true, false, false, false] (hk11 _ _)
noncomputable def fPart_barAsRead (a0 : Nat) (a1 : Int) (s : zHp) : Option (Nat × zHp) :=
  ygr 5 2 a0 s fun p1 =>
  ygi 5 3 a0 s fun v2 =>
  yck 8 p1 s <| ybd (fScore_wholeBar p1 v2 a1 s) fun p3 s4 =>
  if p3 = 0 then
    (some (0, s4))
  else
    (ygr 5 6 a0 s4 fun p5 =>
    yck 0 p5 s4 <| ybd (fBar_clearNotes p5 s4) fun _ s6 =>
    fPart_barAsRead_l2 zFU a0 p3 0 s6 (fun (x21 : Nat) (s22 : zHp) =>
     ygr 5 6 x21 s22 fun p23 =>
     some (p23, s22)))
theorem fPart_barAsRead_ok {E : Nat → Nat} (d : Nat) (a0 : Nat) (a1 : Int) (s : zHp) : zE zI Jr E (d + 3) 83 (zB 83 0) (zent 4 [.inr (.inr a0), .inl a1]) [] s (fPart_barAsRead a0 a1 s) := by
  show zE _ _ _ _ _ _ [some (.inr (.inr a0)), some (.inl a1), none, none] _ _ _
  unfold fPart_barAsRead
  refine zq_6_0 ?_
  refine zh_61 ?_
  refine zq_6_0 ?_
  refine zh_60 ?_
  refine zq_4_1 ?_
  refine zE_g fun hg => ?_
  refine zq_92_3r hg rfl rfl (fScore_wholeBar_ok (E := E) _ _ _ _ _) fun p3 s4 => ?_
  refine zq_9_2 rfl ?_
  refine zq_6_2 ?_
  refine zq_55 ?_ ?_
  · refine zq_3 ?_
    exact zq_100
  · refine zq_6_0 ?_
    refine zh_61 ?_
    refine zE_g fun hg => ?_
    refine zq_92_1v hg rfl rfl (fBar_clearNotes_ok (E := E) _ _ _) fun _ s6 => ?_
    refine zq_1 ?_
    refine zq_7_3 rfl ?_
    refine zq_57 ?_
    refine zE_w [true, false, true, true] (fPart_barAsRead_l2_ok (E := E) d zFU _ _ _ _ _ (fun x21 s22 => ?_))
    refine zq_6_0 ?_
    refine zh_61 ?_
    exact zq_100
/-! 84: EngraversHouse.tellNote:(LEngraversHouse$Bar;I)I -/
noncomputable def fH_tellNote (a0 : Nat) (a1 : Int) (s : zHp) : Option (Int × zHp) :=
  if a0 = 0 then
    (some ((-5), s))
  else
    (if a1 = (-1) then
      (ygi 0 1 a0 s fun v5 =>
      some (v5, s))
    else
      (yck 0 a0 s <| ybd (fBar_hasNote a0 a1 s) fun v1 s2 =>
      if v1 = 0 then
        (some ((-5), s2))
      else
      ygr 0 0 a0 s2 fun p3 =>
      yai p3 a1 s2 fun v4 =>
      some (v4, s2)))
theorem fH_tellNote_ok {E : Nat → Nat} (d : Nat) (a0 : Nat) (a1 : Int) (s : zHp) : zE zI Ji E (d + 1) 84 (zB 84 0) (zent 2 [.inr (.inr a0), .inl a1]) [] s (fH_tellNote a0 a1 s) := by
  show zE _ _ _ _ _ _ [some (.inr (.inr a0)), some (.inl a1)] _ _ _
  unfold fH_tellNote
  refine zq_6_0 ?_
  refine zq_55 ?_ ?_
  · refine zq_1 ?_
    exact zq_95 rfl
  · refine zq_4_1 ?_
    refine zq_1 ?_
    refine zq_47 ?_ ?_
    · refine zq_6_0 ?_
      refine zh_60 ?_
      exact zq_95 rfl
    · refine zq_6_0 ?_
      refine zq_4_1 ?_
      refine zE_g fun hg => ?_
      refine zq_92_2i hg rfl rfl (fBar_hasNote_ok (E := E) _ _ _ _) fun v1 s2 => ?_
      refine zq_40 ?_ ?_
      · refine zq_1 ?_
        refine zq_57 ?_
        exact zq_95 rfl
      refine zq_6_0 ?_
      refine zh_61 ?_
      refine zq_4_1 ?_
      refine zh_65 ?_
      refine zq_56 ?_
      exact zq_95 rfl
/-! 85: EngraversHouse.heard:(III)I -/
noncomputable def fH_heard (a0 : Nat) (a1 : Int) (a2 : Int) (a3 : Int) (s : zHp) : Option (Int × zHp) :=
  yck 10 a0 s <| ybd (fH_partAt a0 a1 s) fun p1 s2 =>
  if p1 = 0 then
    (some ((-5), s2))
  else
    (yck 5 p1 s2 <| ybd (fPart_barAsRead p1 a2 s2) fun p3 s4 =>
    ybd (fH_tellNote p3 a3 s4) fun v5 s6 =>
    some (v5, s6))
theorem fH_heard_ok {E : Nat → Nat} (d : Nat) (a0 : Nat) (a1 : Int) (a2 : Int) (a3 : Int) (s : zHp) : zE zI Ji E (d + 4) 85 (zB 85 0) (zent 5 [.inr (.inr a0), .inl a1, .inl a2, .inl a3]) [] s (fH_heard a0 a1 a2 a3 s) := by
  show zE _ _ _ _ _ _ [some (.inr (.inr a0)), some (.inl a1), some (.inl a2), some (.inl a3), none] _ _ _
  unfold fH_heard
  refine zq_6_0 ?_
  refine zq_4_1 ?_
  refine zE_g fun hg => ?_
  refine zq_92_2r hg rfl rfl (fH_partAt_ok (E := E) _ _ _ _) fun p1 s2 => ?_
  refine zq_9_4 rfl ?_
  refine zq_6_4 ?_
  refine zq_55 ?_ ?_
  · refine zq_1 ?_
    refine zq_56 ?_
    exact zq_95 rfl
  · refine zq_6_4 ?_
    refine zq_4_2 ?_
    refine zE_g fun hg => ?_
    refine zq_92_2r hg rfl rfl (fPart_barAsRead_ok (E := E) _ _ _ _) fun p3 s4 => ?_
    refine zq_4_3 ?_
    refine zq_90_2i rfl rfl (fH_tellNote_ok (E := E) _ _ _ _) fun v5 s6 => ?_
    refine zq_57 ?_
    exact zq_95 rfl
/-! 86: EngraversHouse$Part.barCount:()I -/
noncomputable def fPart_barCount (a0 : Nat) (s : zHp) : Option (Int × zHp) :=
  ygr 5 2 a0 s fun p1 =>
  ygi 5 3 a0 s fun v2 =>
  yck 8 p1 s <| ybd (fScore_wholeBars p1 v2 s) fun v3 s4 =>
  some (v3, s4)
theorem fPart_barCount_ok {E : Nat → Nat} (d : Nat) (a0 : Nat) (s : zHp) : zE zI Ji E (d + 4) 86 (zB 86 0) (zent 1 [.inr (.inr a0)]) [] s (fPart_barCount a0 s) := by
  show zE _ _ _ _ _ _ [some (.inr (.inr a0))] _ _ _
  unfold fPart_barCount
  refine zq_6_0 ?_
  refine zh_61 ?_
  refine zq_6_0 ?_
  refine zh_60 ?_
  refine zE_g fun hg => ?_
  refine zq_92_2i hg rfl rfl (fScore_wholeBars_ok (E := E) _ _ _ _) fun v3 s4 => ?_
  exact zq_95 rfl
/-! 87: EngraversHouse$Bar.copyShifted:(LEngraversHouse$Bar;I)V -/
noncomputable def fBar_copyShifted_l1 : Nat → Nat → Nat → Int → Int → zHp → Option (Unit × zHp)
  | 0, _, _, _, _, _ => none
  | n + 1, x2, x3, x4, x5, s6 =>
   ygi 0 1 x3 s6 fun v7 =>
   if x5 < v7 then
     (ygr 0 0 x3 s6 fun p8 =>
     yai p8 x5 s6 fun v9 =>
     ybd (fH_shifted v9 x4 s6) fun v10 s11 =>
     yck 0 x2 s11 <| ybd (fBar_addNote x2 v10 s11) fun _ s12 =>
     yvl (zadd x5 1) fun v13 =>
     fBar_copyShifted_l1 n x2 x3 x4 v13 s12)
   else
     (some ((), s6))
theorem fBar_copyShifted_l1_ok {E : Nat → Nat} (d : Nat) : ∀ (n : Nat) (x2 : Nat) (x3 : Nat) (x4 : Int) (x5 : Int) (s6 : zHp), zE zI Jv E (d + 2) 87 (zB 87 1) ([some (.inr (.inr x2)), some (.inr (.inr x3)), some (.inl x4), some (.inl x5)]) ([]) s6 (fBar_copyShifted_l1 n x2 x3 x4 x5 s6) := by
  intro n
  induction n with
  | zero => intro x2 x3 x4 x5 s6; exact zE_none
  | succ n ih =>
    intro x2 x3 x4 x5 s6
    unfold fBar_copyShifted_l1
    refine zq_4_3 ?_
    refine zq_6_1 ?_
    refine zh_60 ?_
    refine zq_49 ?_ ?_
    · refine zq_6_0 ?_
      refine zq_6_1 ?_
      refine zh_61 ?_
      refine zq_4_3 ?_
      refine zh_65 ?_
      refine zq_4_2 ?_
      refine zq_90_2i rfl rfl (fH_shifted_ok (E := E) _ _ _ _) fun v10 s11 => ?_
      refine zE_g fun hg => ?_
      refine zq_92_2v hg rfl rfl (fBar_addNote_ok (E := E) _ _ _ _) fun _ s12 => ?_
      refine zE_vl ?_
      refine zq_10_3 rfl ?_
      refine zq_56 ?_
      exact zE_w [true, true, true, true] (ih _ _ _ _ _)
    · exact zq_101
noncomputable def fBar_copyShifted (a0 : Nat) (a1 : Nat) (a2 : Int) (s : zHp) : Option (Unit × zHp) :=
  yck 0 a0 s <| ybd (fBar_clearNotes a0 s) fun _ s1 =>
  fBar_copyShifted_l1 zFU a0 a1 a2 0 s1
theorem fBar_copyShifted_ok {E : Nat → Nat} (d : Nat) (a0 : Nat) (a1 : Nat) (a2 : Int) (s : zHp) : zE zI Jv E (d + 2) 87 (zB 87 0) (zent 4 [.inr (.inr a0), .inr (.inr a1), .inl a2]) [] s (fBar_copyShifted a0 a1 a2 s) := by
  show zE _ _ _ _ _ _ [some (.inr (.inr a0)), some (.inr (.inr a1)), some (.inl a2), none] _ _ _
  unfold fBar_copyShifted
  refine zq_6_0 ?_
  refine zE_g fun hg => ?_
  refine zq_92_1v hg rfl rfl (fBar_clearNotes_ok (E := E) _ _ _) fun _ s1 => ?_
  refine zq_1 ?_
  refine zq_7_3 rfl ?_
  refine zq_57 ?_
  exact zE_w [true, true, true, true] (fBar_copyShifted_l1_ok (E := E) d zFU _ _ _ _ _)
/-! 88: EngraversHouse$Plate.<init>:(ILEngraversHouse$Part;II)V -/
noncomputable def fPlate_init_l1 : Nat → Nat → Nat → Int → Int → zHp → (Nat → zHp → Option (Unit × zHp)) → Option (Unit × zHp)
  | 0, _, _, _, _, _, _ => none
  | n + 1, x10, x11, x12, x13, s14, k15 =>
   yjn (fun (x16 : Nat) (x17 : Nat) (x18 : Int) (x19 : Int) (s20 : zHp) =>
    yvl (zadd x19 1) fun v22 =>
    fPlate_init_l1 n x16 x17 x18 v22 s20 k15) fun q21 =>
    ygr 6 4 x10 s14 fun p23 =>
   yln p23 s14 fun v24 =>
   if x13 < v24 then
     (ygr 6 4 x10 s14 fun p25 =>
     ynw 0 3 s14 fun p26 s27 =>
     yn0 p26 <| ybd (fBar_init p26 s27) fun _ s28 =>
     ysr p25 x13 p26 s28 fun s29 =>
     yck 5 x11 s29 <| ybd (fPart_barAsRead x11 (zadd x12 x13) s29) fun p30 s31 =>
     if p30 = 0 then
       (q21 x10 x11 x12 x13 s31)
     else
     ygr 6 4 x10 s31 fun p32 =>
     yar p32 x13 s31 fun p33 =>
     yck 0 p33 s31 <| ybd (fBar_copyShifted p33 p30 0 s31) fun _ s34 =>
     q21 x10 x11 x12 x13 s34)
   else
     (k15 x10 s14)
set_option maxRecDepth 20000 in
set_option maxHeartbeats 4000000 in
theorem fPlate_init_l1_ok {E : Nat → Nat} (d : Nat) : ∀ (n : Nat) (x10 : Nat) (x11 : Nat) (x12 : Int) (x13 : Int) (s14 : zHp) (k15 : Nat → zHp → Option (Unit × zHp)) (hk15 : ∀ (y0 : Nat) (s : zHp), zE zI Jv E (d + 4) 88 (zB 88 3) ([some (.inr (.inr y0)), none, none, none, none, none, none]) ([]) s (k15 y0 s)), zE zI Jv E (d + 4) 88 (zB 88 1) ([some (.inr (.inr x10)), none, some (.inr (.inr x11)), some (.inl x12), none, some (.inl x13), none]) ([]) s14 (fPlate_init_l1 n x10 x11 x12 x13 s14 k15) := by
  intro n
  induction n with
  | zero => intro x10 x11 x12 x13 s14 k15 hk15; exact zE_none
  | succ n ih =>
    intro x10 x11 x12 x13 s14 k15 hk15
    unfold fPlate_init_l1
    refine zE_jn (fun q21 => ∀ (y0 : Nat) (y1 : Nat) (y2 : Int) (y3 : Int) (s : zHp), zE zI Jv E (d + 4) 88 (zB 88 2) ([some (.inr (.inr y0)), none, some (.inr (.inr y1)), some (.inl y2), none, some (.inl y3), none]) ([]) s (q21 y0 y1 y2 y3 s)) (fun x16 x17 x18 x19 s20 => ?_) (fun q21 hq21 => ?_)
    · refine zE_vl ?_
      refine zq_10_5 rfl ?_
      refine zq_56 ?_
      exact zE_w [true, false, true, true, false, true, false] (ih _ _ _ _ _ _ hk15)
    refine zq_4_5 ?_
    refine zq_6_0 ?_
    refine zh_61 ?_
    refine zh_72 ?_
    refine zq_49 ?_ ?_
    · refine zq_6_0 ?_
      refine zh_61 ?_
      refine zq_4_5 ?_
      refine zh_73 ?_
      refine zq_33 ?_
      refine zq_91_1v rfl rfl (fBar_init_ok (E := E) _ _ _) fun _ s28 => ?_
      refine zh_71 ?_
      refine zq_6_2 ?_
      refine zq_4_3 ?_
      refine zq_4_5 ?_
      refine zq_11 ?_
      refine zE_g fun hg => ?_
      refine zq_92_2r hg rfl rfl (fPart_barAsRead_ok (E := E) _ _ _ _) fun p30 s31 => ?_
      refine zq_9_6 rfl ?_
      refine zq_6_6 ?_
      refine zq_54 ?_ ?_
      · exact zE_w [true, false, true, true, false, true, false] (hq21 _ _ _ _ _)
      refine zq_6_0 ?_
      refine zh_61 ?_
      refine zq_4_5 ?_
      refine zh_67 ?_
      refine zq_6_6 ?_
      refine zq_1 ?_
      refine zE_g fun hg => ?_
      refine zq_92_3v hg rfl rfl (fBar_copyShifted_ok (E := E) _ _ _ _ _) fun _ s34 => ?_
      refine zq_57 ?_
      exact zE_w [true, false, true, true, false, true, false] (hq21 _ _ _ _ _)
    · exact zE_w [true, false, false, false, false, false, false] (hk15 _ _)
noncomputable def fPlate_init (a0 : Nat) (a1 : Int) (a2 : Nat) (a3 : Int) (a4 : Int) (s : zHp) : Option (Unit × zHp) :=
  yn0 a0 <| ybd (fThing_init a0 3 a1 s) fun _ s1 =>
  yna 30 4 s1 fun p2 s3 =>
  ypr 6 5 a0 p2 s3 fun s4 =>
  ypr 6 2 a0 a2 s4 fun s5 =>
  ypi 6 3 a0 a3 s5 fun s6 =>
  yna 36 (zmax 0 (zmin (zadd (zsub a4 a3) 1) 8)) s6 fun p7 s8 =>
  ypr 6 4 a0 p7 s8 fun s9 =>
  fPlate_init_l1 zFU a0 a2 a3 0 s9 (fun (x35 : Nat) (s36 : zHp) =>
   ygr 6 5 x35 s36 fun p37 =>
   ybd (fJArrays_fill p37 (-1) s36) fun _ s38 =>
   some ((), s38))
set_option maxRecDepth 20000 in
set_option maxHeartbeats 4000000 in
theorem fPlate_init_ok {E : Nat → Nat} (d : Nat) (a0 : Nat) (a1 : Int) (a2 : Nat) (a3 : Int) (a4 : Int) (s : zHp) : zE zI Jv E (d + 4) 88 (zB 88 0) (zent 7 [.inr (.inr a0), .inl a1, .inr (.inr a2), .inl a3, .inl a4]) [] s (fPlate_init a0 a1 a2 a3 a4 s) := by
  show zE _ _ _ _ _ _ [some (.inr (.inr a0)), some (.inl a1), some (.inr (.inr a2)), some (.inl a3), some (.inl a4), none, none] _ _ _
  unfold fPlate_init
  refine zq_6_0 ?_
  refine zq_1 ?_
  refine zq_4_1 ?_
  refine zq_91_3v rfl rfl (fThing_init_ok (E := E) _ _ _ _ _) fun _ s1 => ?_
  refine zq_6_0 ?_
  refine zq_1 ?_
  refine zh_74 ?_
  refine zh_64 ?_
  refine zq_6_0 ?_
  refine zq_6_2 ?_
  refine zh_64 ?_
  refine zq_6_0 ?_
  refine zq_4_3 ?_
  refine zh_62 ?_
  refine zq_6_0 ?_
  refine zq_1 ?_
  refine zq_4_4 ?_
  refine zq_4_3 ?_
  refine zq_12 ?_
  refine zq_1 ?_
  refine zq_11 ?_
  refine zq_1 ?_
  refine zq_37 rfl ?_
  refine zq_36 rfl ?_
  refine zh_75 ?_
  refine zh_64 ?_
  refine zq_1 ?_
  refine zq_7_5 rfl ?_
  refine zq_57 ?_
  refine zE_w [true, false, true, true, false, true, false] (fPlate_init_l1_ok (E := E) d zFU _ _ _ _ _ _ (fun x35 s36 => ?_))
  refine zq_6_0 ?_
  refine zh_61 ?_
  refine zq_1 ?_
  refine zq_90_2v rfl rfl (fJArrays_fill_ok (E := E) _ _ _ _) fun _ s38 => ?_
  exact zq_101
/-! 89: EngraversHouse.plate:(III)I -/
noncomputable def fH_plate (a0 : Nat) (a1 : Int) (a2 : Int) (a3 : Int) (s : zHp) : Option (Int × zHp) :=
  yck 10 a0 s <| ybd (fH_partAt a0 a1 s) fun p1 s2 =>
  if p1 = 0 then
    (yck 10 a0 s2 <| ybd (fH_lacking a0 a1 s2) fun v12 s13 =>
    some (v12, s13))
  else
    (if a2 < 0 then
      (some ((-2), s2))
    else
    if a3 < a2 then
      (some ((-2), s2))
    else
    yck 5 p1 s2 <| ybd (fPart_barCount p1 s2) fun v3 s4 =>
    if a3 < v3 then
      (if (zsub a3 a2) < 8 then
        (ygi 10 4 a0 s4 fun v5 =>
        if v5 < 60 then
          (ynw 6 6 s4 fun p6 s7 =>
          ygi 10 4 a0 s7 fun v8 =>
          yn0 p6 <| ybd (fPlate_init p6 v8 p1 a2 a3 s7) fun _ s9 =>
          yck 10 a0 s9 <| ybd (fH_keep a0 p6 s9) fun v10 s11 =>
          some (v10, s11))
        else
        some ((-4), s4))
      else
      some ((-2), s4))
    else
      (some ((-2), s4)))
theorem fH_plate_ok {E : Nat → Nat} (d : Nat) (a0 : Nat) (a1 : Int) (a2 : Int) (a3 : Int) (s : zHp) : zE zI Ji E (d + 5) 89 (zB 89 0) (zent 5 [.inr (.inr a0), .inl a1, .inl a2, .inl a3]) [] s (fH_plate a0 a1 a2 a3 s) := by
  show zE _ _ _ _ _ _ [some (.inr (.inr a0)), some (.inl a1), some (.inl a2), some (.inl a3), none] _ _ _
  unfold fH_plate
  refine zq_6_0 ?_
  refine zq_4_1 ?_
  refine zE_g fun hg => ?_
  refine zq_92_2r hg rfl rfl (fH_partAt_ok (E := E) _ _ _ _) fun p1 s2 => ?_
  refine zq_9_4 rfl ?_
  refine zq_6_4 ?_
  refine zq_55 ?_ ?_
  · refine zq_6_0 ?_
    refine zq_4_1 ?_
    refine zE_g fun hg => ?_
    refine zq_92_2i hg rfl rfl (fH_lacking_ok (E := E) _ _ _ _) fun v12 s13 => ?_
    exact zq_95 rfl
  · refine zq_4_2 ?_
    refine zq_42 ?_ ?_
    · refine zq_1 ?_
      exact zq_95 rfl
    refine zq_4_3 ?_
    refine zq_4_2 ?_
    refine zq_48 ?_ ?_
    · refine zq_1 ?_
      exact zq_95 rfl
    refine zq_4_3 ?_
    refine zq_6_4 ?_
    refine zE_g fun hg => ?_
    refine zq_92_1i hg rfl rfl (fPart_barCount_ok (E := E) _ _ _) fun v3 s4 => ?_
    refine zq_49 ?_ ?_
    · refine zq_4_3 ?_
      refine zq_4_2 ?_
      refine zq_12 ?_
      refine zq_1 ?_
      refine zq_48 ?_ ?_
      · refine zq_6_0 ?_
        refine zh_60 ?_
        refine zq_1 ?_
        refine zq_48 ?_ ?_
        · refine zq_6_0 ?_
          refine zh_73 ?_
          refine zq_33 ?_
          refine zq_6_0 ?_
          refine zh_60 ?_
          refine zq_6_4 ?_
          refine zq_4_2 ?_
          refine zq_4_3 ?_
          refine zq_91_5v rfl rfl (fPlate_init_ok (E := E) _ _ _ _ _ _ _) fun _ s9 => ?_
          refine zE_g fun hg => ?_
          refine zq_92_2i hg rfl rfl (fH_keep_ok (E := E) _ _ _ _) fun v10 s11 => ?_
          exact zq_95 rfl
        refine zq_1 ?_
        exact zq_95 rfl
      refine zq_57 ?_
      refine zq_1 ?_
      exact zq_95 rfl
    · refine zq_1 ?_
      exact zq_95 rfl
/-! 90: EngraversHouse.plateAt:(I)LEngraversHouse$Plate; -/
noncomputable def fH_plateAt (a0 : Nat) (a1 : Int) (s : zHp) : Option (Nat × zHp) :=
  yck 10 a0 s <| ybd (fH_thingAt a0 a1 s) fun p1 s2 =>
  yio 6 p1 s2 fun v3 =>
  if v3 = 0 then
    (some (0, s2))
  else
  yck 6 p1 s2 <|
  some (p1, s2)
theorem fH_plateAt_ok {E : Nat → Nat} (d : Nat) (a0 : Nat) (a1 : Int) (s : zHp) : zE zI Jr E (d + 1) 90 (zB 90 0) (zent 4 [.inr (.inr a0), .inl a1]) [] s (fH_plateAt a0 a1 s) := by
  show zE _ _ _ _ _ _ [some (.inr (.inr a0)), some (.inl a1), none, none] _ _ _
  unfold fH_plateAt
  refine zq_6_0 ?_
  refine zq_4_1 ?_
  refine zE_g fun hg => ?_
  refine zq_92_2r hg rfl rfl (fH_thingAt_ok (E := E) _ _ _ _) fun p1 s2 => ?_
  refine zq_9_3 rfl ?_
  refine zq_6_3 ?_
  refine zh_77 ?_
  refine zq_40 ?_ ?_
  · refine zq_3 ?_
    refine zq_57 ?_
    exact zq_100
  refine zq_6_3 ?_
  refine zh_78 ?_
  refine zq_9_2 rfl ?_
  refine zq_6_2 ?_
  refine zq_56 ?_
  exact zq_100
/-! 91: EngraversHouse$Plate.cutBar:(I)LEngraversHouse$Bar; -/
noncomputable def fPlate_cutBar (a0 : Nat) (a1 : Int) (s : zHp) : Option (Nat × zHp) :=
  ygi 6 3 a0 s fun v1 =>
  if a1 < v1 then
    (some (0, s))
  else
  ygi 6 3 a0 s fun v2 =>
  ygr 6 4 a0 s fun p3 =>
  yln p3 s fun v4 =>
  if (zsub a1 v2) < v4 then
    (ygr 6 4 a0 s fun p5 =>
    ygi 6 3 a0 s fun v6 =>
    yar p5 (zsub a1 v6) s fun p7 =>
    some (p7, s))
  else
    (some (0, s))
theorem fPlate_cutBar_ok {E : Nat → Nat} (d : Nat) (a0 : Nat) (a1 : Int) (s : zHp) : zE zI Jr E (d + 0) 91 (zB 91 0) (zent 2 [.inr (.inr a0), .inl a1]) [] s (fPlate_cutBar a0 a1 s) := by
  show zE _ _ _ _ _ _ [some (.inr (.inr a0)), some (.inl a1)] _ _ _
  unfold fPlate_cutBar
  refine zq_4_1 ?_
  refine zq_6_0 ?_
  refine zh_60 ?_
  refine zq_48 ?_ ?_
  · refine zq_3 ?_
    refine zq_57 ?_
    exact zq_100
  refine zq_4_1 ?_
  refine zq_6_0 ?_
  refine zh_60 ?_
  refine zq_12 ?_
  refine zq_6_0 ?_
  refine zh_61 ?_
  refine zh_72 ?_
  refine zq_49 ?_ ?_
  · refine zq_6_0 ?_
    refine zh_61 ?_
    refine zq_4_1 ?_
    refine zq_6_0 ?_
    refine zh_60 ?_
    refine zq_12 ?_
    refine zh_67 ?_
    refine zq_56 ?_
    exact zq_100
  · refine zq_3 ?_
    refine zq_57 ?_
    exact zq_100
/-! 92: EngraversHouse.mend:(IIII)I -/
noncomputable def fH_mend (a0 : Nat) (a1 : Int) (a2 : Int) (a3 : Int) (a4 : Int) (s : zHp) : Option (Int × zHp) :=
  yck 10 a0 s <| ybd (fH_plateAt a0 a1 s) fun p1 s2 =>
  if p1 = 0 then
    (yck 10 a0 s2 <| ybd (fH_lacking a0 a1 s2) fun v9 s10 =>
    some (v9, s10))
  else
    (yck 6 p1 s2 <| ybd (fPlate_cutBar p1 a2 s2) fun p3 s4 =>
    if p3 = 0 then
      (some ((-1), s4))
    else
    yck 0 p3 s4 <| ybd (fBar_hasNote p3 a3 s4) fun v5 s6 =>
    if v5 = 0 then
      (some ((-1), s6))
    else
      (ybd (fH_repitched p3 a3 a4 72 s6) fun v7 s8 =>
      some (v7, s8)))
theorem fH_mend_ok {E : Nat → Nat} (d : Nat) (a0 : Nat) (a1 : Int) (a2 : Int) (a3 : Int) (a4 : Int) (s : zHp) : zE zI Ji E (d + 3) 92 (zB 92 0) (zent 7 [.inr (.inr a0), .inl a1, .inl a2, .inl a3, .inl a4]) [] s (fH_mend a0 a1 a2 a3 a4 s) := by
  show zE _ _ _ _ _ _ [some (.inr (.inr a0)), some (.inl a1), some (.inl a2), some (.inl a3), some (.inl a4), none, none] _ _ _
  unfold fH_mend
  refine zq_6_0 ?_
  refine zq_4_1 ?_
  refine zE_g fun hg => ?_
  refine zq_92_2r hg rfl rfl (fH_plateAt_ok (E := E) _ _ _ _) fun p1 s2 => ?_
  refine zq_9_5 rfl ?_
  refine zq_6_5 ?_
  refine zq_55 ?_ ?_
  · refine zq_6_0 ?_
    refine zq_4_1 ?_
    refine zE_g fun hg => ?_
    refine zq_92_2i hg rfl rfl (fH_lacking_ok (E := E) _ _ _ _) fun v9 s10 => ?_
    exact zq_95 rfl
  · refine zq_6_5 ?_
    refine zq_4_2 ?_
    refine zE_g fun hg => ?_
    refine zq_92_2r hg rfl rfl (fPlate_cutBar_ok (E := E) _ _ _ _) fun p3 s4 => ?_
    refine zq_9_6 rfl ?_
    refine zq_6_6 ?_
    refine zq_54 ?_ ?_
    · refine zq_1 ?_
      exact zq_95 rfl
    refine zq_6_6 ?_
    refine zq_4_3 ?_
    refine zE_g fun hg => ?_
    refine zq_92_2i hg rfl rfl (fBar_hasNote_ok (E := E) _ _ _ _) fun v5 s6 => ?_
    refine zq_41 ?_ ?_
    · refine zq_57 ?_
      refine zq_1 ?_
      exact zq_95 rfl
    · refine zq_6_6 ?_
      refine zq_4_3 ?_
      refine zq_4_4 ?_
      refine zq_1 ?_
      refine zq_90_4i rfl rfl (fH_repitched_ok (E := E) _ _ _ _ _ _) fun v7 s8 => ?_
      exact zq_95 rfl
/-! 93: EngraversHouse$Bar.sameNotes:(LEngraversHouse$Bar;)Z -/
noncomputable def fBar_sameNotes_l3 : Nat → Nat → Nat → Int → Int → zHp → Option (Int × zHp)
  | 0, _, _, _, _, _ => none
  | n + 1, x6, x7, x8, x9, s10 =>
   yjn (fun (x11 : Nat) (x12 : Nat) (x13 : Int) (x14 : Int) (s15 : zHp) =>
    yvl (zadd x13 1) fun v17 =>
    fBar_sameNotes_l3 n x11 x12 x14 v17 s15) fun q16 =>
    ygi 0 1 x6 s10 fun v18 =>
   if x9 < v18 then
     (if x8 = 0 then
       (yrb x8 s10)
     else
     ygr 0 0 x6 s10 fun p19 =>
     yai p19 x9 s10 fun v20 =>
     ygr 0 0 x7 s10 fun p21 =>
     yai p21 x9 s10 fun v22 =>
     if v20 = v22 then
       (q16 x6 x7 x9 1 s10)
     else
       (q16 x6 x7 x9 0 s10))
   else
     (yrb x8 s10)
theorem fBar_sameNotes_l3_ok {E : Nat → Nat} (d : Nat) : ∀ (n : Nat) (x6 : Nat) (x7 : Nat) (x8 : Int) (x9 : Int) (s10 : zHp), zE zI Ji E (d + 0) 93 (zB 93 3) ([some (.inr (.inr x6)), some (.inr (.inr x7)), some (.inl x8), some (.inl x9)]) ([]) s10 (fBar_sameNotes_l3 n x6 x7 x8 x9 s10) := by
  intro n
  induction n with
  | zero => intro x6 x7 x8 x9 s10; exact zE_none
  | succ n ih =>
    intro x6 x7 x8 x9 s10
    unfold fBar_sameNotes_l3
    refine zE_jn (fun q16 => ∀ (y0 : Nat) (y1 : Nat) (y2 : Int) (y3 : Int) (s : zHp), zE zI Ji E (d + 0) 93 (zB 93 5) ([some (.inr (.inr y0)), some (.inr (.inr y1)), none, some (.inl y2)]) ([.inl y3]) s (q16 y0 y1 y2 y3 s)) (fun x11 x12 x13 x14 s15 => ?_) (fun q16 hq16 => ?_)
    · refine zq_7_2 rfl ?_
      refine zE_vl ?_
      refine zq_10_3 rfl ?_
      refine zq_56 ?_
      exact zE_w [true, true, true, true] (ih _ _ _ _ _)
    refine zq_4_3 ?_
    refine zq_6_0 ?_
    refine zh_60 ?_
    refine zq_49 ?_ ?_
    · refine zq_4_2 ?_
      refine zq_40 ?_ ?_
      · refine zq_4_2 ?_
        exact zq_96
      refine zq_6_0 ?_
      refine zh_61 ?_
      refine zq_4_3 ?_
      refine zh_65 ?_
      refine zq_6_1 ?_
      refine zh_61 ?_
      refine zq_4_3 ?_
      refine zh_65 ?_
      refine zq_47 ?_ ?_
      · refine zq_1 ?_
        refine zq_56 ?_
        exact zE_w [true, true, false, true] (hq16 _ _ _ _ _)
      · refine zq_1 ?_
        refine zq_57 ?_
        exact zE_w [true, true, false, true] (hq16 _ _ _ _ _)
    · refine zq_4_2 ?_
      exact zq_96
noncomputable def fBar_sameNotes (a0 : Nat) (a1 : Nat) (s : zHp) : Option (Int × zHp) :=
  yjn (fun (x1 : Nat) (x2 : Nat) (x3 : Int) (s4 : zHp) =>
   fBar_sameNotes_l3 zFU x1 x2 x3 0 s4) fun q5 =>
   ygi 0 1 a0 s fun v23 =>
  ygi 0 1 a1 s fun v24 =>
  if v23 = v24 then
    (q5 a0 a1 1 s)
  else
    (q5 a0 a1 0 s)
theorem fBar_sameNotes_ok {E : Nat → Nat} (d : Nat) (a0 : Nat) (a1 : Nat) (s : zHp) : zE zI Ji E (d + 0) 93 (zB 93 0) (zent 4 [.inr (.inr a0), .inr (.inr a1)]) [] s (fBar_sameNotes a0 a1 s) := by
  show zE _ _ _ _ _ _ [some (.inr (.inr a0)), some (.inr (.inr a1)), none, none] _ _ _
  unfold fBar_sameNotes
  refine zE_jn (fun q5 => ∀ (y0 : Nat) (y1 : Nat) (y2 : Int) (s : zHp), zE zI Ji E (d + 0) 93 (zB 93 2) ([some (.inr (.inr y0)), some (.inr (.inr y1)), none, none]) ([.inl y2]) s (q5 y0 y1 y2 s)) (fun x1 x2 x3 s4 => ?_) (fun q5 hq5 => ?_)
  · refine zq_7_2 rfl ?_
    refine zq_1 ?_
    refine zq_7_3 rfl ?_
    refine zq_57 ?_
    exact zE_w [true, true, true, true] (fBar_sameNotes_l3_ok (E := E) d zFU _ _ _ _ _)
  refine zq_6_0 ?_
  refine zh_60 ?_
  refine zq_6_1 ?_
  refine zh_60 ?_
  refine zq_47 ?_ ?_
  · refine zq_1 ?_
    refine zq_56 ?_
    exact zE_w [true, true, false, false] (hq5 _ _ _ _)
  · refine zq_1 ?_
    refine zq_57 ?_
    exact zE_w [true, true, false, false] (hq5 _ _ _ _)
/-! 94: EngraversHouse$Plate.unlikeBars:()I -/
noncomputable def fPlate_unlikeBars_l1 : Nat → Nat → Int → Int → zHp → Option (Int × zHp)
  | 0, _, _, _, _ => none
  | n + 1, x1, x2, x3, s4 =>
   yjn (fun (x5 : Nat) (x6 : Int) (x7 : Int) (s8 : zHp) =>
    yvl (zadd x7 1) fun v10 =>
    fPlate_unlikeBars_l1 n x5 x6 v10 s8) fun q9 =>
    yjn (fun (x11 : Nat) (x12 : Int) (x13 : Int) (s14 : zHp) =>
    yvl (zor x12 (zshl 1 x13)) fun v16 =>
    q9 x11 v16 x13 s14) fun q15 =>
    ygr 6 4 x1 s4 fun p17 =>
   yln p17 s4 fun v18 =>
   if x3 < v18 then
     (ygr 6 2 x1 s4 fun p19 =>
     ygi 6 3 x1 s4 fun v20 =>
     yck 5 p19 s4 <| ybd (fPart_barAsRead p19 (zadd v20 x3) s4) fun p21 s22 =>
     if p21 = 0 then
       (q15 x1 x2 x3 s22)
     else
     ygr 6 4 x1 s22 fun p23 =>
     yar p23 x3 s22 fun p24 =>
     if p24 = 0 then
       (q15 x1 x2 x3 s22)
     else
     ygr 6 4 x1 s22 fun p25 =>
     yar p25 x3 s22 fun p26 =>
     yck 0 p21 s22 <| ybd (fBar_sameNotes p21 p26 s22) fun v27 s28 =>
     if v27 = 0 then
       (q15 x1 x2 x3 s28)
     else
       (q9 x1 x2 x3 s28))
   else
     (some (x2, s4))
theorem fPlate_unlikeBars_l1_ok {E : Nat → Nat} (d : Nat) : ∀ (n : Nat) (x1 : Nat) (x2 : Int) (x3 : Int) (s4 : zHp), zE zI Ji E (d + 4) 94 (zB 94 1) ([some (.inr (.inr x1)), some (.inl x2), some (.inl x3), none]) ([]) s4 (fPlate_unlikeBars_l1 n x1 x2 x3 s4) := by
  intro n
  induction n with
  | zero => intro x1 x2 x3 s4; exact zE_none
  | succ n ih =>
    intro x1 x2 x3 s4
    unfold fPlate_unlikeBars_l1
    refine zE_jn (fun q9 => ∀ (y0 : Nat) (y1 : Int) (y2 : Int) (s : zHp), zE zI Ji E (d + 4) 94 (zB 94 3) ([some (.inr (.inr y0)), some (.inl y1), some (.inl y2), none]) ([]) s (q9 y0 y1 y2 s)) (fun x5 x6 x7 s8 => ?_) (fun q9 hq9 => ?_)
    · refine zE_vl ?_
      refine zq_10_2 rfl ?_
      refine zq_56 ?_
      exact zE_w [true, true, true, false] (ih _ _ _ _)
    refine zE_jn (fun q15 => ∀ (y0 : Nat) (y1 : Int) (y2 : Int) (s : zHp), zE zI Ji E (d + 4) 94 (zB 94 2) ([some (.inr (.inr y0)), some (.inl y1), some (.inl y2), none]) ([]) s (q15 y0 y1 y2 s)) (fun x11 x12 x13 s14 => ?_) (fun q15 hq15 => ?_)
    · refine zq_4_1 ?_
      refine zq_1 ?_
      refine zq_4_2 ?_
      refine zq_17 ?_
      refine zq_21 ?_
      refine zE_vl ?_
      refine zq_7_1 rfl ?_
      refine zq_57 ?_
      exact zE_w [true, true, true, false] (hq9 _ _ _ _)
    refine zq_4_2 ?_
    refine zq_6_0 ?_
    refine zh_61 ?_
    refine zh_72 ?_
    refine zq_49 ?_ ?_
    · refine zq_6_0 ?_
      refine zh_61 ?_
      refine zq_6_0 ?_
      refine zh_60 ?_
      refine zq_4_2 ?_
      refine zq_11 ?_
      refine zE_g fun hg => ?_
      refine zq_92_2r hg rfl rfl (fPart_barAsRead_ok (E := E) _ _ _ _) fun p21 s22 => ?_
      refine zq_9_3 rfl ?_
      refine zq_6_3 ?_
      refine zq_54 ?_ ?_
      · exact zE_w [true, true, true, false] (hq15 _ _ _ _)
      refine zq_6_0 ?_
      refine zh_61 ?_
      refine zq_4_2 ?_
      refine zh_67 ?_
      refine zq_54 ?_ ?_
      · exact zE_w [true, true, true, false] (hq15 _ _ _ _)
      refine zq_6_3 ?_
      refine zq_6_0 ?_
      refine zh_61 ?_
      refine zq_4_2 ?_
      refine zh_67 ?_
      refine zE_g fun hg => ?_
      refine zq_92_2i hg rfl rfl (fBar_sameNotes_ok (E := E) _ _ _ _) fun v27 s28 => ?_
      refine zq_41 ?_ ?_
      · refine zq_57 ?_
        exact zE_w [true, true, true, false] (hq15 _ _ _ _)
      · exact zE_w [true, true, true, false] (hq9 _ _ _ _)
    · refine zq_4_1 ?_
      exact zq_95 rfl
noncomputable def fPlate_unlikeBars (a0 : Nat) (s : zHp) : Option (Int × zHp) :=
  fPlate_unlikeBars_l1 zFU a0 0 0 s
theorem fPlate_unlikeBars_ok {E : Nat → Nat} (d : Nat) (a0 : Nat) (s : zHp) : zE zI Ji E (d + 4) 94 (zB 94 0) (zent 4 [.inr (.inr a0)]) [] s (fPlate_unlikeBars a0 s) := by
  show zE _ _ _ _ _ _ [some (.inr (.inr a0)), none, none, none] _ _ _
  unfold fPlate_unlikeBars
  refine zq_1 ?_
  refine zq_7_1 rfl ?_
  refine zq_1 ?_
  refine zq_7_2 rfl ?_
  refine zq_57 ?_
  exact zE_w [true, true, true, false] (fPlate_unlikeBars_l1_ok (E := E) d zFU _ _ _ _)
/-! 95: EngraversHouse.differs:(II)I -/
noncomputable def fH_differs (a0 : Nat) (a1 : Int) (a2 : Int) (s : zHp) : Option (Int × zHp) :=
  yck 10 a0 s <| ybd (fH_thingAt a0 a1 s) fun p1 s2 =>
  if p1 = 0 then
    (some ((-1), s2))
  else
  ybd (fH_within a2 0 1 s2) fun v3 s4 =>
  if v3 = 0 then
    (some ((-1), s4))
  else
    (yck 10 a0 s4 <| ybd (fH_plateAt a0 a1 s4) fun p5 s6 =>
    if p5 = 0 then
      (some ((-12), s6))
    else
      (yck 6 p5 s6 <| ybd (fPlate_unlikeBars p5 s6) fun v7 s8 =>
      if a2 = 0 then
        (ybd (fJInteger_bitCount v7 s8) fun v12 s13 =>
        some (v12, s13))
      else
        (if v7 = 0 then
          (some ((-1), s8))
        else
          (ygi 6 3 p5 s8 fun v9 =>
          ybd (fJInteger_numberOfTrailingZeros v7 s8) fun v10 s11 =>
          some (zadd v9 v10, s11)))))
theorem fH_differs_ok {E : Nat → Nat} (d : Nat) (a0 : Nat) (a1 : Int) (a2 : Int) (s : zHp) : zE zI Ji E (d + 5) 95 (zB 95 0) (zent 5 [.inr (.inr a0), .inl a1, .inl a2]) [] s (fH_differs a0 a1 a2 s) := by
  show zE _ _ _ _ _ _ [some (.inr (.inr a0)), some (.inl a1), some (.inl a2), none, none] _ _ _
  unfold fH_differs
  refine zq_6_0 ?_
  refine zq_4_1 ?_
  refine zE_g fun hg => ?_
  refine zq_92_2r hg rfl rfl (fH_thingAt_ok (E := E) _ _ _ _) fun p1 s2 => ?_
  refine zq_54 ?_ ?_
  · refine zq_1 ?_
    exact zq_95 rfl
  refine zq_4_2 ?_
  refine zq_1 ?_
  refine zq_1 ?_
  refine zq_90_3i rfl rfl (fH_within_ok (E := E) _ _ _ _ _) fun v3 s4 => ?_
  refine zq_41 ?_ ?_
  · refine zq_57 ?_
    refine zq_1 ?_
    exact zq_95 rfl
  · refine zq_6_0 ?_
    refine zq_4_1 ?_
    refine zE_g fun hg => ?_
    refine zq_92_2r hg rfl rfl (fH_plateAt_ok (E := E) _ _ _ _) fun p5 s6 => ?_
    refine zq_9_3 rfl ?_
    refine zq_6_3 ?_
    refine zq_55 ?_ ?_
    · refine zq_1 ?_
      exact zq_95 rfl
    · refine zq_6_3 ?_
      refine zE_g fun hg => ?_
      refine zq_92_1i hg rfl rfl (fPlate_unlikeBars_ok (E := E) _ _ _) fun v7 s8 => ?_
      refine zq_7_4 rfl ?_
      refine zq_4_2 ?_
      refine zq_41 ?_ ?_
      · refine zq_4_4 ?_
        refine zq_90_1i rfl rfl (fJInteger_bitCount_ok (E := E) _ _ _) fun v12 s13 => ?_
        exact zq_95 rfl
      · refine zq_4_4 ?_
        refine zq_41 ?_ ?_
        · refine zq_1 ?_
          refine zq_56 ?_
          exact zq_95 rfl
        · refine zq_6_3 ?_
          refine zh_60 ?_
          refine zq_4_4 ?_
          refine zq_90_1i rfl rfl (fJInteger_numberOfTrailingZeros_ok (E := E) _ _ _) fun v10 s11 => ?_
          refine zq_11 ?_
          refine zq_57 ?_
          exact zq_95 rfl
/-! 96: EngraversHouse.press:(I)I -/
noncomputable def fH_press (a0 : Nat) (a1 : Int) (s : zHp) : Option (Int × zHp) :=
  yck 10 a0 s <| ybd (fH_plateAt a0 a1 s) fun p1 s2 =>
  if p1 = 0 then
    (yck 10 a0 s2 <| ybd (fH_lacking a0 a1 s2) fun v23 s24 =>
    some (v23, s24))
  else
    (yjn (fun (x3 : Nat) (x4 : Nat) (s5 : zHp) =>
     ygi 10 7 x3 s5 fun v7 =>
     if v7 < 12 then
       (ygr 10 6 x3 s5 fun p8 =>
       ygi 10 7 x3 s5 fun v9 =>
       ysr p8 v9 x4 s5 fun s10 =>
       ygi 10 7 x3 s10 fun v11 =>
       ypi 10 7 x3 (zadd v11 1) s10 fun s12 =>
       ygi 10 7 x3 s12 fun v13 =>
       some (v13, s12))
     else
     some ((-4), s5)) fun q6 =>
     ygi 10 7 a0 s2 fun v14 =>
    if 0 < v14 then
      (ygr 10 6 a0 s2 fun p15 =>
      yar p15 0 s2 fun p16 =>
      if p16 = 0 then
        (q6 a0 p1 s2)
      else
      ygr 10 6 a0 s2 fun p17 =>
      yar p17 0 s2 fun p18 =>
      ygr 6 2 p18 s2 fun p19 =>
      ygr 5 2 p19 s2 fun p20 =>
      ygr 6 2 p1 s2 fun p21 =>
      ygr 5 2 p21 s2 fun p22 =>
      if p20 = p22 then
        (q6 a0 p1 s2)
      else
      some ((-3), s2))
    else
      (q6 a0 p1 s2))
theorem fH_press_ok {E : Nat → Nat} (d : Nat) (a0 : Nat) (a1 : Int) (s : zHp) : zE zI Ji E (d + 2) 96 (zB 96 0) (zent 3 [.inr (.inr a0), .inl a1]) [] s (fH_press a0 a1 s) := by
  show zE _ _ _ _ _ _ [some (.inr (.inr a0)), some (.inl a1), none] _ _ _
  unfold fH_press
  refine zq_6_0 ?_
  refine zq_4_1 ?_
  refine zE_g fun hg => ?_
  refine zq_92_2r hg rfl rfl (fH_plateAt_ok (E := E) _ _ _ _) fun p1 s2 => ?_
  refine zq_9_2 rfl ?_
  refine zq_6_2 ?_
  refine zq_55 ?_ ?_
  · refine zq_6_0 ?_
    refine zq_4_1 ?_
    refine zE_g fun hg => ?_
    refine zq_92_2i hg rfl rfl (fH_lacking_ok (E := E) _ _ _ _) fun v23 s24 => ?_
    exact zq_95 rfl
  · refine zE_jn (fun q6 => ∀ (y0 : Nat) (y1 : Nat) (s : zHp), zE zI Ji E (d + 2) 96 (zB 96 2) ([some (.inr (.inr y0)), none, some (.inr (.inr y1))]) ([]) s (q6 y0 y1 s)) (fun x3 x4 s5 => ?_) (fun q6 hq6 => ?_)
    · refine zq_6_0 ?_
      refine zh_60 ?_
      refine zq_1 ?_
      refine zq_48 ?_ ?_
      · refine zq_6_0 ?_
        refine zh_61 ?_
        refine zq_6_0 ?_
        refine zh_60 ?_
        refine zq_6_2 ?_
        refine zh_71 ?_
        refine zq_6_0 ?_
        refine zq_33 ?_
        refine zh_60 ?_
        refine zq_1 ?_
        refine zq_11 ?_
        refine zh_62 ?_
        refine zq_6_0 ?_
        refine zh_60 ?_
        exact zq_95 rfl
      refine zq_1 ?_
      exact zq_95 rfl
    refine zq_6_0 ?_
    refine zh_60 ?_
    refine zq_45 ?_ ?_
    · refine zq_6_0 ?_
      refine zh_61 ?_
      refine zq_1 ?_
      refine zh_67 ?_
      refine zq_54 ?_ ?_
      · exact zE_w [true, false, true] (hq6 _ _ _)
      refine zq_6_0 ?_
      refine zh_61 ?_
      refine zq_1 ?_
      refine zh_67 ?_
      refine zh_61 ?_
      refine zh_61 ?_
      refine zq_6_2 ?_
      refine zh_61 ?_
      refine zh_61 ?_
      refine zq_52 ?_ ?_
      · exact zE_w [true, false, true] (hq6 _ _ _)
      refine zq_1 ?_
      exact zq_95 rfl
    · exact zE_w [true, false, true] (hq6 _ _ _)
/-! 97: EngraversHouse$Edition.<init>:(ILEngraversHouse$Score;I)V -/
noncomputable def fEdition_init (a0 : Nat) (a1 : Int) (a2 : Nat) (a3 : Int) (s : zHp) : Option (Unit × zHp) :=
  yn0 a0 <| ybd (fThing_init a0 4 a1 s) fun _ s1 =>
  ypi 2 4 a0 0 s1 fun s2 =>
  yna 36 80 s2 fun p3 s4 =>
  ypr 2 5 a0 p3 s4 fun s5 =>
  yna 30 21 s5 fun p6 s7 =>
  ypr 2 7 a0 p6 s7 fun s8 =>
  yna 30 21 s8 fun p9 s10 =>
  ypr 2 8 a0 p9 s10 fun s11 =>
  ypz 2 9 a0 0 s11 fun s12 =>
  ypi 2 10 a0 (-1) s12 fun s13 =>
  ypi 2 11 a0 0 s13 fun s14 =>
  ypr 2 2 a0 a2 s14 fun s15 =>
  ypi 2 3 a0 a3 s15 fun s16 =>
  yna 30 (zmax 0 a1) s16 fun p17 s18 =>
  ypr 2 6 a0 p17 s18 fun s19 =>
  ygr 2 6 a0 s19 fun p20 =>
  ybd (fJArrays_fill p20 (-1) s19) fun _ s21 =>
  some ((), s21)
set_option maxRecDepth 20000 in
set_option maxHeartbeats 4000000 in
theorem fEdition_init_ok {E : Nat → Nat} (d : Nat) (a0 : Nat) (a1 : Int) (a2 : Nat) (a3 : Int) (s : zHp) : zE zI Jv E (d + 1) 97 (zB 97 0) (zent 4 [.inr (.inr a0), .inl a1, .inr (.inr a2), .inl a3]) [] s (fEdition_init a0 a1 a2 a3 s) := by
  show zE _ _ _ _ _ _ [some (.inr (.inr a0)), some (.inl a1), some (.inr (.inr a2)), some (.inl a3)] _ _ _
  unfold fEdition_init
  refine zq_6_0 ?_
  refine zq_1 ?_
  refine zq_4_1 ?_
  refine zq_91_3v rfl rfl (fThing_init_ok (E := E) _ _ _ _ _) fun _ s1 => ?_
  refine zq_6_0 ?_
  refine zq_1 ?_
  refine zh_62 ?_
  refine zq_6_0 ?_
  refine zq_1 ?_
  refine zh_75 ?_
  refine zh_64 ?_
  refine zq_6_0 ?_
  refine zq_1 ?_
  refine zh_74 ?_
  refine zh_64 ?_
  refine zq_6_0 ?_
  refine zq_1 ?_
  refine zh_74 ?_
  refine zh_64 ?_
  refine zq_6_0 ?_
  refine zq_1 ?_
  refine zh_63 ?_
  refine zq_6_0 ?_
  refine zq_1 ?_
  refine zh_62 ?_
  refine zq_6_0 ?_
  refine zq_1 ?_
  refine zh_62 ?_
  refine zq_6_0 ?_
  refine zq_6_2 ?_
  refine zh_64 ?_
  refine zq_6_0 ?_
  refine zq_4_3 ?_
  refine zh_62 ?_
  refine zq_6_0 ?_
  refine zq_1 ?_
  refine zq_4_1 ?_
  refine zq_36 rfl ?_
  refine zh_74 ?_
  refine zh_64 ?_
  refine zq_6_0 ?_
  refine zh_61 ?_
  refine zq_1 ?_
  refine zq_90_2v rfl rfl (fJArrays_fill_ok (E := E) _ _ _ _) fun _ s21 => ?_
  exact zq_101
/-! 98: EngraversHouse$Edition.takePlate:(LEngraversHouse$Plate;)V -/
noncomputable def fEdition_takePlate_l3 : Nat → Nat → Nat → Int → zHp → Option (Unit × zHp)
  | 0, _, _, _, _ => none
  | n + 1, x5, x6, x7, s8 =>
   yjn (fun (x9 : Nat) (x10 : Nat) (x11 : Int) (s12 : zHp) =>
    yvl (zadd x11 1) fun v14 =>
    fEdition_takePlate_l3 n x9 x10 v14 s12) fun q13 =>
    yjn (fun (x15 : Nat) (x16 : Nat) (x17 : Int) (x18 : Int) (s19 : zHp) =>
    ygr 2 5 x15 s19 fun p21 =>
    yar p21 x18 s19 fun p22 =>
    ygr 6 4 x16 s19 fun p23 =>
    yar p23 x17 s19 fun p24 =>
    ygr 6 2 x16 s19 fun p25 =>
    ygi 5 4 p25 s19 fun v26 =>
    yck 0 p22 s19 <| ybd (fBar_copyShifted p22 p24 (zneg v26) s19) fun _ s27 =>
    q13 x15 x16 x17 s27) fun q20 =>
    ygr 6 4 x6 s8 fun p28 =>
   yln p28 s8 fun v29 =>
   if x7 < v29 then
     (ygr 6 2 x6 s8 fun p30 =>
     ygi 5 3 p30 s8 fun v31 =>
     ygi 6 3 x6 s8 fun v32 =>
     yvl (zadd (zadd (zmul v31 20) v32) x7) fun v33 =>
     ygr 6 4 x6 s8 fun p34 =>
     yar p34 x7 s8 fun p35 =>
     if p35 = 0 then
       (q13 x5 x6 x7 s8)
     else
     if v33 < (0 : Int) then
       (q13 x5 x6 x7 s8)
     else
     ygr 2 5 x5 s8 fun p36 =>
     yln p36 s8 fun v37 =>
     if v33 < v37 then
       (ygr 2 5 x5 s8 fun p38 =>
       yar p38 v33 s8 fun p39 =>
       if p39 = 0 then
         (ygr 2 5 x5 s8 fun p40 =>
         ynw 0 3 s8 fun p41 s42 =>
         yn0 p41 <| ybd (fBar_init p41 s42) fun _ s43 =>
         ysr p40 v33 p41 s43 fun s44 =>
         q20 x5 x6 x7 v33 s44)
       else
         (q20 x5 x6 x7 v33 s8))
     else
       (q13 x5 x6 x7 s8))
   else
     (some ((), s8))
theorem fEdition_takePlate_l3_ok {E : Nat → Nat} (d : Nat) : ∀ (n : Nat) (x5 : Nat) (x6 : Nat) (x7 : Int) (s8 : zHp), zE zI Jv E (d + 3) 98 (zB 98 3) ([some (.inr (.inr x5)), some (.inr (.inr x6)), some (.inl x7), none]) ([]) s8 (fEdition_takePlate_l3 n x5 x6 x7 s8) := by
  intro n
  induction n with
  | zero => intro x5 x6 x7 s8; exact zE_none
  | succ n ih =>
    intro x5 x6 x7 s8
    unfold fEdition_takePlate_l3
    refine zE_jn (fun q13 => ∀ (y0 : Nat) (y1 : Nat) (y2 : Int) (s : zHp), zE zI Jv E (d + 3) 98 (zB 98 5) ([some (.inr (.inr y0)), some (.inr (.inr y1)), some (.inl y2), none]) ([]) s (q13 y0 y1 y2 s)) (fun x9 x10 x11 s12 => ?_) (fun q13 hq13 => ?_)
    · refine zE_vl ?_
      refine zq_10_2 rfl ?_
      refine zq_56 ?_
      exact zE_w [true, true, true, false] (ih _ _ _ _)
    refine zE_jn (fun q20 => ∀ (y0 : Nat) (y1 : Nat) (y2 : Int) (y3 : Int) (s : zHp), zE zI Jv E (d + 3) 98 (zB 98 4) ([some (.inr (.inr y0)), some (.inr (.inr y1)), some (.inl y2), some (.inl y3)]) ([]) s (q20 y0 y1 y2 y3 s)) (fun x15 x16 x17 x18 s19 => ?_) (fun q20 hq20 => ?_)
    · refine zq_6_0 ?_
      refine zh_61 ?_
      refine zq_4_3 ?_
      refine zh_67 ?_
      refine zq_6_1 ?_
      refine zh_61 ?_
      refine zq_4_2 ?_
      refine zh_67 ?_
      refine zq_6_1 ?_
      refine zh_61 ?_
      refine zh_60 ?_
      refine zq_16 ?_
      refine zE_g fun hg => ?_
      refine zq_92_3v hg rfl rfl (fBar_copyShifted_ok (E := E) _ _ _ _ _) fun _ s27 => ?_
      refine zq_57 ?_
      exact zE_w [true, true, true, false] (hq13 _ _ _ _)
    refine zq_4_2 ?_
    refine zq_6_1 ?_
    refine zh_61 ?_
    refine zh_72 ?_
    refine zq_49 ?_ ?_
    · refine zq_6_1 ?_
      refine zh_61 ?_
      refine zh_60 ?_
      refine zq_1 ?_
      refine zq_13 ?_
      refine zq_6_1 ?_
      refine zh_60 ?_
      refine zq_11 ?_
      refine zq_4_2 ?_
      refine zq_11 ?_
      refine zE_vl ?_
      refine zq_7_3 rfl ?_
      refine zq_6_1 ?_
      refine zh_61 ?_
      refine zq_4_2 ?_
      refine zh_67 ?_
      refine zq_54 ?_ ?_
      · exact zE_w [true, true, true, false] (hq13 _ _ _ _)
      refine zq_1 ?_
      refine zq_4_3 ?_
      refine zq_50 ?_ ?_
      · exact zE_w [true, true, true, false] (hq13 _ _ _ _)
      refine zq_4_3 ?_
      refine zq_6_0 ?_
      refine zh_61 ?_
      refine zh_72 ?_
      refine zq_49 ?_ ?_
      · refine zq_6_0 ?_
        refine zh_61 ?_
        refine zq_4_3 ?_
        refine zh_67 ?_
        refine zq_55 ?_ ?_
        · refine zq_6_0 ?_
          refine zh_61 ?_
          refine zq_4_3 ?_
          refine zh_73 ?_
          refine zq_33 ?_
          refine zq_91_1v rfl rfl (fBar_init_ok (E := E) _ _ _) fun _ s43 => ?_
          refine zh_71 ?_
          refine zq_57 ?_
          exact zE_w [true, true, true, true] (hq20 _ _ _ _ _)
        · exact zE_w [true, true, true, true] (hq20 _ _ _ _ _)
      · exact zE_w [true, true, true, false] (hq13 _ _ _ _)
    · exact zq_101
noncomputable def fEdition_takePlate (a0 : Nat) (a1 : Nat) (s : zHp) : Option (Unit × zHp) :=
  if a1 = 0 then
    (some ((), s))
  else
  ygr 6 2 a1 s fun p1 =>
  ygi 5 3 p1 s fun v2 =>
  ybd (fH_within v2 0 3 s) fun v3 s4 =>
  if v3 = 0 then
    (some ((), s4))
  else
    (fEdition_takePlate_l3 zFU a0 a1 0 s4)
theorem fEdition_takePlate_ok {E : Nat → Nat} (d : Nat) (a0 : Nat) (a1 : Nat) (s : zHp) : zE zI Jv E (d + 3) 98 (zB 98 0) (zent 4 [.inr (.inr a0), .inr (.inr a1)]) [] s (fEdition_takePlate a0 a1 s) := by
  show zE _ _ _ _ _ _ [some (.inr (.inr a0)), some (.inr (.inr a1)), none, none] _ _ _
  unfold fEdition_takePlate
  refine zq_6_1 ?_
  refine zq_54 ?_ ?_
  · exact zq_101
  refine zq_6_1 ?_
  refine zh_61 ?_
  refine zh_60 ?_
  refine zq_1 ?_
  refine zq_1 ?_
  refine zq_90_3i rfl rfl (fH_within_ok (E := E) _ _ _ _ _) fun v3 s4 => ?_
  refine zq_41 ?_ ?_
  · refine zq_57 ?_
    exact zq_101
  · refine zq_1 ?_
    refine zq_7_2 rfl ?_
    refine zq_57 ?_
    exact zE_w [true, true, true, false] (fEdition_takePlate_l3_ok (E := E) d zFU _ _ _ _)
/-! 99: EngraversHouse.edition:()I -/
noncomputable def fH_edition_l4 : Nat → Nat → Nat → Int → zHp → (Nat → Nat → zHp → Option (Int × zHp)) → Option (Int × zHp)
  | 0, _, _, _, _, _ => none
  | n + 1, x14, x15, x16, s17, k18 =>
   ygi 10 7 x14 s17 fun v19 =>
   if x16 < v19 then
     (ygr 10 6 x14 s17 fun p20 =>
     yar p20 x16 s17 fun p21 =>
     yck 2 x15 s17 <| ybd (fEdition_takePlate x15 p21 s17) fun _ s22 =>
     yvl (zadd x16 1) fun v23 =>
     fH_edition_l4 n x14 x15 v23 s22 k18)
   else
     (k18 x14 x15 s17)
theorem fH_edition_l4_ok {E : Nat → Nat} (d : Nat) : ∀ (n : Nat) (x14 : Nat) (x15 : Nat) (x16 : Int) (s17 : zHp) (k18 : Nat → Nat → zHp → Option (Int × zHp)) (hk18 : ∀ (y0 : Nat) (y1 : Nat) (s : zHp), zE zI Ji E (d + 4) 99 (zB 99 5) ([some (.inr (.inr y0)), some (.inr (.inr y1)), none]) ([]) s (k18 y0 y1 s)), zE zI Ji E (d + 4) 99 (zB 99 4) ([some (.inr (.inr x14)), some (.inr (.inr x15)), some (.inl x16)]) ([]) s17 (fH_edition_l4 n x14 x15 x16 s17 k18) := by
  intro n
  induction n with
  | zero => intro x14 x15 x16 s17 k18 hk18; exact zE_none
  | succ n ih =>
    intro x14 x15 x16 s17 k18 hk18
    unfold fH_edition_l4
    refine zq_4_2 ?_
    refine zq_6_0 ?_
    refine zh_60 ?_
    refine zq_49 ?_ ?_
    · refine zq_6_1 ?_
      refine zq_6_0 ?_
      refine zh_61 ?_
      refine zq_4_2 ?_
      refine zh_67 ?_
      refine zE_g fun hg => ?_
      refine zq_92_2v hg rfl rfl (fEdition_takePlate_ok (E := E) _ _ _ _) fun _ s22 => ?_
      refine zE_vl ?_
      refine zq_10_2 rfl ?_
      refine zq_56 ?_
      exact zE_w [true, true, true] (ih _ _ _ _ _ hk18)
    · exact zE_w [true, true, false] (hk18 _ _ _)
noncomputable def fH_edition (a0 : Nat) (s : zHp) : Option (Int × zHp) :=
  ygi 10 7 a0 s fun v1 =>
  if v1 = 0 then
    (some ((-3), s))
  else
  ygr 10 6 a0 s fun p2 =>
  yar p2 0 s fun p3 =>
  if p3 = 0 then
    (some ((-3), s))
  else
    (ygi 10 4 a0 s fun v4 =>
    if v4 < 60 then
      (ynw 2 12 s fun p5 s6 =>
      ygi 10 4 a0 s6 fun v7 =>
      ygr 10 6 a0 s6 fun p8 =>
      yar p8 0 s6 fun p9 =>
      ygr 6 2 p9 s6 fun p10 =>
      ygr 5 2 p10 s6 fun p11 =>
      ygi 10 7 a0 s6 fun v12 =>
      yn0 p5 <| ybd (fEdition_init p5 v7 p11 v12 s6) fun _ s13 =>
      fH_edition_l4 zFU a0 p5 0 s13 (fun (x24 : Nat) (x25 : Nat) (s26 : zHp) =>
       ypi 10 7 x24 0 s26 fun s27 =>
       yck 10 x24 s27 <| ybd (fH_keep x24 x25 s27) fun v28 s29 =>
       some (v28, s29)))
    else
    some ((-4), s))
theorem fH_edition_ok {E : Nat → Nat} (d : Nat) (a0 : Nat) (s : zHp) : zE zI Ji E (d + 4) 99 (zB 99 0) (zent 3 [.inr (.inr a0)]) [] s (fH_edition a0 s) := by
  show zE _ _ _ _ _ _ [some (.inr (.inr a0)), none, none] _ _ _
  unfold fH_edition
  refine zq_6_0 ?_
  refine zh_60 ?_
  refine zq_40 ?_ ?_
  · refine zq_1 ?_
    exact zq_95 rfl
  refine zq_6_0 ?_
  refine zh_61 ?_
  refine zq_1 ?_
  refine zh_67 ?_
  refine zq_55 ?_ ?_
  · refine zq_57 ?_
    refine zq_1 ?_
    exact zq_95 rfl
  · refine zq_6_0 ?_
    refine zh_60 ?_
    refine zq_1 ?_
    refine zq_48 ?_ ?_
    · refine zh_73 ?_
      refine zq_33 ?_
      refine zq_6_0 ?_
      refine zh_60 ?_
      refine zq_6_0 ?_
      refine zh_61 ?_
      refine zq_1 ?_
      refine zh_67 ?_
      refine zh_61 ?_
      refine zh_61 ?_
      refine zq_6_0 ?_
      refine zh_60 ?_
      refine zq_91_4v rfl rfl (fEdition_init_ok (E := E) _ _ _ _ _ _) fun _ s13 => ?_
      refine zq_9_1 rfl ?_
      refine zq_1 ?_
      refine zq_7_2 rfl ?_
      refine zq_57 ?_
      refine zE_w [true, true, true] (fH_edition_l4_ok (E := E) d zFU _ _ _ _ _ (fun x24 x25 s26 => ?_))
      refine zq_6_0 ?_
      refine zq_1 ?_
      refine zh_62 ?_
      refine zq_6_0 ?_
      refine zq_6_1 ?_
      refine zE_g fun hg => ?_
      refine zq_92_2i hg rfl rfl (fH_keep_ok (E := E) _ _ _ _) fun v28 s29 => ?_
      exact zq_95 rfl
    refine zq_1 ?_
    exact zq_95 rfl
/-! 100: EngraversHouse.editionAt:(I)LEngraversHouse$Edition; -/
noncomputable def fH_editionAt (a0 : Nat) (a1 : Int) (s : zHp) : Option (Nat × zHp) :=
  yck 10 a0 s <| ybd (fH_thingAt a0 a1 s) fun p1 s2 =>
  yio 2 p1 s2 fun v3 =>
  if v3 = 0 then
    (some (0, s2))
  else
  yck 2 p1 s2 <|
  some (p1, s2)
theorem fH_editionAt_ok {E : Nat → Nat} (d : Nat) (a0 : Nat) (a1 : Int) (s : zHp) : zE zI Jr E (d + 1) 100 (zB 100 0) (zent 4 [.inr (.inr a0), .inl a1]) [] s (fH_editionAt a0 a1 s) := by
  show zE _ _ _ _ _ _ [some (.inr (.inr a0)), some (.inl a1), none, none] _ _ _
  unfold fH_editionAt
  refine zq_6_0 ?_
  refine zq_4_1 ?_
  refine zE_g fun hg => ?_
  refine zq_92_2r hg rfl rfl (fH_thingAt_ok (E := E) _ _ _ _) fun p1 s2 => ?_
  refine zq_9_3 rfl ?_
  refine zq_6_3 ?_
  refine zh_77 ?_
  refine zq_40 ?_ ?_
  · refine zq_3 ?_
    refine zq_57 ?_
    exact zq_100
  refine zq_6_3 ?_
  refine zh_78 ?_
  refine zq_9_2 rfl ?_
  refine zq_6_2 ?_
  refine zq_56 ?_
  exact zq_100
/-! 101: EngraversHouse$Edition.barOf:(II)LEngraversHouse$Bar; -/
noncomputable def fEdition_barOf (a0 : Nat) (a1 : Int) (a2 : Int) (s : zHp) : Option (Nat × zHp) :=
  ybd (fH_within a1 0 3 s) fun v1 s2 =>
  if v1 = 0 then
    (some (0, s2))
  else
  ybd (fH_within a2 0 19 s2) fun v3 s4 =>
  if v3 = 0 then
    (some (0, s4))
  else
  ygr 2 5 a0 s4 fun p5 =>
  yar p5 (zadd (zmul a1 20) a2) s4 fun p6 =>
  some (p6, s4)
theorem fEdition_barOf_ok {E : Nat → Nat} (d : Nat) (a0 : Nat) (a1 : Int) (a2 : Int) (s : zHp) : zE zI Jr E (d + 1) 101 (zB 101 0) (zent 3 [.inr (.inr a0), .inl a1, .inl a2]) [] s (fEdition_barOf a0 a1 a2 s) := by
  show zE _ _ _ _ _ _ [some (.inr (.inr a0)), some (.inl a1), some (.inl a2)] _ _ _
  unfold fEdition_barOf
  refine zq_4_1 ?_
  refine zq_1 ?_
  refine zq_1 ?_
  refine zq_90_3i rfl rfl (fH_within_ok (E := E) _ _ _ _ _) fun v1 s2 => ?_
  refine zq_40 ?_ ?_
  · refine zq_3 ?_
    refine zq_57 ?_
    exact zq_100
  refine zq_4_2 ?_
  refine zq_1 ?_
  refine zq_1 ?_
  refine zq_90_3i rfl rfl (fH_within_ok (E := E) _ _ _ _ _) fun v3 s4 => ?_
  refine zq_40 ?_ ?_
  · refine zq_3 ?_
    refine zq_57 ?_
    exact zq_100
  refine zq_6_0 ?_
  refine zh_61 ?_
  refine zq_4_1 ?_
  refine zq_1 ?_
  refine zq_13 ?_
  refine zq_4_2 ?_
  refine zq_11 ?_
  refine zh_67 ?_
  refine zq_56 ?_
  exact zq_100
/-! 102: EngraversHouse.placeInEdition:(III)I -/
noncomputable def fH_placeInEdition (a0 : Int) (a1 : Int) (a2 : Int) (s : zHp) : Option (Int × zHp) :=
  some (zadd (zmul (zadd (zmul a0 20) a1) 8) a2, s)
theorem fH_placeInEdition_ok {E : Nat → Nat} (d : Nat) (a0 : Int) (a1 : Int) (a2 : Int) (s : zHp) : zE zI Ji E (d + 0) 102 (zB 102 0) (zent 3 [.inl a0, .inl a1, .inl a2]) [] s (fH_placeInEdition a0 a1 a2 s) := by
  show zE _ _ _ _ _ _ [some (.inl a0), some (.inl a1), some (.inl a2)] _ _ _
  unfold fH_placeInEdition
  refine zq_4_0 ?_
  refine zq_1 ?_
  refine zq_13 ?_
  refine zq_4_1 ?_
  refine zq_11 ?_
  refine zq_1 ?_
  refine zq_13 ?_
  refine zq_4_2 ?_
  refine zq_11 ?_
  exact zq_95 rfl
/-! 103: EngraversHouse.erratumAt:(I)LEngraversHouse$Erratum; -/
noncomputable def fH_erratumAt (a0 : Nat) (a1 : Int) (s : zHp) : Option (Nat × zHp) :=
  yck 10 a0 s <| ybd (fH_thingAt a0 a1 s) fun p1 s2 =>
  yio 3 p1 s2 fun v3 =>
  if v3 = 0 then
    (some (0, s2))
  else
  yck 3 p1 s2 <|
  some (p1, s2)
theorem fH_erratumAt_ok {E : Nat → Nat} (d : Nat) (a0 : Nat) (a1 : Int) (s : zHp) : zE zI Jr E (d + 1) 103 (zB 103 0) (zent 4 [.inr (.inr a0), .inl a1]) [] s (fH_erratumAt a0 a1 s) := by
  show zE _ _ _ _ _ _ [some (.inr (.inr a0)), some (.inl a1), none, none] _ _ _
  unfold fH_erratumAt
  refine zq_6_0 ?_
  refine zq_4_1 ?_
  refine zE_g fun hg => ?_
  refine zq_92_2r hg rfl rfl (fH_thingAt_ok (E := E) _ _ _ _) fun p1 s2 => ?_
  refine zq_9_3 rfl ?_
  refine zq_6_3 ?_
  refine zh_77 ?_
  refine zq_40 ?_ ?_
  · refine zq_3 ?_
    refine zq_57 ?_
    exact zq_100
  refine zq_6_3 ?_
  refine zh_78 ?_
  refine zq_9_2 rfl ?_
  refine zq_6_2 ?_
  refine zq_56 ?_
  exact zq_100
/-! 104: EngraversHouse.amendedNote:(LEngraversHouse$Edition;IIII)I -/
noncomputable def fH_amendedNote_l3 : Nat → Nat → Nat → Int → Int → Int → Int → zHp → Option (Int × zHp)
  | 0, _, _, _, _, _, _, _ => none
  | n + 1, x9, x10, x11, x12, x13, x14, s15 =>
   yjn (fun (x16 : Nat) (x17 : Nat) (x18 : Int) (x19 : Int) (x20 : Int) (x21 : Int) (s22 : zHp) =>
    yvl (zadd x21 1) fun v24 =>
    fH_amendedNote_l3 n x16 x17 x18 x19 x20 v24 s22) fun q23 =>
    if x14 < x11 then
     (ygi 10 4 x9 s15 fun v25 =>
     if x14 < v25 then
       (yck 10 x9 s15 <| ybd (fH_erratumAt x9 x14 s15) fun p26 s27 =>
       if p26 = 0 then
         (q23 x9 x10 x11 x12 x13 x14 s27)
       else
       ygr 3 2 p26 s27 fun p28 =>
       if p28 = x10 then
         (ygi 3 3 p26 s27 fun v29 =>
         if v29 = x13 then
           (ybd (fH_pitchOf x12 s27) fun v30 s31 =>
           ygi 3 4 p26 s31 fun v32 =>
           if v30 = v32 then
             (ygi 3 5 p26 s31 fun v33 =>
             ybd (fH_withPitch x12 v33 s31) fun v34 s35 =>
             q23 x9 x10 x11 v34 x13 x14 s35)
           else
             (q23 x9 x10 x11 x12 x13 x14 s31))
         else
           (q23 x9 x10 x11 x12 x13 x14 s27))
       else
         (q23 x9 x10 x11 x12 x13 x14 s27))
     else
       (some (x12, s15)))
   else
     (some (x12, s15))
theorem fH_amendedNote_l3_ok {E : Nat → Nat} (d : Nat) : ∀ (n : Nat) (x9 : Nat) (x10 : Nat) (x11 : Int) (x12 : Int) (x13 : Int) (x14 : Int) (s15 : zHp), zE zI Ji E (d + 2) 104 (zB 104 3) ([some (.inr (.inr x9)), some (.inr (.inr x10)), none, none, none, some (.inl x11), some (.inl x12), some (.inl x13), some (.inl x14), none]) ([]) s15 (fH_amendedNote_l3 n x9 x10 x11 x12 x13 x14 s15) := by
  intro n
  induction n with
  | zero => intro x9 x10 x11 x12 x13 x14 s15; exact zE_none
  | succ n ih =>
    intro x9 x10 x11 x12 x13 x14 s15
    unfold fH_amendedNote_l3
    refine zE_jn (fun q23 => ∀ (y0 : Nat) (y1 : Nat) (y2 : Int) (y3 : Int) (y4 : Int) (y5 : Int) (s : zHp), zE zI Ji E (d + 2) 104 (zB 104 4) ([some (.inr (.inr y0)), some (.inr (.inr y1)), none, none, none, some (.inl y2), some (.inl y3), some (.inl y4), some (.inl y5), none]) ([]) s (q23 y0 y1 y2 y3 y4 y5 s)) (fun x16 x17 x18 x19 x20 x21 s22 => ?_) (fun q23 hq23 => ?_)
    · refine zE_vl ?_
      refine zq_10_8 rfl ?_
      refine zq_56 ?_
      exact zE_w [true, true, false, false, false, true, true, true, true, false] (ih _ _ _ _ _ _ _)
    refine zq_4_8 ?_
    refine zq_4_5 ?_
    refine zq_49 ?_ ?_
    · refine zq_4_8 ?_
      refine zq_6_0 ?_
      refine zh_60 ?_
      refine zq_49 ?_ ?_
      · refine zq_6_0 ?_
        refine zq_4_8 ?_
        refine zE_g fun hg => ?_
        refine zq_92_2r hg rfl rfl (fH_erratumAt_ok (E := E) _ _ _ _) fun p26 s27 => ?_
        refine zq_9_9 rfl ?_
        refine zq_6_9 ?_
        refine zq_54 ?_ ?_
        · exact zE_w [true, true, false, false, false, true, true, true, true, false] (hq23 _ _ _ _ _ _ _)
        refine zq_6_9 ?_
        refine zh_61 ?_
        refine zq_6_1 ?_
        refine zq_53 ?_ ?_
        · refine zq_6_9 ?_
          refine zh_60 ?_
          refine zq_4_7 ?_
          refine zq_47 ?_ ?_
          · refine zq_4_6 ?_
            refine zq_90_1i rfl rfl (fH_pitchOf_ok (E := E) _ _ _) fun v30 s31 => ?_
            refine zq_6_9 ?_
            refine zh_60 ?_
            refine zq_47 ?_ ?_
            · refine zq_4_6 ?_
              refine zq_6_9 ?_
              refine zh_60 ?_
              refine zq_90_2i rfl rfl (fH_withPitch_ok (E := E) _ _ _ _) fun v34 s35 => ?_
              refine zq_7_6 rfl ?_
              refine zq_57 ?_
              exact zE_w [true, true, false, false, false, true, true, true, true, false] (hq23 _ _ _ _ _ _ _)
            · exact zE_w [true, true, false, false, false, true, true, true, true, false] (hq23 _ _ _ _ _ _ _)
          · exact zE_w [true, true, false, false, false, true, true, true, true, false] (hq23 _ _ _ _ _ _ _)
        · exact zE_w [true, true, false, false, false, true, true, true, true, false] (hq23 _ _ _ _ _ _ _)
      · refine zq_4_6 ?_
        exact zq_95 rfl
    · refine zq_4_6 ?_
      exact zq_95 rfl
noncomputable def fH_amendedNote (a0 : Nat) (a1 : Nat) (a2 : Int) (a3 : Int) (a4 : Int) (a5 : Int) (s : zHp) : Option (Int × zHp) :=
  yck 2 a1 s <| ybd (fEdition_barOf a1 a2 a3 s) fun p1 s2 =>
  ybd (fH_tellNote p1 a4 s2) fun v3 s4 =>
  if v3 = (-5) then
    (some (v3, s4))
  else
  ybd (fH_isRest v3 s4) fun v5 s6 =>
  if v5 = 0 then
    (ybd (fH_placeInEdition a2 a3 a4 s6) fun v7 s8 =>
    fH_amendedNote_l3 zFU a0 a1 a5 v3 v7 0 s8)
  else
  some (v3, s6)
theorem fH_amendedNote_ok {E : Nat → Nat} (d : Nat) (a0 : Nat) (a1 : Nat) (a2 : Int) (a3 : Int) (a4 : Int) (a5 : Int) (s : zHp) : zE zI Ji E (d + 2) 104 (zB 104 0) (zent 10 [.inr (.inr a0), .inr (.inr a1), .inl a2, .inl a3, .inl a4, .inl a5]) [] s (fH_amendedNote a0 a1 a2 a3 a4 a5 s) := by
  show zE _ _ _ _ _ _ [some (.inr (.inr a0)), some (.inr (.inr a1)), some (.inl a2), some (.inl a3), some (.inl a4), some (.inl a5), none, none, none, none] _ _ _
  unfold fH_amendedNote
  refine zq_6_1 ?_
  refine zq_4_2 ?_
  refine zq_4_3 ?_
  refine zE_g fun hg => ?_
  refine zq_92_3r hg rfl rfl (fEdition_barOf_ok (E := E) _ _ _ _ _) fun p1 s2 => ?_
  refine zq_4_4 ?_
  refine zq_90_2i rfl rfl (fH_tellNote_ok (E := E) _ _ _ _) fun v3 s4 => ?_
  refine zq_7_6 rfl ?_
  refine zq_4_6 ?_
  refine zq_1 ?_
  refine zq_46 ?_ ?_
  · refine zq_4_6 ?_
    exact zq_95 rfl
  refine zq_4_6 ?_
  refine zq_90_1i rfl rfl (fH_isRest_ok (E := E) _ _ _) fun v5 s6 => ?_
  refine zq_40 ?_ ?_
  · refine zq_4_2 ?_
    refine zq_4_3 ?_
    refine zq_4_4 ?_
    refine zq_90_3i rfl rfl (fH_placeInEdition_ok (E := E) _ _ _ _ _) fun v7 s8 => ?_
    refine zq_7_7 rfl ?_
    refine zq_1 ?_
    refine zq_7_8 rfl ?_
    refine zq_57 ?_
    exact zE_w [true, true, false, false, false, true, true, true, true, false] (fH_amendedNote_l3_ok (E := E) d zFU _ _ _ _ _ _ _)
  refine zq_57 ?_
  refine zq_4_6 ?_
  exact zq_95 rfl
/-! 105: EngraversHouse.printed:(IIIII)I -/
noncomputable def fH_printed (a0 : Nat) (a1 : Int) (a2 : Int) (a3 : Int) (a4 : Int) (a5 : Int) (s : zHp) : Option (Int × zHp) :=
  yck 10 a0 s <| ybd (fH_editionAt a0 a1 s) fun p1 s2 =>
  if p1 = 0 then
    (some ((-5), s2))
  else
  ybd (fH_within a5 0 1 s2) fun v3 s4 =>
  if v3 = 0 then
    (some ((-5), s4))
  else
    (yck 2 p1 s4 <| ybd (fEdition_barOf p1 a2 a3 s4) fun p5 s6 =>
    ybd (fH_tellNote p5 a4 s6) fun v7 s8 =>
    if v7 = (-5) then
      (some (v7, s8))
    else
    if a4 = (-1) then
      (some (v7, s8))
    else
    if a5 = 0 then
      (some (v7, s8))
    else
      (ygi 10 4 a0 s8 fun v9 =>
      yck 10 a0 s8 <| ybd (fH_amendedNote a0 p1 a2 a3 a4 v9 s8) fun v10 s11 =>
      some (v10, s11)))
theorem fH_printed_ok {E : Nat → Nat} (d : Nat) (a0 : Nat) (a1 : Int) (a2 : Int) (a3 : Int) (a4 : Int) (a5 : Int) (s : zHp) : zE zI Ji E (d + 3) 105 (zB 105 0) (zent 9 [.inr (.inr a0), .inl a1, .inl a2, .inl a3, .inl a4, .inl a5]) [] s (fH_printed a0 a1 a2 a3 a4 a5 s) := by
  show zE _ _ _ _ _ _ [some (.inr (.inr a0)), some (.inl a1), some (.inl a2), some (.inl a3), some (.inl a4), some (.inl a5), none, none, none] _ _ _
  unfold fH_printed
  refine zq_6_0 ?_
  refine zq_4_1 ?_
  refine zE_g fun hg => ?_
  refine zq_92_2r hg rfl rfl (fH_editionAt_ok (E := E) _ _ _ _) fun p1 s2 => ?_
  refine zq_9_6 rfl ?_
  refine zq_6_6 ?_
  refine zq_54 ?_ ?_
  · refine zq_1 ?_
    exact zq_95 rfl
  refine zq_4_5 ?_
  refine zq_1 ?_
  refine zq_1 ?_
  refine zq_90_3i rfl rfl (fH_within_ok (E := E) _ _ _ _ _) fun v3 s4 => ?_
  refine zq_41 ?_ ?_
  · refine zq_57 ?_
    refine zq_1 ?_
    exact zq_95 rfl
  · refine zq_6_6 ?_
    refine zq_4_2 ?_
    refine zq_4_3 ?_
    refine zE_g fun hg => ?_
    refine zq_92_3r hg rfl rfl (fEdition_barOf_ok (E := E) _ _ _ _ _) fun p5 s6 => ?_
    refine zq_9_7 rfl ?_
    refine zq_6_7 ?_
    refine zq_4_4 ?_
    refine zq_90_2i rfl rfl (fH_tellNote_ok (E := E) _ _ _ _) fun v7 s8 => ?_
    refine zq_7_8 rfl ?_
    refine zq_4_8 ?_
    refine zq_1 ?_
    refine zq_46 ?_ ?_
    · refine zq_4_8 ?_
      exact zq_95 rfl
    refine zq_4_4 ?_
    refine zq_1 ?_
    refine zq_46 ?_ ?_
    · refine zq_4_8 ?_
      exact zq_95 rfl
    refine zq_4_5 ?_
    refine zq_41 ?_ ?_
    · refine zq_57 ?_
      refine zq_4_8 ?_
      exact zq_95 rfl
    · refine zq_6_0 ?_
      refine zq_6_6 ?_
      refine zq_4_2 ?_
      refine zq_4_3 ?_
      refine zq_4_4 ?_
      refine zq_6_0 ?_
      refine zh_60 ?_
      refine zE_g fun hg => ?_
      refine zq_92_6i hg rfl rfl (fH_amendedNote_ok (E := E) _ _ _ _ _ _ _ _) fun v10 s11 => ?_
      exact zq_95 rfl
