/-! 106: EngraversHouse$Erratum.<init>:(ILEngraversHouse$Edition;III)V -/
noncomputable def fErratum_init (a0 : Nat) (a1 : Int) (a2 : Nat) (a3 : Int) (a4 : Int) (a5 : Int) (s : zHp) : Option (Unit × zHp) :=
  yn0 a0 <| ybd (fThing_init a0 7 a1 s) fun _ s1 =>
  ypr 3 2 a0 a2 s1 fun s2 =>
  ypi 3 3 a0 a3 s2 fun s3 =>
  ypi 3 4 a0 a4 s3 fun s4 =>
  ypi 3 5 a0 a5 s4 fun s5 =>
  some ((), s5)
set_option maxRecDepth 20000 in
set_option maxHeartbeats 4000000 in
theorem fErratum_init_ok {E : Nat → Nat} (d : Nat) (a0 : Nat) (a1 : Int) (a2 : Nat) (a3 : Int) (a4 : Int) (a5 : Int) (s : zHp) : zE zI Jv E (d + 1) 106 (zB 106 0) (zent 6 [.inr (.inr a0), .inl a1, .inr (.inr a2), .inl a3, .inl a4, .inl a5]) [] s (fErratum_init a0 a1 a2 a3 a4 a5 s) := by
  show zE _ _ _ _ _ _ [some (.inr (.inr a0)), some (.inl a1), some (.inr (.inr a2)), some (.inl a3), some (.inl a4), some (.inl a5)] _ _ _
  unfold fErratum_init
  refine zq_6_0 ?_
  refine zq_1 ?_
  refine zq_4_1 ?_
  refine zq_91_3v rfl rfl (fThing_init_ok (E := E) _ _ _ _ _) fun _ s1 => ?_
  refine zq_6_0 ?_
  refine zq_6_2 ?_
  refine zh_64 ?_
  refine zq_6_0 ?_
  refine zq_4_3 ?_
  refine zh_62 ?_
  refine zq_6_0 ?_
  refine zq_4_4 ?_
  refine zh_62 ?_
  refine zq_6_0 ?_
  refine zq_4_5 ?_
  refine zh_62 ?_
  exact zq_101
/-! 107: EngraversHouse.erratum:(IIIIII)I -/
noncomputable def fH_erratum (a0 : Nat) (a1 : Int) (a2 : Int) (a3 : Int) (a4 : Int) (a5 : Int) (a6 : Int) (s : zHp) : Option (Int × zHp) :=
  yck 10 a0 s <| ybd (fH_thingAt a0 a1 s) fun p1 s2 =>
  if p1 = 0 then
    (some ((-1), s2))
  else
  ybd (fH_within a2 0 3 s2) fun v3 s4 =>
  if v3 = 0 then
    (some ((-1), s4))
  else
    (yck 10 a0 s4 <| ybd (fH_editionAt a0 a1 s4) fun p5 s6 =>
    if p5 = 0 then
      (some ((-12), s6))
    else
      (ybd (fH_within a3 0 19 s6) fun v7 s8 =>
      if v7 = 0 then
        (some ((-2), s8))
      else
      ybd (fH_within a4 0 7 s8) fun v9 s10 =>
      if v9 = 0 then
        (some ((-2), s10))
      else
      ybd (fH_within a5 1 60 s10) fun v11 s12 =>
      if v11 = 0 then
        (some ((-2), s12))
      else
      ybd (fH_within a6 1 60 s12) fun v13 s14 =>
      if v13 = 0 then
        (some ((-2), s14))
      else
        (ygi 10 4 a0 s14 fun v15 =>
        if v15 < 60 then
          (ynw 3 6 s14 fun p16 s17 =>
          ygi 10 4 a0 s17 fun v18 =>
          ybd (fH_placeInEdition a2 a3 a4 s17) fun v19 s20 =>
          yn0 p16 <| ybd (fErratum_init p16 v18 p5 v19 a5 a6 s20) fun _ s21 =>
          ygi 2 4 p5 s21 fun v22 =>
          ypi 2 4 p5 (zadd v22 1) s21 fun s23 =>
          yck 10 a0 s23 <| ybd (fH_keep a0 p16 s23) fun v24 s25 =>
          some (v24, s25))
        else
        some ((-4), s14))))
theorem fH_erratum_ok {E : Nat → Nat} (d : Nat) (a0 : Nat) (a1 : Int) (a2 : Int) (a3 : Int) (a4 : Int) (a5 : Int) (a6 : Int) (s : zHp) : zE zI Ji E (d + 2) 107 (zB 107 0) (zent 9 [.inr (.inr a0), .inl a1, .inl a2, .inl a3, .inl a4, .inl a5, .inl a6]) [] s (fH_erratum a0 a1 a2 a3 a4 a5 a6 s) := by
  show zE _ _ _ _ _ _ [some (.inr (.inr a0)), some (.inl a1), some (.inl a2), some (.inl a3), some (.inl a4), some (.inl a5), some (.inl a6), none, none] _ _ _
  unfold fH_erratum
  refine zq_6_0 ?_
  refine zq_4_1 ?_
  refine zE_g fun hg => ?_
  refine zq_92_2r hg rfl rfl (fH_thingAt_ok (E := E) _ _ _ _) fun p1 s2 => ?_
  refine zq_54 ?_ ?_
  · refine zq_1 ?_
    exact zq_95 rfl
  refine zq_4_2 ?_
  refine zq_1 ?_
  refine zq_1 ?_
  refine zq_90_3i rfl rfl (fH_within_ok (E := E) _ _ _ _ _) fun v3 s4 => ?_
  refine zq_41 ?_ ?_
  · refine zq_57 ?_
    refine zq_1 ?_
    exact zq_95 rfl
  · refine zq_6_0 ?_
    refine zq_4_1 ?_
    refine zE_g fun hg => ?_
    refine zq_92_2r hg rfl rfl (fH_editionAt_ok (E := E) _ _ _ _) fun p5 s6 => ?_
    refine zq_9_7 rfl ?_
    refine zq_6_7 ?_
    refine zq_55 ?_ ?_
    · refine zq_1 ?_
      exact zq_95 rfl
    · refine zq_4_3 ?_
      refine zq_1 ?_
      refine zq_1 ?_
      refine zq_90_3i rfl rfl (fH_within_ok (E := E) _ _ _ _ _) fun v7 s8 => ?_
      refine zq_40 ?_ ?_
      · refine zq_1 ?_
        exact zq_95 rfl
      refine zq_4_4 ?_
      refine zq_1 ?_
      refine zq_1 ?_
      refine zq_90_3i rfl rfl (fH_within_ok (E := E) _ _ _ _ _) fun v9 s10 => ?_
      refine zq_40 ?_ ?_
      · refine zq_1 ?_
        exact zq_95 rfl
      refine zq_4_5 ?_
      refine zq_1 ?_
      refine zq_1 ?_
      refine zq_90_3i rfl rfl (fH_within_ok (E := E) _ _ _ _ _) fun v11 s12 => ?_
      refine zq_40 ?_ ?_
      · refine zq_1 ?_
        exact zq_95 rfl
      refine zq_4_6 ?_
      refine zq_1 ?_
      refine zq_1 ?_
      refine zq_90_3i rfl rfl (fH_within_ok (E := E) _ _ _ _ _) fun v13 s14 => ?_
      refine zq_41 ?_ ?_
      · refine zq_57 ?_
        refine zq_1 ?_
        exact zq_95 rfl
      · refine zq_6_0 ?_
        refine zh_60 ?_
        refine zq_1 ?_
        refine zq_48 ?_ ?_
        · refine zh_73 ?_
          refine zq_33 ?_
          refine zq_6_0 ?_
          refine zh_60 ?_
          refine zq_6_7 ?_
          refine zq_4_2 ?_
          refine zq_4_3 ?_
          refine zq_4_4 ?_
          refine zq_90_3i rfl rfl (fH_placeInEdition_ok (E := E) _ _ _ _ _) fun v19 s20 => ?_
          refine zq_4_5 ?_
          refine zq_4_6 ?_
          refine zq_91_6v rfl rfl (fErratum_init_ok (E := E) _ _ _ _ _ _ _ _) fun _ s21 => ?_
          refine zq_9_8 rfl ?_
          refine zq_6_7 ?_
          refine zq_33 ?_
          refine zh_60 ?_
          refine zq_1 ?_
          refine zq_11 ?_
          refine zh_62 ?_
          refine zq_6_0 ?_
          refine zq_6_8 ?_
          refine zE_g fun hg => ?_
          refine zq_92_2i hg rfl rfl (fH_keep_ok (E := E) _ _ _ _) fun v24 s25 => ?_
          exact zq_95 rfl
        refine zq_1 ?_
        exact zq_95 rfl
/-! 108: EngraversHouse$Erratum.noteIndex:()I -/
noncomputable def fErratum_noteIndex (a0 : Nat) (s : zHp) : Option (Int × zHp) :=
  ygi 3 3 a0 s fun v1 =>
  some (zrem v1 8, s)
theorem fErratum_noteIndex_ok {E : Nat → Nat} (d : Nat) (a0 : Nat) (s : zHp) : zE zI Ji E (d + 0) 108 (zB 108 0) (zent 1 [.inr (.inr a0)]) [] s (fErratum_noteIndex a0 s) := by
  show zE _ _ _ _ _ _ [some (.inr (.inr a0))] _ _ _
  unfold fErratum_noteIndex
  refine zq_6_0 ?_
  refine zh_60 ?_
  refine zq_1 ?_
  refine zq_15c (by decide) ?_
  exact zq_95 rfl
/-! 109: EngraversHouse.idle:(I)I -/
noncomputable def fH_idle (a0 : Nat) (a1 : Int) (s : zHp) : Option (Int × zHp) :=
  yck 10 a0 s <| ybd (fH_erratumAt a0 a1 s) fun p1 s2 =>
  if p1 = 0 then
    (yck 10 a0 s2 <| ybd (fH_lacking a0 a1 s2) fun v18 s19 =>
    some (v18, s19))
  else
    (ygr 3 2 p1 s2 fun p3 =>
    yck 3 p1 s2 <| ybd (fErratum_voice p1 s2) fun v4 s5 =>
    yck 3 p1 s5 <| ybd (fErratum_bar p1 s5) fun v6 s7 =>
    yck 3 p1 s7 <| ybd (fErratum_noteIndex p1 s7) fun v8 s9 =>
    ygi 3 1 p1 s9 fun v10 =>
    yck 10 a0 s9 <| ybd (fH_amendedNote a0 p3 v4 v6 v8 v10 s9) fun v11 s12 =>
    if v11 = (-5) then
      (some (1, s12))
    else
    ybd (fH_isRest v11 s12) fun v13 s14 =>
    if v13 = 0 then
      (ybd (fH_pitchOf v11 s14) fun v15 s16 =>
      ygi 3 4 p1 s16 fun v17 =>
      if v15 = v17 then
        (some (0, s16))
      else
        (some (1, s16)))
    else
      (some (1, s14)))
theorem fH_idle_ok {E : Nat → Nat} (d : Nat) (a0 : Nat) (a1 : Int) (s : zHp) : zE zI Ji E (d + 3) 109 (zB 109 0) (zent 4 [.inr (.inr a0), .inl a1]) [] s (fH_idle a0 a1 s) := by
  show zE _ _ _ _ _ _ [some (.inr (.inr a0)), some (.inl a1), none, none] _ _ _
  unfold fH_idle
  refine zq_6_0 ?_
  refine zq_4_1 ?_
  refine zE_g fun hg => ?_
  refine zq_92_2r hg rfl rfl (fH_erratumAt_ok (E := E) _ _ _ _) fun p1 s2 => ?_
  refine zq_9_2 rfl ?_
  refine zq_6_2 ?_
  refine zq_55 ?_ ?_
  · refine zq_6_0 ?_
    refine zq_4_1 ?_
    refine zE_g fun hg => ?_
    refine zq_92_2i hg rfl rfl (fH_lacking_ok (E := E) _ _ _ _) fun v18 s19 => ?_
    exact zq_95 rfl
  · refine zq_6_0 ?_
    refine zq_6_2 ?_
    refine zh_61 ?_
    refine zq_6_2 ?_
    refine zE_g fun hg => ?_
    refine zq_92_1i hg rfl rfl (fErratum_voice_ok (E := E) _ _ _) fun v4 s5 => ?_
    refine zq_6_2 ?_
    refine zE_g fun hg => ?_
    refine zq_92_1i hg rfl rfl (fErratum_bar_ok (E := E) _ _ _) fun v6 s7 => ?_
    refine zq_6_2 ?_
    refine zE_g fun hg => ?_
    refine zq_92_1i hg rfl rfl (fErratum_noteIndex_ok (E := E) _ _ _) fun v8 s9 => ?_
    refine zq_6_2 ?_
    refine zh_60 ?_
    refine zE_g fun hg => ?_
    refine zq_92_6i hg rfl rfl (fH_amendedNote_ok (E := E) _ _ _ _ _ _ _ _) fun v11 s12 => ?_
    refine zq_7_3 rfl ?_
    refine zq_4_3 ?_
    refine zq_1 ?_
    refine zq_46 ?_ ?_
    · refine zq_1 ?_
      refine zq_57 ?_
      exact zq_95 rfl
    refine zq_4_3 ?_
    refine zq_90_1i rfl rfl (fH_isRest_ok (E := E) _ _ _) fun v13 s14 => ?_
    refine zq_41 ?_ ?_
    · refine zq_4_3 ?_
      refine zq_90_1i rfl rfl (fH_pitchOf_ok (E := E) _ _ _) fun v15 s16 => ?_
      refine zq_6_2 ?_
      refine zh_60 ?_
      refine zq_47 ?_ ?_
      · refine zq_1 ?_
        refine zq_56 ?_
        exact zq_95 rfl
      · refine zq_1 ?_
        refine zq_57 ?_
        exact zq_95 rfl
    · refine zq_1 ?_
      refine zq_57 ?_
      exact zq_95 rfl
/-! 110: EngraversHouse$Edition.fillRow:(LEngraversHouse$Bar;LEngraversHouse$Edition;I)V -/
noncomputable def fEdition_fillRow_l1 : Nat → Nat → Nat → Nat → Int → Int → zHp → Option (Unit × zHp)
  | 0, _, _, _, _, _, _ => none
  | n + 1, x5, x6, x7, x8, x9, s10 =>
   yjn (fun (x11 : Nat) (x12 : Nat) (x13 : Nat) (x14 : Int) (x15 : Int) (s16 : zHp) =>
    yvl (zadd x15 1) fun v18 =>
    fEdition_fillRow_l1 n x11 x12 x13 x14 v18 s16) fun q17 =>
    if x9 < 20 then
     (yck 2 x7 s10 <| ybd (fEdition_barOf x7 x8 x9 s10) fun p19 s20 =>
     if p19 = 0 then
       (ygr 2 8 x5 s20 fun p44 =>
       ygr 2 8 x5 s20 fun p45 =>
       yai p45 x9 s20 fun v46 =>
       ysi p44 (zadd x9 1) v46 s20 fun s47 =>
       q17 x5 x6 x7 x8 x9 s47)
     else
       (yjn (fun (x21 : Nat) (x22 : Nat) (x23 : Nat) (x24 : Int) (x25 : Int) (x26 : Nat) (x27 : Int) (x28 : Int) (x29 : Int) (x30 : Int) (s31 : zHp) =>
        ysi x26 x27 (zmin x28 (zadd x29 x30)) s31 fun s33 =>
        q17 x21 x22 x23 x24 x25 s33) fun q32 =>
        ygr 2 8 x5 s20 fun p34 =>
       yai p34 x9 s20 fun v35 =>
       ygr 2 7 x5 s20 fun p36 =>
       yai p36 (zadd x9 1) s20 fun v37 =>
       yvl (zadd (zmin v35 v37) 1) fun v38 =>
       ygr 2 8 x5 s20 fun p39 =>
       ygr 2 7 x5 s20 fun p40 =>
       yai p40 x9 s20 fun v41 =>
       yck 0 x6 s20 <| ybd (fBar_sameNotes x6 p19 s20) fun v42 s43 =>
       if v42 = 0 then
         (q32 x5 x6 x7 x8 x9 p39 (zadd x9 1) v38 v41 1 s43)
       else
       q32 x5 x6 x7 x8 x9 p39 (zadd x9 1) v38 v41 0 s43))
   else
     (some ((), s10))
theorem fEdition_fillRow_l1_ok {E : Nat → Nat} (d : Nat) : ∀ (n : Nat) (x5 : Nat) (x6 : Nat) (x7 : Nat) (x8 : Int) (x9 : Int) (s10 : zHp), zE zI Jv E (d + 2) 110 (zB 110 1) ([some (.inr (.inr x5)), some (.inr (.inr x6)), some (.inr (.inr x7)), some (.inl x8), some (.inl x9), none, none]) ([]) s10 (fEdition_fillRow_l1 n x5 x6 x7 x8 x9 s10) := by
  intro n
  induction n with
  | zero => intro x5 x6 x7 x8 x9 s10; exact zE_none
  | succ n ih =>
    intro x5 x6 x7 x8 x9 s10
    unfold fEdition_fillRow_l1
    refine zE_jn (fun q17 => ∀ (y0 : Nat) (y1 : Nat) (y2 : Nat) (y3 : Int) (y4 : Int) (s : zHp), zE zI Jv E (d + 2) 110 (zB 110 5) ([some (.inr (.inr y0)), some (.inr (.inr y1)), some (.inr (.inr y2)), some (.inl y3), some (.inl y4), none, none]) ([]) s (q17 y0 y1 y2 y3 y4 s)) (fun x11 x12 x13 x14 x15 s16 => ?_) (fun q17 hq17 => ?_)
    · refine zE_vl ?_
      refine zq_10_4 rfl ?_
      refine zq_56 ?_
      exact zE_w [true, true, true, true, true, false, false] (ih _ _ _ _ _ _)
    refine zq_4_4 ?_
    refine zq_1 ?_
    refine zq_49 ?_ ?_
    · refine zq_6_2 ?_
      refine zq_4_3 ?_
      refine zq_4_4 ?_
      refine zE_g fun hg => ?_
      refine zq_92_3r hg rfl rfl (fEdition_barOf_ok (E := E) _ _ _ _ _) fun p19 s20 => ?_
      refine zq_9_5 rfl ?_
      refine zq_6_5 ?_
      refine zq_55 ?_ ?_
      · refine zq_6_0 ?_
        refine zh_61 ?_
        refine zq_4_4 ?_
        refine zq_1 ?_
        refine zq_11 ?_
        refine zq_6_0 ?_
        refine zh_61 ?_
        refine zq_4_4 ?_
        refine zh_65 ?_
        refine zh_68 ?_
        refine zq_56 ?_
        exact zE_w [true, true, true, true, true, false, false] (hq17 _ _ _ _ _ _)
      · refine zE_jn (fun q32 => ∀ (y0 : Nat) (y1 : Nat) (y2 : Nat) (y3 : Int) (y4 : Int) (y5 : Nat) (y6 : Int) (y7 : Int) (y8 : Int) (y9 : Int) (s : zHp), zE zI Jv E (d + 2) 110 (zB 110 4) ([some (.inr (.inr y0)), some (.inr (.inr y1)), some (.inr (.inr y2)), some (.inl y3), some (.inl y4), none, none]) ([.inl y9, .inl y8, .inl y7, .inl y6, .inr (.inr y5)]) s (q32 y0 y1 y2 y3 y4 y5 y6 y7 y8 y9 s)) (fun x21 x22 x23 x24 x25 x26 x27 x28 x29 x30 s31 => ?_) (fun q32 hq32 => ?_)
        · refine zq_11 ?_
          refine zq_37 rfl ?_
          refine zh_68 ?_
          refine zq_57 ?_
          exact zE_w [true, true, true, true, true, false, false] (hq17 _ _ _ _ _ _)
        refine zq_6_0 ?_
        refine zh_61 ?_
        refine zq_4_4 ?_
        refine zh_65 ?_
        refine zq_6_0 ?_
        refine zh_61 ?_
        refine zq_4_4 ?_
        refine zq_1 ?_
        refine zq_11 ?_
        refine zh_65 ?_
        refine zq_37 rfl ?_
        refine zq_1 ?_
        refine zq_11 ?_
        refine zE_vl ?_
        refine zq_7_6 rfl ?_
        refine zq_6_0 ?_
        refine zh_61 ?_
        refine zq_4_4 ?_
        refine zq_1 ?_
        refine zq_11 ?_
        refine zq_4_6 ?_
        refine zq_6_0 ?_
        refine zh_61 ?_
        refine zq_4_4 ?_
        refine zh_65 ?_
        refine zq_6_1 ?_
        refine zq_6_5 ?_
        refine zE_g fun hg => ?_
        refine zq_92_2i hg rfl rfl (fBar_sameNotes_ok (E := E) _ _ _ _) fun v42 s43 => ?_
        refine zq_40 ?_ ?_
        · refine zq_1 ?_
          refine zq_57 ?_
          exact zE_w [true, true, true, true, true, false, false] (hq32 _ _ _ _ _ _ _ _ _ _ _)
        refine zq_1 ?_
        refine zq_56 ?_
        exact zE_w [true, true, true, true, true, false, false] (hq32 _ _ _ _ _ _ _ _ _ _ _)
    · exact zq_101
noncomputable def fEdition_fillRow (a0 : Nat) (a1 : Nat) (a2 : Nat) (a3 : Int) (s : zHp) : Option (Unit × zHp) :=
  ygr 2 8 a0 s fun p1 =>
  ygr 2 7 a0 s fun p2 =>
  yai p2 0 s fun v3 =>
  ysi p1 0 (zadd v3 1) s fun s4 =>
  fEdition_fillRow_l1 zFU a0 a1 a2 a3 0 s4
theorem fEdition_fillRow_ok {E : Nat → Nat} (d : Nat) (a0 : Nat) (a1 : Nat) (a2 : Nat) (a3 : Int) (s : zHp) : zE zI Jv E (d + 2) 110 (zB 110 0) (zent 7 [.inr (.inr a0), .inr (.inr a1), .inr (.inr a2), .inl a3]) [] s (fEdition_fillRow a0 a1 a2 a3 s) := by
  show zE _ _ _ _ _ _ [some (.inr (.inr a0)), some (.inr (.inr a1)), some (.inr (.inr a2)), some (.inl a3), none, none, none] _ _ _
  unfold fEdition_fillRow
  refine zq_6_0 ?_
  refine zh_61 ?_
  refine zq_1 ?_
  refine zq_6_0 ?_
  refine zh_61 ?_
  refine zq_1 ?_
  refine zh_65 ?_
  refine zq_1 ?_
  refine zq_11 ?_
  refine zh_68 ?_
  refine zq_1 ?_
  refine zq_7_4 rfl ?_
  refine zq_57 ?_
  exact zE_w [true, true, true, true, true, false, false] (fEdition_fillRow_l1_ok (E := E) d zFU _ _ _ _ _ _)
/-! 111: EngraversHouse$Edition.changesTo:(LEngraversHouse$Edition;I)I -/
noncomputable def fEdition_changesTo_l1 : Nat → Nat → Nat → Int → Int → zHp → (Nat → Nat → Int → zHp → Option (Int × zHp)) → Option (Int × zHp)
  | 0, _, _, _, _, _, _ => none
  | n + 1, x3, x4, x5, x6, s7, k8 =>
   yjn (fun (x9 : Nat) (x10 : Nat) (x11 : Int) (x12 : Int) (x13 : Nat) (x14 : Int) (x15 : Int) (x16 : Int) (s17 : zHp) =>
    ysi x13 x14 (zadd x15 x16) s17 fun s19 =>
    yvl (zadd x12 1) fun v20 =>
    fEdition_changesTo_l1 n x9 x10 x11 v20 s19 k8) fun q18 =>
    if x6 < 20 then
     (ygr 2 8 x3 s7 fun p21 =>
     ygr 2 8 x3 s7 fun p22 =>
     yai p22 x6 s7 fun v23 =>
     yck 2 x4 s7 <| ybd (fEdition_barOf x4 x5 x6 s7) fun p24 s25 =>
     if p24 = 0 then
       (q18 x3 x4 x5 x6 p21 (zadd x6 1) v23 0 s25)
     else
       (q18 x3 x4 x5 x6 p21 (zadd x6 1) v23 1 s25))
   else
     (k8 x3 x4 x5 s7)
theorem fEdition_changesTo_l1_ok {E : Nat → Nat} (d : Nat) : ∀ (n : Nat) (x3 : Nat) (x4 : Nat) (x5 : Int) (x6 : Int) (s7 : zHp) (k8 : Nat → Nat → Int → zHp → Option (Int × zHp)) (hk8 : ∀ (y0 : Nat) (y1 : Nat) (y2 : Int) (s : zHp), zE zI Ji E (d + 3) 111 (zB 111 4) ([some (.inr (.inr y0)), some (.inr (.inr y1)), some (.inl y2), none, none, none]) ([]) s (k8 y0 y1 y2 s)), zE zI Ji E (d + 3) 111 (zB 111 1) ([some (.inr (.inr x3)), some (.inr (.inr x4)), some (.inl x5), some (.inl x6), none, none]) ([]) s7 (fEdition_changesTo_l1 n x3 x4 x5 x6 s7 k8) := by
  intro n
  induction n with
  | zero => intro x3 x4 x5 x6 s7 k8 hk8; exact zE_none
  | succ n ih =>
    intro x3 x4 x5 x6 s7 k8 hk8
    unfold fEdition_changesTo_l1
    refine zE_jn (fun q18 => ∀ (y0 : Nat) (y1 : Nat) (y2 : Int) (y3 : Int) (y4 : Nat) (y5 : Int) (y6 : Int) (y7 : Int) (s : zHp), zE zI Ji E (d + 3) 111 (zB 111 3) ([some (.inr (.inr y0)), some (.inr (.inr y1)), some (.inl y2), some (.inl y3), none, none]) ([.inl y7, .inl y6, .inl y5, .inr (.inr y4)]) s (q18 y0 y1 y2 y3 y4 y5 y6 y7 s)) (fun x9 x10 x11 x12 x13 x14 x15 x16 s17 => ?_) (fun q18 hq18 => ?_)
    · refine zq_11 ?_
      refine zh_68 ?_
      refine zE_vl ?_
      refine zq_10_3 rfl ?_
      refine zq_56 ?_
      exact zE_w [true, true, true, true, false, false] (ih _ _ _ _ _ _ hk8)
    refine zq_4_3 ?_
    refine zq_1 ?_
    refine zq_49 ?_ ?_
    · refine zq_6_0 ?_
      refine zh_61 ?_
      refine zq_4_3 ?_
      refine zq_1 ?_
      refine zq_11 ?_
      refine zq_6_0 ?_
      refine zh_61 ?_
      refine zq_4_3 ?_
      refine zh_65 ?_
      refine zq_6_1 ?_
      refine zq_4_2 ?_
      refine zq_4_3 ?_
      refine zE_g fun hg => ?_
      refine zq_92_3r hg rfl rfl (fEdition_barOf_ok (E := E) _ _ _ _ _) fun p24 s25 => ?_
      refine zq_55 ?_ ?_
      · refine zq_1 ?_
        refine zq_56 ?_
        exact zE_w [true, true, true, true, false, false] (hq18 _ _ _ _ _ _ _ _ _)
      · refine zq_1 ?_
        refine zq_57 ?_
        exact zE_w [true, true, true, true, false, false] (hq18 _ _ _ _ _ _ _ _ _)
    · exact zE_w [true, true, true, false, false, false] (hk8 _ _ _ _)
noncomputable def fEdition_changesTo_l5 : Nat → Nat → Nat → Int → Int → zHp → (Nat → zHp → Option (Int × zHp)) → Option (Int × zHp)
  | 0, _, _, _, _, _, _ => none
  | n + 1, x30, x31, x32, x33, s34, k35 =>
   yjn (fun (x36 : Nat) (x37 : Nat) (x38 : Int) (x39 : Int) (s40 : zHp) =>
    yvl (zadd x39 1) fun v42 =>
    fEdition_changesTo_l5 n x36 x37 x38 v42 s40 k35) fun q41 =>
    if x33 < 20 then
     (yck 2 x30 s34 <| ybd (fEdition_barOf x30 x32 x33 s34) fun p43 s44 =>
     if p43 = 0 then
       (q41 x30 x31 x32 x33 s44)
     else
     ygr 2 7 x30 s44 fun p45 =>
     ygr 2 8 x30 s44 fun p46 =>
     ypr 2 7 x30 p46 s44 fun s47 =>
     ypr 2 8 x30 p45 s47 fun s48 =>
     yck 2 x30 s48 <| ybd (fEdition_fillRow x30 p43 x31 x32 s48) fun _ s49 =>
     q41 x30 x31 x32 x33 s49)
   else
     (k35 x30 s34)
theorem fEdition_changesTo_l5_ok {E : Nat → Nat} (d : Nat) : ∀ (n : Nat) (x30 : Nat) (x31 : Nat) (x32 : Int) (x33 : Int) (s34 : zHp) (k35 : Nat → zHp → Option (Int × zHp)) (hk35 : ∀ (y0 : Nat) (s : zHp), zE zI Ji E (d + 3) 111 (zB 111 7) ([some (.inr (.inr y0)), none, none, none, none, none]) ([]) s (k35 y0 s)), zE zI Ji E (d + 3) 111 (zB 111 5) ([some (.inr (.inr x30)), some (.inr (.inr x31)), some (.inl x32), some (.inl x33), none, none]) ([]) s34 (fEdition_changesTo_l5 n x30 x31 x32 x33 s34 k35) := by
  intro n
  induction n with
  | zero => intro x30 x31 x32 x33 s34 k35 hk35; exact zE_none
  | succ n ih =>
    intro x30 x31 x32 x33 s34 k35 hk35
    unfold fEdition_changesTo_l5
    refine zE_jn (fun q41 => ∀ (y0 : Nat) (y1 : Nat) (y2 : Int) (y3 : Int) (s : zHp), zE zI Ji E (d + 3) 111 (zB 111 6) ([some (.inr (.inr y0)), some (.inr (.inr y1)), some (.inl y2), some (.inl y3), none, none]) ([]) s (q41 y0 y1 y2 y3 s)) (fun x36 x37 x38 x39 s40 => ?_) (fun q41 hq41 => ?_)
    · refine zE_vl ?_
      refine zq_10_3 rfl ?_
      refine zq_56 ?_
      exact zE_w [true, true, true, true, false, false] (ih _ _ _ _ _ _ hk35)
    refine zq_4_3 ?_
    refine zq_1 ?_
    refine zq_49 ?_ ?_
    · refine zq_6_0 ?_
      refine zq_4_2 ?_
      refine zq_4_3 ?_
      refine zE_g fun hg => ?_
      refine zq_92_3r hg rfl rfl (fEdition_barOf_ok (E := E) _ _ _ _ _) fun p43 s44 => ?_
      refine zq_9_4 rfl ?_
      refine zq_6_4 ?_
      refine zq_54 ?_ ?_
      · exact zE_w [true, true, true, true, false, false] (hq41 _ _ _ _ _)
      refine zq_6_0 ?_
      refine zh_61 ?_
      refine zq_9_5 rfl ?_
      refine zq_6_0 ?_
      refine zq_6_0 ?_
      refine zh_61 ?_
      refine zh_64 ?_
      refine zq_6_0 ?_
      refine zq_6_5 ?_
      refine zh_64 ?_
      refine zq_6_0 ?_
      refine zq_6_4 ?_
      refine zq_6_1 ?_
      refine zq_4_2 ?_
      refine zE_g fun hg => ?_
      refine zq_92_4v hg rfl rfl (fEdition_fillRow_ok (E := E) _ _ _ _ _ _) fun _ s49 => ?_
      refine zq_57 ?_
      exact zE_w [true, true, true, true, false, false] (hq41 _ _ _ _ _)
    · exact zE_w [true, false, false, false, false, false] (hk35 _ _)
noncomputable def fEdition_changesTo (a0 : Nat) (a1 : Nat) (a2 : Int) (s : zHp) : Option (Int × zHp) :=
  ygr 2 8 a0 s fun p1 =>
  ysi p1 0 0 s fun s2 =>
  fEdition_changesTo_l1 zFU a0 a1 a2 0 s2 (fun (x26 : Nat) (x27 : Nat) (x28 : Int) (s29 : zHp) =>
   fEdition_changesTo_l5 zFU x26 x27 x28 0 s29 (fun (x50 : Nat) (s51 : zHp) =>
    ygr 2 8 x50 s51 fun p52 =>
    yai p52 20 s51 fun v53 =>
    some (v53, s51)))
theorem fEdition_changesTo_ok {E : Nat → Nat} (d : Nat) (a0 : Nat) (a1 : Nat) (a2 : Int) (s : zHp) : zE zI Ji E (d + 3) 111 (zB 111 0) (zent 6 [.inr (.inr a0), .inr (.inr a1), .inl a2]) [] s (fEdition_changesTo a0 a1 a2 s) := by
  show zE _ _ _ _ _ _ [some (.inr (.inr a0)), some (.inr (.inr a1)), some (.inl a2), none, none, none] _ _ _
  unfold fEdition_changesTo
  refine zq_6_0 ?_
  refine zh_61 ?_
  refine zq_1 ?_
  refine zq_1 ?_
  refine zh_68 ?_
  refine zq_1 ?_
  refine zq_7_3 rfl ?_
  refine zq_57 ?_
  refine zE_w [true, true, true, true, false, false] (fEdition_changesTo_l1_ok (E := E) d zFU _ _ _ _ _ _ (fun x26 x27 x28 s29 => ?_))
  refine zq_1 ?_
  refine zq_7_3 rfl ?_
  refine zq_57 ?_
  refine zE_w [true, true, true, true, false, false] (fEdition_changesTo_l5_ok (E := E) d zFU _ _ _ _ _ _ (fun x50 s51 => ?_))
  refine zq_6_0 ?_
  refine zh_61 ?_
  refine zq_1 ?_
  refine zh_65 ?_
  exact zq_95 rfl
/-! 112: EngraversHouse$Edition.distanceTo:(LEngraversHouse$Edition;)I -/
noncomputable def fEdition_distanceTo_l7 : Nat → Nat → Nat → Int → Int → zHp → (Nat → Nat → Int → zHp → Option (Int × zHp)) → Option (Int × zHp)
  | 0, _, _, _, _, _, _ => none
  | n + 1, x24, x25, x26, x27, s28, k29 =>
   if x27 < 4 then
     (yck 2 x24 s28 <| ybd (fEdition_changesTo x24 x25 x27 s28) fun v30 s31 =>
     yvl (zadd x26 v30) fun v32 =>
     yvl (zadd x27 1) fun v33 =>
     fEdition_distanceTo_l7 n x24 x25 v32 v33 s31 k29)
   else
     (k29 x24 x25 x26 s28)
theorem fEdition_distanceTo_l7_ok {E : Nat → Nat} (d : Nat) : ∀ (n : Nat) (x24 : Nat) (x25 : Nat) (x26 : Int) (x27 : Int) (s28 : zHp) (k29 : Nat → Nat → Int → zHp → Option (Int × zHp)) (hk29 : ∀ (y0 : Nat) (y1 : Nat) (y2 : Int) (s : zHp), zE zI Ji E (d + 4) 112 (zB 112 8) ([none, none, some (.inr (.inr y0)), some (.inr (.inr y1)), some (.inl y2), none]) ([]) s (k29 y0 y1 y2 s)), zE zI Ji E (d + 4) 112 (zB 112 7) ([none, none, some (.inr (.inr x24)), some (.inr (.inr x25)), some (.inl x26), some (.inl x27)]) ([]) s28 (fEdition_distanceTo_l7 n x24 x25 x26 x27 s28 k29) := by
  intro n
  induction n with
  | zero => intro x24 x25 x26 x27 s28 k29 hk29; exact zE_none
  | succ n ih =>
    intro x24 x25 x26 x27 s28 k29 hk29
    unfold fEdition_distanceTo_l7
    refine zq_4_5 ?_
    refine zq_1 ?_
    refine zq_49 ?_ ?_
    · refine zq_4_4 ?_
      refine zq_6_2 ?_
      refine zq_6_3 ?_
      refine zq_4_5 ?_
      refine zE_g fun hg => ?_
      refine zq_92_3i hg rfl rfl (fEdition_changesTo_ok (E := E) _ _ _ _ _) fun v30 s31 => ?_
      refine zq_11 ?_
      refine zE_vl ?_
      refine zq_7_4 rfl ?_
      refine zE_vl ?_
      refine zq_10_5 rfl ?_
      refine zq_56 ?_
      exact zE_w [false, false, true, true, true, true] (ih _ _ _ _ _ _ hk29)
    · exact zE_w [false, false, true, true, true, false] (hk29 _ _ _ _)
noncomputable def fEdition_distanceTo (a0 : Nat) (a1 : Nat) (s : zHp) : Option (Int × zHp) :=
  yjn (fun (x1 : Nat) (x2 : Nat) (x3 : Nat) (s4 : zHp) =>
   yjn (fun (x6 : Nat) (x7 : Nat) (s8 : zHp) =>
    ygi 2 1 x7 s8 fun v10 =>
    if v10 < 0 then
      (some (0, s8))
    else
    ygi 2 1 x7 s8 fun v11 =>
    ygr 2 6 x6 s8 fun p12 =>
    yln p12 s8 fun v13 =>
    if v11 < v13 then
      (yjn (fun (x14 : Nat) (x15 : Nat) (s16 : zHp) =>
       ygr 2 6 x14 s16 fun p18 =>
       ygi 2 1 x15 s16 fun v19 =>
       yai p18 v19 s16 fun v20 =>
       some (v20, s16)) fun q17 =>
       ygr 2 6 x6 s8 fun p21 =>
      ygi 2 1 x7 s8 fun v22 =>
      yai p21 v22 s8 fun v23 =>
      if v23 = (-1) then
        (fEdition_distanceTo_l7 zFU x6 x7 0 0 s8 (fun (x34 : Nat) (x35 : Nat) (x36 : Int) (s37 : zHp) =>
         ygr 2 6 x34 s37 fun p38 =>
         ygi 2 1 x35 s37 fun v39 =>
         ysi p38 v39 x36 s37 fun s40 =>
         q17 x34 x35 s40))
      else
        (q17 x6 x7 s8))
    else
    some (0, s8)) fun q9 =>
    ygi 2 1 x2 s4 fun v41 =>
   ygi 2 1 x1 s4 fun v42 =>
   if v42 < v41 then
     (q9 x3 x1 s4)
   else
     (q9 x3 x2 s4)) fun q5 =>
   ygi 2 1 a1 s fun v43 =>
  ygi 2 1 a0 s fun v44 =>
  if v44 < v43 then
    (q5 a0 a1 a1 s)
  else
    (q5 a0 a1 a0 s)
theorem fEdition_distanceTo_ok {E : Nat → Nat} (d : Nat) (a0 : Nat) (a1 : Nat) (s : zHp) : zE zI Ji E (d + 4) 112 (zB 112 0) (zent 6 [.inr (.inr a0), .inr (.inr a1)]) [] s (fEdition_distanceTo a0 a1 s) := by
  show zE _ _ _ _ _ _ [some (.inr (.inr a0)), some (.inr (.inr a1)), none, none, none, none] _ _ _
  unfold fEdition_distanceTo
  refine zE_jn (fun q5 => ∀ (y0 : Nat) (y1 : Nat) (y2 : Nat) (s : zHp), zE zI Ji E (d + 4) 112 (zB 112 2) ([some (.inr (.inr y0)), some (.inr (.inr y1)), none, none, none, none]) ([.inr (.inr y2)]) s (q5 y0 y1 y2 s)) (fun x1 x2 x3 s4 => ?_) (fun q5 hq5 => ?_)
  · refine zE_jn (fun q9 => ∀ (y0 : Nat) (y1 : Nat) (s : zHp), zE zI Ji E (d + 4) 112 (zB 112 4) ([none, none, some (.inr (.inr y0)), none, none, none]) ([.inr (.inr y1)]) s (q9 y0 y1 s)) (fun x6 x7 s8 => ?_) (fun q9 hq9 => ?_)
    · refine zq_9_3 rfl ?_
      refine zq_6_3 ?_
      refine zh_60 ?_
      refine zq_42 ?_ ?_
      · refine zq_1 ?_
        exact zq_95 rfl
      refine zq_6_3 ?_
      refine zh_60 ?_
      refine zq_6_2 ?_
      refine zh_61 ?_
      refine zh_72 ?_
      refine zq_48 ?_ ?_
      · refine zE_jn (fun q17 => ∀ (y0 : Nat) (y1 : Nat) (s : zHp), zE zI Ji E (d + 4) 112 (zB 112 9) ([none, none, some (.inr (.inr y0)), some (.inr (.inr y1)), none, none]) ([]) s (q17 y0 y1 s)) (fun x14 x15 s16 => ?_) (fun q17 hq17 => ?_)
        · refine zq_6_2 ?_
          refine zh_61 ?_
          refine zq_6_3 ?_
          refine zh_60 ?_
          refine zh_65 ?_
          exact zq_95 rfl
        refine zq_6_2 ?_
        refine zh_61 ?_
        refine zq_6_3 ?_
        refine zh_60 ?_
        refine zh_65 ?_
        refine zq_1 ?_
        refine zq_47 ?_ ?_
        · refine zq_1 ?_
          refine zq_7_4 rfl ?_
          refine zq_1 ?_
          refine zq_7_5 rfl ?_
          refine zq_57 ?_
          refine zE_w [false, false, true, true, true, true] (fEdition_distanceTo_l7_ok (E := E) d zFU _ _ _ _ _ _ (fun x34 x35 x36 s37 => ?_))
          refine zq_6_2 ?_
          refine zh_61 ?_
          refine zq_6_3 ?_
          refine zh_60 ?_
          refine zq_4_4 ?_
          refine zh_68 ?_
          refine zq_57 ?_
          exact zE_w [false, false, true, true, false, false] (hq17 _ _ _)
        · exact zE_w [false, false, true, true, false, false] (hq17 _ _ _)
      refine zq_57 ?_
      refine zq_1 ?_
      exact zq_95 rfl
    refine zq_9_2 rfl ?_
    refine zq_6_1 ?_
    refine zh_60 ?_
    refine zq_6_0 ?_
    refine zh_60 ?_
    refine zq_51 ?_ ?_
    · refine zq_6_0 ?_
      refine zq_56 ?_
      exact zE_w [false, false, true, false, false, false] (hq9 _ _ _)
    · refine zq_6_1 ?_
      refine zq_57 ?_
      exact zE_w [false, false, true, false, false, false] (hq9 _ _ _)
  refine zq_6_1 ?_
  refine zh_60 ?_
  refine zq_6_0 ?_
  refine zh_60 ?_
  refine zq_51 ?_ ?_
  · refine zq_6_1 ?_
    refine zq_56 ?_
    exact zE_w [true, true, false, false, false, false] (hq5 _ _ _ _)
  · refine zq_6_0 ?_
    refine zq_57 ?_
    exact zE_w [true, true, false, false, false, false] (hq5 _ _ _ _)
/-! 113: EngraversHouse.changes:(III)I -/
noncomputable def fH_changes (a0 : Nat) (a1 : Int) (a2 : Int) (a3 : Int) (s : zHp) : Option (Int × zHp) :=
  yck 10 a0 s <| ybd (fH_thingAt a0 a1 s) fun p1 s2 =>
  if p1 = 0 then
    (some ((-1), s2))
  else
  yck 10 a0 s2 <| ybd (fH_thingAt a0 a2 s2) fun p3 s4 =>
  if p3 = 0 then
    (some ((-1), s4))
  else
  ybd (fH_within a3 (-1) 3 s4) fun v5 s6 =>
  if v5 = 0 then
    (some ((-1), s6))
  else
    (yck 10 a0 s6 <| ybd (fH_editionAt a0 a1 s6) fun p7 s8 =>
    yck 10 a0 s8 <| ybd (fH_editionAt a0 a2 s8) fun p9 s10 =>
    if p7 = 0 then
      (some ((-12), s10))
    else
    if p9 = 0 then
      (some ((-12), s10))
    else
      (ygr 2 2 p7 s10 fun p11 =>
      ygr 2 2 p9 s10 fun p12 =>
      if p11 = p12 then
        (if a3 = (-1) then
          (yck 2 p7 s10 <| ybd (fEdition_distanceTo p7 p9 s10) fun v15 s16 =>
          some (v15, s16))
        else
          (yck 2 p7 s10 <| ybd (fEdition_changesTo p7 p9 a3 s10) fun v13 s14 =>
          some (v13, s14)))
      else
      some ((-3), s10)))
theorem fH_changes_ok {E : Nat → Nat} (d : Nat) (a0 : Nat) (a1 : Int) (a2 : Int) (a3 : Int) (s : zHp) : zE zI Ji E (d + 5) 113 (zB 113 0) (zent 6 [.inr (.inr a0), .inl a1, .inl a2, .inl a3]) [] s (fH_changes a0 a1 a2 a3 s) := by
  show zE _ _ _ _ _ _ [some (.inr (.inr a0)), some (.inl a1), some (.inl a2), some (.inl a3), none, none] _ _ _
  unfold fH_changes
  refine zq_6_0 ?_
  refine zq_4_1 ?_
  refine zE_g fun hg => ?_
  refine zq_92_2r hg rfl rfl (fH_thingAt_ok (E := E) _ _ _ _) fun p1 s2 => ?_
  refine zq_54 ?_ ?_
  · refine zq_1 ?_
    exact zq_95 rfl
  refine zq_6_0 ?_
  refine zq_4_2 ?_
  refine zE_g fun hg => ?_
  refine zq_92_2r hg rfl rfl (fH_thingAt_ok (E := E) _ _ _ _) fun p3 s4 => ?_
  refine zq_54 ?_ ?_
  · refine zq_1 ?_
    exact zq_95 rfl
  refine zq_4_3 ?_
  refine zq_1 ?_
  refine zq_1 ?_
  refine zq_90_3i rfl rfl (fH_within_ok (E := E) _ _ _ _ _) fun v5 s6 => ?_
  refine zq_41 ?_ ?_
  · refine zq_57 ?_
    refine zq_1 ?_
    exact zq_95 rfl
  · refine zq_6_0 ?_
    refine zq_4_1 ?_
    refine zE_g fun hg => ?_
    refine zq_92_2r hg rfl rfl (fH_editionAt_ok (E := E) _ _ _ _) fun p7 s8 => ?_
    refine zq_9_4 rfl ?_
    refine zq_6_0 ?_
    refine zq_4_2 ?_
    refine zE_g fun hg => ?_
    refine zq_92_2r hg rfl rfl (fH_editionAt_ok (E := E) _ _ _ _) fun p9 s10 => ?_
    refine zq_9_5 rfl ?_
    refine zq_6_4 ?_
    refine zq_54 ?_ ?_
    · refine zq_1 ?_
      exact zq_95 rfl
    refine zq_6_5 ?_
    refine zq_55 ?_ ?_
    · refine zq_57 ?_
      refine zq_1 ?_
      exact zq_95 rfl
    · refine zq_6_4 ?_
      refine zh_61 ?_
      refine zq_6_5 ?_
      refine zh_61 ?_
      refine zq_52 ?_ ?_
      · refine zq_4_3 ?_
        refine zq_1 ?_
        refine zq_47 ?_ ?_
        · refine zq_6_4 ?_
          refine zq_6_5 ?_
          refine zE_g fun hg => ?_
          refine zq_92_2i hg rfl rfl (fEdition_distanceTo_ok (E := E) _ _ _ _) fun v15 s16 => ?_
          refine zq_56 ?_
          exact zq_95 rfl
        · refine zq_6_4 ?_
          refine zq_6_5 ?_
          refine zq_4_3 ?_
          refine zE_g fun hg => ?_
          refine zq_92_3i hg rfl rfl (fEdition_changesTo_ok (E := E) _ _ _ _ _) fun v13 s14 => ?_
          refine zq_57 ?_
          exact zq_95 rfl
      refine zq_1 ?_
      exact zq_95 rfl
/-! 114: EngraversHouse$Edition.mayHangOn:(LEngraversHouse$Edition;)V -/
noncomputable def fEdition_mayHangOn (a0 : Nat) (a1 : Nat) (s : zHp) : Option (Unit × zHp) :=
  yjn (fun (x1 : Nat) (x2 : Nat) (x3 : Int) (s4 : zHp) =>
   ygi 2 1 x2 s4 fun v6 =>
   ypi 2 10 x1 v6 s4 fun s7 =>
   ypi 2 11 x1 x3 s7 fun s8 =>
   some ((), s8)) fun q5 =>
   yck 2 a0 s <| ybd (fEdition_distanceTo a0 a1 s) fun v9 s10 =>
  ygi 2 10 a0 s10 fun v11 =>
  if v11 = (-1) then
    (q5 a0 a1 v9 s10)
  else
  ygi 2 11 a0 s10 fun v12 =>
  if v9 < v12 then
    (q5 a0 a1 v9 s10)
  else
  ygi 2 11 a0 s10 fun v13 =>
  if v9 = v13 then
    (ygi 2 1 a1 s10 fun v14 =>
    ygi 2 10 a0 s10 fun v15 =>
    if v14 < v15 then
      (q5 a0 a1 v9 s10)
    else
      (some ((), s10)))
  else
    (some ((), s10))
theorem fEdition_mayHangOn_ok {E : Nat → Nat} (d : Nat) (a0 : Nat) (a1 : Nat) (s : zHp) : zE zI Jv E (d + 5) 114 (zB 114 0) (zent 3 [.inr (.inr a0), .inr (.inr a1)]) [] s (fEdition_mayHangOn a0 a1 s) := by
  show zE _ _ _ _ _ _ [some (.inr (.inr a0)), some (.inr (.inr a1)), none] _ _ _
  unfold fEdition_mayHangOn
  refine zE_jn (fun q5 => ∀ (y0 : Nat) (y1 : Nat) (y2 : Int) (s : zHp), zE zI Jv E (d + 5) 114 (zB 114 1) ([some (.inr (.inr y0)), some (.inr (.inr y1)), some (.inl y2)]) ([]) s (q5 y0 y1 y2 s)) (fun x1 x2 x3 s4 => ?_) (fun q5 hq5 => ?_)
  · refine zq_6_0 ?_
    refine zq_6_1 ?_
    refine zh_60 ?_
    refine zh_62 ?_
    refine zq_6_0 ?_
    refine zq_4_2 ?_
    refine zh_62 ?_
    refine zq_57 ?_
    exact zq_101
  refine zq_6_0 ?_
  refine zq_6_1 ?_
  refine zE_g fun hg => ?_
  refine zq_92_2i hg rfl rfl (fEdition_distanceTo_ok (E := E) _ _ _ _) fun v9 s10 => ?_
  refine zq_7_2 rfl ?_
  refine zq_6_0 ?_
  refine zh_60 ?_
  refine zq_1 ?_
  refine zq_46 ?_ ?_
  · exact zE_w [true, true, true] (hq5 _ _ _ _)
  refine zq_4_2 ?_
  refine zq_6_0 ?_
  refine zh_60 ?_
  refine zq_48 ?_ ?_
  · exact zE_w [true, true, true] (hq5 _ _ _ _)
  refine zq_4_2 ?_
  refine zq_6_0 ?_
  refine zh_60 ?_
  refine zq_47 ?_ ?_
  · refine zq_6_1 ?_
    refine zh_60 ?_
    refine zq_6_0 ?_
    refine zh_60 ?_
    refine zq_49 ?_ ?_
    · refine zq_57 ?_
      exact zE_w [true, true, true] (hq5 _ _ _ _)
    · exact zq_101
  · exact zq_101
/-! 115: EngraversHouse.nearestToTree:(LEngraversHouse$Score;)LEngraversHouse$Edition; -/
noncomputable def fH_nearestToTree_l1 : Nat → Nat → Nat → Nat → Int → zHp → Option (Nat × zHp)
  | 0, _, _, _, _, _ => none
  | n + 1, x1, x2, x3, x4, s5 =>
   yjn (fun (x6 : Nat) (x7 : Nat) (x8 : Nat) (x9 : Int) (s10 : zHp) =>
    yvl (zadd x9 1) fun v12 =>
    fH_nearestToTree_l1 n x6 x7 x8 v12 s10) fun q11 =>
    yjn (fun (x13 : Nat) (x14 : Nat) (x15 : Int) (x16 : Nat) (s17 : zHp) =>
    q11 x13 x14 x16 x15 s17) fun q18 =>
    ygi 10 4 x1 s5 fun v19 =>
   if x4 < v19 then
     (yck 10 x1 s5 <| ybd (fH_editionAt x1 x4 s5) fun p20 s21 =>
     if p20 = 0 then
       (q11 x1 x2 x3 x4 s21)
     else
     ygr 2 2 p20 s21 fun p22 =>
     if p22 = x2 then
       (ygi 2 9 p20 s21 fun v23 =>
       if v23 = 0 then
         (if x3 = 0 then
           (q18 x1 x2 x4 p20 s21)
         else
         ygi 2 11 p20 s21 fun v24 =>
         ygi 2 11 x3 s21 fun v25 =>
         if v24 < v25 then
           (q18 x1 x2 x4 p20 s21)
         else
           (q11 x1 x2 x3 x4 s21))
       else
         (q11 x1 x2 x3 x4 s21))
     else
       (q11 x1 x2 x3 x4 s21))
   else
     (some (x3, s5))
theorem fH_nearestToTree_l1_ok {E : Nat → Nat} (d : Nat) : ∀ (n : Nat) (x1 : Nat) (x2 : Nat) (x3 : Nat) (x4 : Int) (s5 : zHp), zE zI Jr E (d + 2) 115 (zB 115 1) ([some (.inr (.inr x1)), some (.inr (.inr x2)), some (.inr (.inr x3)), some (.inl x4), none]) ([]) s5 (fH_nearestToTree_l1 n x1 x2 x3 x4 s5) := by
  intro n
  induction n with
  | zero => intro x1 x2 x3 x4 s5; exact zE_none
  | succ n ih =>
    intro x1 x2 x3 x4 s5
    unfold fH_nearestToTree_l1
    refine zE_jn (fun q11 => ∀ (y0 : Nat) (y1 : Nat) (y2 : Nat) (y3 : Int) (s : zHp), zE zI Jr E (d + 2) 115 (zB 115 3) ([some (.inr (.inr y0)), some (.inr (.inr y1)), some (.inr (.inr y2)), some (.inl y3), none]) ([]) s (q11 y0 y1 y2 y3 s)) (fun x6 x7 x8 x9 s10 => ?_) (fun q11 hq11 => ?_)
    · refine zE_vl ?_
      refine zq_10_3 rfl ?_
      refine zq_56 ?_
      exact zE_w [true, true, true, true, false] (ih _ _ _ _ _)
    refine zE_jn (fun q18 => ∀ (y0 : Nat) (y1 : Nat) (y2 : Int) (y3 : Nat) (s : zHp), zE zI Jr E (d + 2) 115 (zB 115 2) ([some (.inr (.inr y0)), some (.inr (.inr y1)), none, some (.inl y2), some (.inr (.inr y3))]) ([]) s (q18 y0 y1 y2 y3 s)) (fun x13 x14 x15 x16 s17 => ?_) (fun q18 hq18 => ?_)
    · refine zq_6_4 ?_
      refine zq_9_2 rfl ?_
      refine zq_57 ?_
      exact zE_w [true, true, true, true, false] (hq11 _ _ _ _ _)
    refine zq_4_3 ?_
    refine zq_6_0 ?_
    refine zh_60 ?_
    refine zq_49 ?_ ?_
    · refine zq_6_0 ?_
      refine zq_4_3 ?_
      refine zE_g fun hg => ?_
      refine zq_92_2r hg rfl rfl (fH_editionAt_ok (E := E) _ _ _ _) fun p20 s21 => ?_
      refine zq_9_4 rfl ?_
      refine zq_6_4 ?_
      refine zq_54 ?_ ?_
      · exact zE_w [true, true, true, true, false] (hq11 _ _ _ _ _)
      refine zq_6_4 ?_
      refine zh_61 ?_
      refine zq_6_1 ?_
      refine zq_53 ?_ ?_
      · refine zq_6_4 ?_
        refine zh_60 ?_
        refine zq_41 ?_ ?_
        · refine zq_6_2 ?_
          refine zq_54 ?_ ?_
          · exact zE_w [true, true, false, true, true] (hq18 _ _ _ _ _)
          refine zq_6_4 ?_
          refine zh_60 ?_
          refine zq_6_2 ?_
          refine zh_60 ?_
          refine zq_49 ?_ ?_
          · refine zq_57 ?_
            exact zE_w [true, true, false, true, true] (hq18 _ _ _ _ _)
          · exact zE_w [true, true, true, true, false] (hq11 _ _ _ _ _)
        · exact zE_w [true, true, true, true, false] (hq11 _ _ _ _ _)
      · exact zE_w [true, true, true, true, false] (hq11 _ _ _ _ _)
    · refine zq_6_2 ?_
      exact zq_100
noncomputable def fH_nearestToTree (a0 : Nat) (a1 : Nat) (s : zHp) : Option (Nat × zHp) :=
  fH_nearestToTree_l1 zFU a0 a1 0 0 s
theorem fH_nearestToTree_ok {E : Nat → Nat} (d : Nat) (a0 : Nat) (a1 : Nat) (s : zHp) : zE zI Jr E (d + 2) 115 (zB 115 0) (zent 5 [.inr (.inr a0), .inr (.inr a1)]) [] s (fH_nearestToTree a0 a1 s) := by
  show zE _ _ _ _ _ _ [some (.inr (.inr a0)), some (.inr (.inr a1)), none, none, none] _ _ _
  unfold fH_nearestToTree
  refine zq_3 ?_
  refine zq_9_2 rfl ?_
  refine zq_1 ?_
  refine zq_7_3 rfl ?_
  refine zq_57 ?_
  exact zE_w [true, true, true, true, false] (fH_nearestToTree_l1_ok (E := E) d zFU _ _ _ _ _)
/-! 116: EngraversHouse.growTree:(LEngraversHouse$Score;)V -/
noncomputable def fH_growTree_l1 : Nat → Nat → Nat → Nat → Int → zHp → (Nat → Nat → Nat → zHp → Option (Unit × zHp)) → Option (Unit × zHp)
  | 0, _, _, _, _, _, _ => none
  | n + 1, x1, x2, x3, x4, s5, k6 =>
   yjn (fun (x7 : Nat) (x8 : Nat) (x9 : Nat) (x10 : Int) (s11 : zHp) =>
    yvl (zadd x10 1) fun v13 =>
    fH_growTree_l1 n x7 x8 x9 v13 s11 k6) fun q12 =>
    yjn (fun (x14 : Nat) (x15 : Nat) (x16 : Nat) (x17 : Int) (x18 : Nat) (x19 : Nat) (x20 : Int) (s21 : zHp) =>
    yjn (fun (x23 : Nat) (x24 : Nat) (x25 : Int) (x26 : Nat) (s27 : zHp) =>
     q12 x23 x24 x26 x25 s27) fun q28 =>
     ypz 2 9 x19 x20 s21 fun s29 =>
    ypi 2 10 x18 (-1) s29 fun s30 =>
    ygi 2 9 x18 s30 fun v31 =>
    if v31 = 0 then
      (q28 x14 x15 x17 x16 s30)
    else
    q28 x14 x15 x17 x18 s30) fun q22 =>
    ygi 10 4 x1 s5 fun v32 =>
   if x4 < v32 then
     (yck 10 x1 s5 <| ybd (fH_editionAt x1 x4 s5) fun p33 s34 =>
     if p33 = 0 then
       (q12 x1 x2 x3 x4 s34)
     else
     ygr 2 2 p33 s34 fun p35 =>
     if p35 = x2 then
       (if x3 = 0 then
         (q22 x1 x2 x3 x4 p33 p33 1 s34)
       else
         (q22 x1 x2 x3 x4 p33 p33 0 s34))
     else
       (q12 x1 x2 x3 x4 s34))
   else
     (k6 x1 x2 x3 s5)
theorem fH_growTree_l1_ok {E : Nat → Nat} (d : Nat) : ∀ (n : Nat) (x1 : Nat) (x2 : Nat) (x3 : Nat) (x4 : Int) (s5 : zHp) (k6 : Nat → Nat → Nat → zHp → Option (Unit × zHp)) (hk6 : ∀ (y0 : Nat) (y1 : Nat) (y2 : Nat) (s : zHp), zE zI Jv E (d + 6) 116 (zB 116 7) ([some (.inr (.inr y0)), some (.inr (.inr y1)), some (.inr (.inr y2)), none, none, none]) ([]) s (k6 y0 y1 y2 s)), zE zI Jv E (d + 6) 116 (zB 116 1) ([some (.inr (.inr x1)), some (.inr (.inr x2)), some (.inr (.inr x3)), some (.inl x4), none, none]) ([]) s5 (fH_growTree_l1 n x1 x2 x3 x4 s5 k6) := by
  intro n
  induction n with
  | zero => intro x1 x2 x3 x4 s5 k6 hk6; exact zE_none
  | succ n ih =>
    intro x1 x2 x3 x4 s5 k6 hk6
    unfold fH_growTree_l1
    refine zE_jn (fun q12 => ∀ (y0 : Nat) (y1 : Nat) (y2 : Nat) (y3 : Int) (s : zHp), zE zI Jv E (d + 6) 116 (zB 116 6) ([some (.inr (.inr y0)), some (.inr (.inr y1)), some (.inr (.inr y2)), some (.inl y3), none, none]) ([]) s (q12 y0 y1 y2 y3 s)) (fun x7 x8 x9 x10 s11 => ?_) (fun q12 hq12 => ?_)
    · refine zE_vl ?_
      refine zq_10_3 rfl ?_
      refine zq_56 ?_
      exact zE_w [true, true, true, true, false, false] (ih _ _ _ _ _ _ hk6)
    refine zE_jn (fun q22 => ∀ (y0 : Nat) (y1 : Nat) (y2 : Nat) (y3 : Int) (y4 : Nat) (y5 : Nat) (y6 : Int) (s : zHp), zE zI Jv E (d + 6) 116 (zB 116 3) ([some (.inr (.inr y0)), some (.inr (.inr y1)), some (.inr (.inr y2)), some (.inl y3), some (.inr (.inr y4)), none]) ([.inl y6, .inr (.inr y5)]) s (q22 y0 y1 y2 y3 y4 y5 y6 s)) (fun x14 x15 x16 x17 x18 x19 x20 s21 => ?_) (fun q22 hq22 => ?_)
    · refine zE_jn (fun q28 => ∀ (y0 : Nat) (y1 : Nat) (y2 : Int) (y3 : Nat) (s : zHp), zE zI Jv E (d + 6) 116 (zB 116 5) ([some (.inr (.inr y0)), some (.inr (.inr y1)), none, some (.inl y2), none, none]) ([.inr (.inr y3)]) s (q28 y0 y1 y2 y3 s)) (fun x23 x24 x25 x26 s27 => ?_) (fun q28 hq28 => ?_)
      · refine zq_9_2 rfl ?_
        refine zq_57 ?_
        exact zE_w [true, true, true, true, false, false] (hq12 _ _ _ _ _)
      refine zh_63 ?_
      refine zq_6_4 ?_
      refine zq_1 ?_
      refine zh_62 ?_
      refine zq_6_4 ?_
      refine zh_60 ?_
      refine zq_40 ?_ ?_
      · refine zq_6_2 ?_
        refine zq_57 ?_
        exact zE_w [true, true, false, true, false, false] (hq28 _ _ _ _ _)
      refine zq_6_4 ?_
      refine zq_56 ?_
      exact zE_w [true, true, false, true, false, false] (hq28 _ _ _ _ _)
    refine zq_4_3 ?_
    refine zq_6_0 ?_
    refine zh_60 ?_
    refine zq_49 ?_ ?_
    · refine zq_6_0 ?_
      refine zq_4_3 ?_
      refine zE_g fun hg => ?_
      refine zq_92_2r hg rfl rfl (fH_editionAt_ok (E := E) _ _ _ _) fun p33 s34 => ?_
      refine zq_9_4 rfl ?_
      refine zq_6_4 ?_
      refine zq_54 ?_ ?_
      · exact zE_w [true, true, true, true, false, false] (hq12 _ _ _ _ _)
      refine zq_6_4 ?_
      refine zh_61 ?_
      refine zq_6_1 ?_
      refine zq_53 ?_ ?_
      · refine zq_6_4 ?_
        refine zq_6_2 ?_
        refine zq_55 ?_ ?_
        · refine zq_1 ?_
          refine zq_56 ?_
          exact zE_w [true, true, true, true, true, false] (hq22 _ _ _ _ _ _ _ _)
        · refine zq_1 ?_
          refine zq_57 ?_
          exact zE_w [true, true, true, true, true, false] (hq22 _ _ _ _ _ _ _ _)
      · exact zE_w [true, true, true, true, false, false] (hq12 _ _ _ _ _)
    · exact zE_w [true, true, true, false, false, false] (hk6 _ _ _ _)
noncomputable def fH_growTree_l9 : Nat → Nat → Nat → Nat → Int → Int → zHp → (Nat → Nat → Int → zHp → Option (Unit × zHp)) → Option (Unit × zHp)
  | 0, _, _, _, _, _, _, _ => none
  | n + 1, x46, x47, x48, x49, x50, s51, k52 =>
   yjn (fun (x53 : Nat) (x54 : Nat) (x55 : Nat) (x56 : Int) (x57 : Int) (s58 : zHp) =>
    yvl (zadd x57 1) fun v60 =>
    fH_growTree_l9 n x53 x54 x55 x56 v60 s58 k52) fun q59 =>
    ygi 10 4 x46 s51 fun v61 =>
   if x50 < v61 then
     (yck 10 x46 s51 <| ybd (fH_editionAt x46 x50 s51) fun p62 s63 =>
     if p62 = 0 then
       (q59 x46 x47 x48 x49 x50 s63)
     else
     ygr 2 2 p62 s63 fun p64 =>
     if p64 = x47 then
       (ygi 2 9 p62 s63 fun v65 =>
       if v65 = 0 then
         (yck 2 p62 s63 <| ybd (fEdition_mayHangOn p62 x48 s63) fun _ s66 =>
         q59 x46 x47 x48 x49 x50 s66)
       else
         (q59 x46 x47 x48 x49 x50 s63))
     else
       (q59 x46 x47 x48 x49 x50 s63))
   else
     (k52 x46 x47 x49 s51)
theorem fH_growTree_l9_ok {E : Nat → Nat} (d : Nat) : ∀ (n : Nat) (x46 : Nat) (x47 : Nat) (x48 : Nat) (x49 : Int) (x50 : Int) (s51 : zHp) (k52 : Nat → Nat → Int → zHp → Option (Unit × zHp)) (hk52 : ∀ (y0 : Nat) (y1 : Nat) (y2 : Int) (s : zHp), zE zI Jv E (d + 6) 116 (zB 116 11) ([some (.inr (.inr y0)), some (.inr (.inr y1)), none, some (.inl y2), none, none]) ([]) s (k52 y0 y1 y2 s)), zE zI Jv E (d + 6) 116 (zB 116 9) ([some (.inr (.inr x46)), some (.inr (.inr x47)), some (.inr (.inr x48)), some (.inl x49), some (.inl x50), none]) ([]) s51 (fH_growTree_l9 n x46 x47 x48 x49 x50 s51 k52) := by
  intro n
  induction n with
  | zero => intro x46 x47 x48 x49 x50 s51 k52 hk52; exact zE_none
  | succ n ih =>
    intro x46 x47 x48 x49 x50 s51 k52 hk52
    unfold fH_growTree_l9
    refine zE_jn (fun q59 => ∀ (y0 : Nat) (y1 : Nat) (y2 : Nat) (y3 : Int) (y4 : Int) (s : zHp), zE zI Jv E (d + 6) 116 (zB 116 10) ([some (.inr (.inr y0)), some (.inr (.inr y1)), some (.inr (.inr y2)), some (.inl y3), some (.inl y4), none]) ([]) s (q59 y0 y1 y2 y3 y4 s)) (fun x53 x54 x55 x56 x57 s58 => ?_) (fun q59 hq59 => ?_)
    · refine zE_vl ?_
      refine zq_10_4 rfl ?_
      refine zq_56 ?_
      exact zE_w [true, true, true, true, true, false] (ih _ _ _ _ _ _ _ hk52)
    refine zq_4_4 ?_
    refine zq_6_0 ?_
    refine zh_60 ?_
    refine zq_49 ?_ ?_
    · refine zq_6_0 ?_
      refine zq_4_4 ?_
      refine zE_g fun hg => ?_
      refine zq_92_2r hg rfl rfl (fH_editionAt_ok (E := E) _ _ _ _) fun p62 s63 => ?_
      refine zq_9_5 rfl ?_
      refine zq_6_5 ?_
      refine zq_54 ?_ ?_
      · exact zE_w [true, true, true, true, true, false] (hq59 _ _ _ _ _ _)
      refine zq_6_5 ?_
      refine zh_61 ?_
      refine zq_6_1 ?_
      refine zq_53 ?_ ?_
      · refine zq_6_5 ?_
        refine zh_60 ?_
        refine zq_41 ?_ ?_
        · refine zq_6_5 ?_
          refine zq_6_2 ?_
          refine zE_g fun hg => ?_
          refine zq_92_2v hg rfl rfl (fEdition_mayHangOn_ok (E := E) _ _ _ _) fun _ s66 => ?_
          refine zq_57 ?_
          exact zE_w [true, true, true, true, true, false] (hq59 _ _ _ _ _ _)
        · exact zE_w [true, true, true, true, true, false] (hq59 _ _ _ _ _ _)
      · exact zE_w [true, true, true, true, true, false] (hq59 _ _ _ _ _ _)
    · exact zE_w [true, true, false, true, false, false] (hk52 _ _ _ _)
noncomputable def fH_growTree_l8 : Nat → Nat → Nat → Nat → Int → zHp → Option (Unit × zHp)
  | 0, _, _, _, _, _ => none
  | n + 1, x40, x41, x42, x43, s44 =>
   ygi 10 4 x40 s44 fun v45 =>
   if x43 < v45 then
     (if x42 = 0 then
       (some ((), s44))
     else
     fH_growTree_l9 zFU x40 x41 x42 x43 0 s44 (fun (x67 : Nat) (x68 : Nat) (x69 : Int) (s70 : zHp) =>
      yjn (fun (x71 : Nat) (x72 : Nat) (x73 : Nat) (x74 : Int) (s75 : zHp) =>
       yvl (zadd x74 1) fun v77 =>
       fH_growTree_l8 n x71 x72 x73 v77 s75) fun q76 =>
       yck 10 x67 s70 <| ybd (fH_nearestToTree x67 x68 s70) fun p78 s79 =>
      if p78 = 0 then
        (q76 x67 x68 p78 x69 s79)
      else
      ypz 2 9 p78 1 s79 fun s80 =>
      q76 x67 x68 p78 x69 s80))
   else
     (some ((), s44))
theorem fH_growTree_l8_ok {E : Nat → Nat} (d : Nat) : ∀ (n : Nat) (x40 : Nat) (x41 : Nat) (x42 : Nat) (x43 : Int) (s44 : zHp), zE zI Jv E (d + 6) 116 (zB 116 8) ([some (.inr (.inr x40)), some (.inr (.inr x41)), some (.inr (.inr x42)), some (.inl x43), none, none]) ([]) s44 (fH_growTree_l8 n x40 x41 x42 x43 s44) := by
  intro n
  induction n with
  | zero => intro x40 x41 x42 x43 s44; exact zE_none
  | succ n ih =>
    intro x40 x41 x42 x43 s44
    unfold fH_growTree_l8
    refine zq_4_3 ?_
    refine zq_6_0 ?_
    refine zh_60 ?_
    refine zq_49 ?_ ?_
    · refine zq_6_2 ?_
      refine zq_54 ?_ ?_
      · exact zq_101
      refine zq_1 ?_
      refine zq_7_4 rfl ?_
      refine zq_57 ?_
      refine zE_w [true, true, true, true, true, false] (fH_growTree_l9_ok (E := E) d zFU _ _ _ _ _ _ _ (fun x67 x68 x69 s70 => ?_))
      refine zE_jn (fun q76 => ∀ (y0 : Nat) (y1 : Nat) (y2 : Nat) (y3 : Int) (s : zHp), zE zI Jv E (d + 6) 116 (zB 116 12) ([some (.inr (.inr y0)), some (.inr (.inr y1)), some (.inr (.inr y2)), some (.inl y3), none, none]) ([]) s (q76 y0 y1 y2 y3 s)) (fun x71 x72 x73 x74 s75 => ?_) (fun q76 hq76 => ?_)
      · refine zE_vl ?_
        refine zq_10_3 rfl ?_
        refine zq_56 ?_
        exact zE_w [true, true, true, true, false, false] (ih _ _ _ _ _)
      refine zq_6_0 ?_
      refine zq_6_1 ?_
      refine zE_g fun hg => ?_
      refine zq_92_2r hg rfl rfl (fH_nearestToTree_ok (E := E) _ _ _ _) fun p78 s79 => ?_
      refine zq_9_2 rfl ?_
      refine zq_6_2 ?_
      refine zq_54 ?_ ?_
      · exact zE_w [true, true, true, true, false, false] (hq76 _ _ _ _ _)
      refine zq_6_2 ?_
      refine zq_1 ?_
      refine zh_63 ?_
      refine zq_57 ?_
      exact zE_w [true, true, true, true, false, false] (hq76 _ _ _ _ _)
    · exact zq_101
noncomputable def fH_growTree (a0 : Nat) (a1 : Nat) (s : zHp) : Option (Unit × zHp) :=
  fH_growTree_l1 zFU a0 a1 0 0 s (fun (x36 : Nat) (x37 : Nat) (x38 : Nat) (s39 : zHp) =>
   fH_growTree_l8 zFU x36 x37 x38 0 s39)
theorem fH_growTree_ok {E : Nat → Nat} (d : Nat) (a0 : Nat) (a1 : Nat) (s : zHp) : zE zI Jv E (d + 6) 116 (zB 116 0) (zent 6 [.inr (.inr a0), .inr (.inr a1)]) [] s (fH_growTree a0 a1 s) := by
  show zE _ _ _ _ _ _ [some (.inr (.inr a0)), some (.inr (.inr a1)), none, none, none, none] _ _ _
  unfold fH_growTree
  refine zq_3 ?_
  refine zq_9_2 rfl ?_
  refine zq_1 ?_
  refine zq_7_3 rfl ?_
  refine zq_57 ?_
  refine zE_w [true, true, true, true, false, false] (fH_growTree_l1_ok (E := E) d zFU _ _ _ _ _ _ (fun x36 x37 x38 s39 => ?_))
  refine zq_1 ?_
  refine zq_7_3 rfl ?_
  refine zq_57 ?_
  exact zE_w [true, true, true, true, false, false] (fH_growTree_l8_ok (E := E) d zFU _ _ _ _ _)
/-! 117: EngraversHouse.hangs:(I)I -/
noncomputable def fH_hangs (a0 : Nat) (a1 : Int) (s : zHp) : Option (Int × zHp) :=
  yck 10 a0 s <| ybd (fH_editionAt a0 a1 s) fun p1 s2 =>
  if p1 = 0 then
    (some ((-5), s2))
  else
    (ygr 2 2 p1 s2 fun p3 =>
    yck 10 a0 s2 <| ybd (fH_growTree a0 p3 s2) fun _ s4 =>
    ygi 2 10 p1 s4 fun v5 =>
    some (v5, s4))
theorem fH_hangs_ok {E : Nat → Nat} (d : Nat) (a0 : Nat) (a1 : Int) (s : zHp) : zE zI Ji E (d + 7) 117 (zB 117 0) (zent 3 [.inr (.inr a0), .inl a1]) [] s (fH_hangs a0 a1 s) := by
  show zE _ _ _ _ _ _ [some (.inr (.inr a0)), some (.inl a1), none] _ _ _
  unfold fH_hangs
  refine zq_6_0 ?_
  refine zq_4_1 ?_
  refine zE_g fun hg => ?_
  refine zq_92_2r hg rfl rfl (fH_editionAt_ok (E := E) _ _ _ _) fun p1 s2 => ?_
  refine zq_9_2 rfl ?_
  refine zq_6_2 ?_
  refine zq_55 ?_ ?_
  · refine zq_1 ?_
    exact zq_95 rfl
  · refine zq_6_0 ?_
    refine zq_6_2 ?_
    refine zh_61 ?_
    refine zE_g fun hg => ?_
    refine zq_92_2v hg rfl rfl (fH_growTree_ok (E := E) _ _ _ _) fun _ s4 => ?_
    refine zq_6_2 ?_
    refine zh_60 ?_
    exact zq_95 rfl
/-! 118: EngraversHouse$Bar.restsFirst:()Z -/
noncomputable def fBar_restsFirst (a0 : Nat) (s : zHp) : Option (Int × zHp) :=
  yck 0 a0 s <| ybd (fBar_hasNote a0 0 s) fun v1 s2 =>
  if v1 = 0 then
    (some (0, s2))
  else
  ygr 0 0 a0 s2 fun p3 =>
  yai p3 0 s2 fun v4 =>
  ybd (fH_isRest v4 s2) fun v5 s6 =>
  if v5 = 0 then
    (some (0, s6))
  else
  some (1, s6)
theorem fBar_restsFirst_ok {E : Nat → Nat} (d : Nat) (a0 : Nat) (s : zHp) : zE zI Ji E (d + 1) 118 (zB 118 0) (zent 1 [.inr (.inr a0)]) [] s (fBar_restsFirst a0 s) := by
  show zE _ _ _ _ _ _ [some (.inr (.inr a0))] _ _ _
  unfold fBar_restsFirst
  refine zq_6_0 ?_
  refine zq_1 ?_
  refine zE_g fun hg => ?_
  refine zq_92_2i hg rfl rfl (fBar_hasNote_ok (E := E) _ _ _ _) fun v1 s2 => ?_
  refine zq_40 ?_ ?_
  · refine zq_1 ?_
    refine zq_57 ?_
    exact zq_96c (by decide)
  refine zq_6_0 ?_
  refine zh_61 ?_
  refine zq_1 ?_
  refine zh_65 ?_
  refine zq_90_1i rfl rfl (fH_isRest_ok (E := E) _ _ _) fun v5 s6 => ?_
  refine zq_40 ?_ ?_
  · refine zq_1 ?_
    refine zq_57 ?_
    exact zq_96c (by decide)
  refine zq_1 ?_
  refine zq_56 ?_
  exact zq_96c (by decide)
/-! 119: EngraversHouse$Bar.restsLast:()Z -/
noncomputable def fBar_restsLast (a0 : Nat) (s : zHp) : Option (Int × zHp) :=
  ygi 0 1 a0 s fun v1 =>
  yck 0 a0 s <| ybd (fBar_hasNote a0 (zsub v1 1) s) fun v2 s3 =>
  if v2 = 0 then
    (some (0, s3))
  else
  ygr 0 0 a0 s3 fun p4 =>
  ygi 0 1 a0 s3 fun v5 =>
  yai p4 (zsub v5 1) s3 fun v6 =>
  ybd (fH_isRest v6 s3) fun v7 s8 =>
  if v7 = 0 then
    (some (0, s8))
  else
  some (1, s8)
theorem fBar_restsLast_ok {E : Nat → Nat} (d : Nat) (a0 : Nat) (s : zHp) : zE zI Ji E (d + 1) 119 (zB 119 0) (zent 1 [.inr (.inr a0)]) [] s (fBar_restsLast a0 s) := by
  show zE _ _ _ _ _ _ [some (.inr (.inr a0))] _ _ _
  unfold fBar_restsLast
  refine zq_6_0 ?_
  refine zq_6_0 ?_
  refine zh_60 ?_
  refine zq_1 ?_
  refine zq_12 ?_
  refine zE_g fun hg => ?_
  refine zq_92_2i hg rfl rfl (fBar_hasNote_ok (E := E) _ _ _ _) fun v2 s3 => ?_
  refine zq_40 ?_ ?_
  · refine zq_1 ?_
    refine zq_57 ?_
    exact zq_96c (by decide)
  refine zq_6_0 ?_
  refine zh_61 ?_
  refine zq_6_0 ?_
  refine zh_60 ?_
  refine zq_1 ?_
  refine zq_12 ?_
  refine zh_65 ?_
  refine zq_90_1i rfl rfl (fH_isRest_ok (E := E) _ _ _) fun v7 s8 => ?_
  refine zq_40 ?_ ?_
  · refine zq_1 ?_
    refine zq_57 ?_
    exact zq_96c (by decide)
  refine zq_1 ?_
  refine zq_56 ?_
  exact zq_96c (by decide)
/-! 120: EngraversHouse$Layout.measure:(LEngraversHouse$Part;)V -/
noncomputable def fLayout_measure_l1 : Nat → Nat → Nat → Int → zHp → Option (Unit × zHp)
  | 0, _, _, _, _ => none
  | n + 1, x4, x5, x6, s7 =>
   yjn (fun (x8 : Nat) (x9 : Nat) (x10 : Int) (x11 : Nat) (x12 : Nat) (x13 : Int) (x14 : Int) (x15 : Int) (x16 : Int) (s17 : zHp) =>
    yjn (fun (x19 : Nat) (x20 : Nat) (x21 : Int) (x22 : Nat) (x23 : Nat) (x24 : Int) (x25 : Int) (s26 : zHp) =>
     yjn (fun (x28 : Nat) (x29 : Nat) (x30 : Int) (x31 : Nat) (x32 : Int) (x33 : Int) (s34 : zHp) =>
      ysz x31 x32 x33 s34 fun s36 =>
      yvl (zadd x30 1) fun v37 =>
      fLayout_measure_l1 n x28 x29 v37 s36) fun q35 =>
      yjn (fun (x38 : Nat) (x39 : Nat) (x40 : Int) (x41 : Nat) (x42 : Int) (s43 : zHp) =>
      q35 x38 x39 x40 x41 x42 0 s43) fun q44 =>
      ysz x23 x24 x25 s26 fun s45 =>
     ygr 4 3 x19 s45 fun p46 =>
     if x22 = 0 then
       (q44 x19 x20 x21 p46 x21 s45)
     else
     yck 0 x22 s45 <| ybd (fBar_restsLast x22 s45) fun v47 s48 =>
     if v47 = 0 then
       (q44 x19 x20 x21 p46 x21 s48)
     else
     q35 x19 x20 x21 p46 x21 1 s48) fun q27 =>
     yjn (fun (x49 : Nat) (x50 : Nat) (x51 : Int) (x52 : Nat) (x53 : Nat) (x54 : Int) (s55 : zHp) =>
     q27 x49 x50 x51 x52 x53 x54 0 s55) fun q56 =>
     ysi x12 x13 (zadd x14 (zmul x15 x16)) s17 fun s57 =>
    ygr 4 2 x8 s57 fun p58 =>
    if x11 = 0 then
      (q56 x8 x9 x10 x11 p58 x10 s57)
    else
    yck 0 x11 s57 <| ybd (fBar_restsFirst x11 s57) fun v59 s60 =>
    if v59 = 0 then
      (q56 x8 x9 x10 x11 p58 x10 s60)
    else
    q27 x8 x9 x10 x11 p58 x10 1 s60) fun q18 =>
    ygi 4 0 x4 s7 fun v61 =>
   if x6 < v61 then
     (yck 5 x5 s7 <| ybd (fPart_barAsRead x5 x6 s7) fun p62 s63 =>
     ygr 4 1 x4 s63 fun p64 =>
     if p62 = 0 then
       (q18 x4 x5 x6 p62 p64 x6 2 3 0 s63)
     else
       (ygi 0 1 p62 s63 fun v65 =>
       q18 x4 x5 x6 p62 p64 x6 2 3 v65 s63))
   else
     (some ((), s7))
theorem fLayout_measure_l1_ok {E : Nat → Nat} (d : Nat) : ∀ (n : Nat) (x4 : Nat) (x5 : Nat) (x6 : Int) (s7 : zHp), zE zI Jv E (d + 5) 120 (zB 120 1) ([some (.inr (.inr x4)), some (.inr (.inr x5)), some (.inl x6), none]) ([]) s7 (fLayout_measure_l1 n x4 x5 x6 s7) := by
  intro n
  induction n with
  | zero => intro x4 x5 x6 s7; exact zE_none
  | succ n ih =>
    intro x4 x5 x6 s7
    unfold fLayout_measure_l1
    refine zE_jn (fun q18 => ∀ (y0 : Nat) (y1 : Nat) (y2 : Int) (y3 : Nat) (y4 : Nat) (y5 : Int) (y6 : Int) (y7 : Int) (y8 : Int) (s : zHp), zE zI Jv E (d + 5) 120 (zB 120 3) ([some (.inr (.inr y0)), some (.inr (.inr y1)), some (.inl y2), some (.inr (.inr y3))]) ([.inl y8, .inl y7, .inl y6, .inl y5, .inr (.inr y4)]) s (q18 y0 y1 y2 y3 y4 y5 y6 y7 y8 s)) (fun x8 x9 x10 x11 x12 x13 x14 x15 x16 s17 => ?_) (fun q18 hq18 => ?_)
    · refine zE_jn (fun q27 => ∀ (y0 : Nat) (y1 : Nat) (y2 : Int) (y3 : Nat) (y4 : Nat) (y5 : Int) (y6 : Int) (s : zHp), zE zI Jv E (d + 5) 120 (zB 120 5) ([some (.inr (.inr y0)), some (.inr (.inr y1)), some (.inl y2), some (.inr (.inr y3))]) ([.inl y6, .inl y5, .inr (.inr y4)]) s (q27 y0 y1 y2 y3 y4 y5 y6 s)) (fun x19 x20 x21 x22 x23 x24 x25 s26 => ?_) (fun q27 hq27 => ?_)
      · refine zE_jn (fun q35 => ∀ (y0 : Nat) (y1 : Nat) (y2 : Int) (y3 : Nat) (y4 : Int) (y5 : Int) (s : zHp), zE zI Jv E (d + 5) 120 (zB 120 7) ([some (.inr (.inr y0)), some (.inr (.inr y1)), some (.inl y2), none]) ([.inl y5, .inl y4, .inr (.inr y3)]) s (q35 y0 y1 y2 y3 y4 y5 s)) (fun x28 x29 x30 x31 x32 x33 s34 => ?_) (fun q35 hq35 => ?_)
        · refine zh_69 ?_
          refine zE_vl ?_
          refine zq_10_2 rfl ?_
          refine zq_56 ?_
          exact zE_w [true, true, true, false] (ih _ _ _ _)
        refine zE_jn (fun q44 => ∀ (y0 : Nat) (y1 : Nat) (y2 : Int) (y3 : Nat) (y4 : Int) (s : zHp), zE zI Jv E (d + 5) 120 (zB 120 6) ([some (.inr (.inr y0)), some (.inr (.inr y1)), some (.inl y2), none]) ([.inl y4, .inr (.inr y3)]) s (q44 y0 y1 y2 y3 y4 s)) (fun x38 x39 x40 x41 x42 s43 => ?_) (fun q44 hq44 => ?_)
        · refine zq_1 ?_
          refine zq_57 ?_
          exact zE_w [true, true, true, false] (hq35 _ _ _ _ _ _ _)
        refine zh_69 ?_
        refine zq_6_0 ?_
        refine zh_61 ?_
        refine zq_4_2 ?_
        refine zq_6_3 ?_
        refine zq_54 ?_ ?_
        · exact zE_w [true, true, true, false] (hq44 _ _ _ _ _ _)
        refine zq_6_3 ?_
        refine zE_g fun hg => ?_
        refine zq_92_1i hg rfl rfl (fBar_restsLast_ok (E := E) _ _ _) fun v47 s48 => ?_
        refine zq_40 ?_ ?_
        · exact zE_w [true, true, true, false] (hq44 _ _ _ _ _ _)
        refine zq_1 ?_
        refine zq_56 ?_
        exact zE_w [true, true, true, false] (hq35 _ _ _ _ _ _ _)
      refine zE_jn (fun q56 => ∀ (y0 : Nat) (y1 : Nat) (y2 : Int) (y3 : Nat) (y4 : Nat) (y5 : Int) (s : zHp), zE zI Jv E (d + 5) 120 (zB 120 4) ([some (.inr (.inr y0)), some (.inr (.inr y1)), some (.inl y2), some (.inr (.inr y3))]) ([.inl y5, .inr (.inr y4)]) s (q56 y0 y1 y2 y3 y4 y5 s)) (fun x49 x50 x51 x52 x53 x54 s55 => ?_) (fun q56 hq56 => ?_)
      · refine zq_1 ?_
        refine zq_57 ?_
        exact zE_w [true, true, true, true] (hq27 _ _ _ _ _ _ _ _)
      refine zq_13 ?_
      refine zq_11 ?_
      refine zh_68 ?_
      refine zq_6_0 ?_
      refine zh_61 ?_
      refine zq_4_2 ?_
      refine zq_6_3 ?_
      refine zq_54 ?_ ?_
      · exact zE_w [true, true, true, true] (hq56 _ _ _ _ _ _ _)
      refine zq_6_3 ?_
      refine zE_g fun hg => ?_
      refine zq_92_1i hg rfl rfl (fBar_restsFirst_ok (E := E) _ _ _) fun v59 s60 => ?_
      refine zq_40 ?_ ?_
      · exact zE_w [true, true, true, true] (hq56 _ _ _ _ _ _ _)
      refine zq_1 ?_
      refine zq_56 ?_
      exact zE_w [true, true, true, true] (hq27 _ _ _ _ _ _ _ _)
    refine zq_4_2 ?_
    refine zq_6_0 ?_
    refine zh_60 ?_
    refine zq_49 ?_ ?_
    · refine zq_6_1 ?_
      refine zq_4_2 ?_
      refine zE_g fun hg => ?_
      refine zq_92_2r hg rfl rfl (fPart_barAsRead_ok (E := E) _ _ _ _) fun p62 s63 => ?_
      refine zq_9_3 rfl ?_
      refine zq_6_0 ?_
      refine zh_61 ?_
      refine zq_4_2 ?_
      refine zq_1 ?_
      refine zq_1 ?_
      refine zq_6_3 ?_
      refine zq_55 ?_ ?_
      · refine zq_1 ?_
        refine zq_56 ?_
        exact zE_w [true, true, true, true] (hq18 _ _ _ _ _ _ _ _ _ _)
      · refine zq_6_3 ?_
        refine zh_60 ?_
        refine zq_57 ?_
        exact zE_w [true, true, true, true] (hq18 _ _ _ _ _ _ _ _ _ _)
    · exact zq_101
noncomputable def fLayout_measure (a0 : Nat) (a1 : Nat) (s : zHp) : Option (Unit × zHp) :=
  yck 5 a1 s <| ybd (fPart_barCount a1 s) fun v1 s2 =>
  ypi 4 0 a0 (zmin v1 20) s2 fun s3 =>
  fLayout_measure_l1 zFU a0 a1 0 s3
theorem fLayout_measure_ok {E : Nat → Nat} (d : Nat) (a0 : Nat) (a1 : Nat) (s : zHp) : zE zI Jv E (d + 5) 120 (zB 120 0) (zent 4 [.inr (.inr a0), .inr (.inr a1)]) [] s (fLayout_measure a0 a1 s) := by
  show zE _ _ _ _ _ _ [some (.inr (.inr a0)), some (.inr (.inr a1)), none, none] _ _ _
  unfold fLayout_measure
  refine zq_6_0 ?_
  refine zq_6_1 ?_
  refine zE_g fun hg => ?_
  refine zq_92_1i hg rfl rfl (fPart_barCount_ok (E := E) _ _ _) fun v1 s2 => ?_
  refine zq_1 ?_
  refine zq_37 rfl ?_
  refine zh_62 ?_
  refine zq_1 ?_
  refine zq_7_2 rfl ?_
  refine zq_57 ?_
  exact zE_w [true, true, true, false] (fLayout_measure_l1_ok (E := E) d zFU _ _ _ _)
/-! 121: EngraversHouse$Layout.fits:(I)Z -/
noncomputable def fLayout_fits_l3 : Nat → Nat → Int → Int → Int → zHp → Option (Int × zHp)
  | 0, _, _, _, _, _ => none
  | n + 1, x6, x7, x8, x9, s10 =>
   yjn (fun (x11 : Nat) (x12 : Int) (x13 : Int) (x14 : Int) (s15 : zHp) =>
    yvl (zadd x13 1) fun v17 =>
    fLayout_fits_l3 n x11 x12 x14 v17 s15) fun q16 =>
    yjn (fun (x18 : Nat) (x19 : Int) (x20 : Int) (s21 : zHp) =>
    q16 x18 x19 x20 0 s21) fun q22 =>
    ygi 4 0 x6 s10 fun v23 =>
   if x9 < v23 then
     (if x8 = 0 then
       (q22 x6 x7 x9 s10)
     else
     ygr 4 1 x6 s10 fun p24 =>
     yai p24 x9 s10 fun v25 =>
     if x7 < v25 then
       (q22 x6 x7 x9 s10)
     else
     q16 x6 x7 x9 1 s10)
   else
     (yrb x8 s10)
theorem fLayout_fits_l3_ok {E : Nat → Nat} (d : Nat) : ∀ (n : Nat) (x6 : Nat) (x7 : Int) (x8 : Int) (x9 : Int) (s10 : zHp), zE zI Ji E (d + 0) 121 (zB 121 3) ([some (.inr (.inr x6)), some (.inl x7), some (.inl x8), some (.inl x9)]) ([]) s10 (fLayout_fits_l3 n x6 x7 x8 x9 s10) := by
  intro n
  induction n with
  | zero => intro x6 x7 x8 x9 s10; exact zE_none
  | succ n ih =>
    intro x6 x7 x8 x9 s10
    unfold fLayout_fits_l3
    refine zE_jn (fun q16 => ∀ (y0 : Nat) (y1 : Int) (y2 : Int) (y3 : Int) (s : zHp), zE zI Ji E (d + 0) 121 (zB 121 5) ([some (.inr (.inr y0)), some (.inl y1), none, some (.inl y2)]) ([.inl y3]) s (q16 y0 y1 y2 y3 s)) (fun x11 x12 x13 x14 s15 => ?_) (fun q16 hq16 => ?_)
    · refine zq_7_2 rfl ?_
      refine zE_vl ?_
      refine zq_10_3 rfl ?_
      refine zq_56 ?_
      exact zE_w [true, true, true, true] (ih _ _ _ _ _)
    refine zE_jn (fun q22 => ∀ (y0 : Nat) (y1 : Int) (y2 : Int) (s : zHp), zE zI Ji E (d + 0) 121 (zB 121 4) ([some (.inr (.inr y0)), some (.inl y1), none, some (.inl y2)]) ([]) s (q22 y0 y1 y2 s)) (fun x18 x19 x20 s21 => ?_) (fun q22 hq22 => ?_)
    · refine zq_1 ?_
      refine zq_57 ?_
      exact zE_w [true, true, false, true] (hq16 _ _ _ _ _)
    refine zq_4_3 ?_
    refine zq_6_0 ?_
    refine zh_60 ?_
    refine zq_49 ?_ ?_
    · refine zq_4_2 ?_
      refine zq_40 ?_ ?_
      · exact zE_w [true, true, false, true] (hq22 _ _ _ _)
      refine zq_6_0 ?_
      refine zh_61 ?_
      refine zq_4_3 ?_
      refine zh_65 ?_
      refine zq_4_1 ?_
      refine zq_50 ?_ ?_
      · exact zE_w [true, true, false, true] (hq22 _ _ _ _)
      refine zq_1 ?_
      refine zq_56 ?_
      exact zE_w [true, true, false, true] (hq16 _ _ _ _ _)
    · refine zq_4_2 ?_
      exact zq_96
noncomputable def fLayout_fits (a0 : Nat) (a1 : Int) (s : zHp) : Option (Int × zHp) :=
  yjn (fun (x1 : Nat) (x2 : Int) (x3 : Int) (s4 : zHp) =>
   fLayout_fits_l3 zFU x1 x2 x3 0 s4) fun q5 =>
   ygi 4 0 a0 s fun v26 =>
  if 0 < v26 then
    (q5 a0 a1 1 s)
  else
    (q5 a0 a1 0 s)
theorem fLayout_fits_ok {E : Nat → Nat} (d : Nat) (a0 : Nat) (a1 : Int) (s : zHp) : zE zI Ji E (d + 0) 121 (zB 121 0) (zent 4 [.inr (.inr a0), .inl a1]) [] s (fLayout_fits a0 a1 s) := by
  show zE _ _ _ _ _ _ [some (.inr (.inr a0)), some (.inl a1), none, none] _ _ _
  unfold fLayout_fits
  refine zE_jn (fun q5 => ∀ (y0 : Nat) (y1 : Int) (y2 : Int) (s : zHp), zE zI Ji E (d + 0) 121 (zB 121 2) ([some (.inr (.inr y0)), some (.inl y1), none, none]) ([.inl y2]) s (q5 y0 y1 y2 s)) (fun x1 x2 x3 s4 => ?_) (fun q5 hq5 => ?_)
  · refine zq_7_2 rfl ?_
    refine zq_1 ?_
    refine zq_7_3 rfl ?_
    refine zq_57 ?_
    exact zE_w [true, true, true, true] (fLayout_fits_l3_ok (E := E) d zFU _ _ _ _ _)
  refine zq_6_0 ?_
  refine zh_60 ?_
  refine zq_45 ?_ ?_
  · refine zq_1 ?_
    refine zq_56 ?_
    exact zE_w [true, true, false, false] (hq5 _ _ _ _)
  · refine zq_1 ?_
    refine zq_57 ?_
    exact zE_w [true, true, false, false] (hq5 _ _ _ _)
/-! 122: EngraversHouse$Layout.placeBehind:(II)I -/
noncomputable def fLayout_placeBehind (a0 : Int) (a1 : Int) (s : zHp) : Option (Int × zHp) :=
  if (zadd a0 1) < a1 then
    (some (zadd a0 1, s))
  else
  some (0, s)
theorem fLayout_placeBehind_ok {E : Nat → Nat} (d : Nat) (a0 : Int) (a1 : Int) (s : zHp) : zE zI Ji E (d + 0) 122 (zB 122 0) (zent 2 [.inl a0, .inl a1]) [] s (fLayout_placeBehind a0 a1 s) := by
  show zE _ _ _ _ _ _ [some (.inl a0), some (.inl a1)] _ _ _
  unfold fLayout_placeBehind
  refine zq_4_0 ?_
  refine zq_1 ?_
  refine zq_11 ?_
  refine zq_4_1 ?_
  refine zq_48 ?_ ?_
  · refine zq_4_0 ?_
    refine zq_1 ?_
    refine zq_11 ?_
    refine zq_57 ?_
    exact zq_95 rfl
  refine zq_1 ?_
  refine zq_56 ?_
  exact zq_95 rfl
/-! 123: EngraversHouse$Layout.fillLine:(IIII)V -/
noncomputable def fLayout_fillLine_l1 : Nat → Nat → Int → Int → Int → Int → Int → Int → Int → zHp → Option (Unit × zHp)
  | 0, _, _, _, _, _, _, _, _, _ => none
  | n + 1, x5, x6, x7, x8, x9, x10, x11, x12, s13 =>
   yjn (fun (x14 : Nat) (x15 : Int) (x16 : Int) (x17 : Int) (x18 : Int) (x19 : Int) (x20 : Int) (x21 : Int) (x22 : Int) (s23 : zHp) =>
    yjn (fun (x25 : Nat) (x26 : Int) (x27 : Int) (x28 : Int) (x29 : Int) (x30 : Int) (x31 : Int) (x32 : Int) (s33 : zHp) =>
     yvl (zadd x32 1) fun v35 =>
     fLayout_fillLine_l1 n x25 x26 x27 x28 x29 x30 x31 v35 s33) fun q34 =>
     yjn (fun (x36 : Nat) (x37 : Int) (x38 : Int) (x39 : Int) (x40 : Int) (x41 : Int) (x42 : Int) (x43 : Int) (x44 : Int) (s45 : zHp) =>
     ygr 4 4 x36 s45 fun p47 =>
     ysi p47 x41 x44 s45 fun s48 =>
     ygr 4 5 x36 s48 fun p49 =>
     ysi p49 x41 (zsub x43 x37) s48 fun s50 =>
     q34 x36 x37 x38 x39 x40 x41 x42 x43 s50) fun q46 =>
     ygr 4 5 x14 s23 fun p51 =>
    yai p51 x19 s23 fun v52 =>
    if v52 = 0 then
      (q46 x14 x15 x16 x17 x18 x19 x20 x21 x22 s23)
    else
    ygr 4 4 x14 s23 fun p53 =>
    yai p53 x19 s23 fun v54 =>
    if v54 < x22 then
      (q34 x14 x15 x16 x17 x18 x19 x20 x21 s23)
    else
    q46 x14 x15 x16 x17 x18 x19 x20 x21 x22 s23) fun q24 =>
    yjn (fun (x55 : Nat) (x56 : Int) (x57 : Int) (x58 : Int) (x59 : Int) (x60 : Int) (x61 : Int) (x62 : Int) (x63 : Int) (s64 : zHp) =>
    ygr 4 4 x55 s64 fun p66 =>
    ybd (fLayout_placeBehind x57 x59 s64) fun v67 s68 =>
    yai p66 (zadd (zmul x62 4) v67) s68 fun v69 =>
    yvl (zadd (zadd (zmul (zsub x58 x61) (zsub x58 x61)) x63) v69) fun v70 =>
    q24 x55 x56 x57 x58 x59 x60 x61 x62 v70 s68) fun q65 =>
    yjn (fun (x71 : Nat) (x72 : Int) (x73 : Int) (x74 : Int) (x75 : Int) (x76 : Int) (x77 : Int) (x78 : Int) (s79 : zHp) =>
    q65 x71 x72 x73 x74 x75 x76 x77 x78 0 s79) fun q80 =>
    ygi 4 0 x5 s13 fun v81 =>
   if v81 < x12 then
     (some ((), s13))
   else
   ygr 4 1 x5 s13 fun p82 =>
   yai p82 (zsub x12 1) s13 fun v83 =>
   if x8 < (zadd x11 v83) then
     (some ((), s13))
   else
   ygr 4 1 x5 s13 fun p84 =>
   yai p84 (zsub x12 1) s13 fun v85 =>
   yvl (zadd x11 v85) fun v86 =>
   ygi 4 0 x5 s13 fun v87 =>
   if x12 < v87 then
     (if (zadd x7 1) = x9 then
       (ygr 4 3 x5 s13 fun p88 =>
       yab p88 (zsub x12 1) s13 fun v89 =>
       if v89 = 0 then
         (ygr 4 2 x5 s13 fun p90 =>
         yab p90 x12 s13 fun v91 =>
         if v91 = 0 then
           (q65 x5 x6 x7 x8 x9 x10 v86 x12 1000 s13)
         else
           (q80 x5 x6 x7 x8 x9 x10 v86 x12 s13))
       else
         (q80 x5 x6 x7 x8 x9 x10 v86 x12 s13))
     else
       (q80 x5 x6 x7 x8 x9 x10 v86 x12 s13))
   else
     (q24 x5 x6 x7 x8 x9 x10 v86 x12 0 s13)
theorem fLayout_fillLine_l1_ok {E : Nat → Nat} (d : Nat) : ∀ (n : Nat) (x5 : Nat) (x6 : Int) (x7 : Int) (x8 : Int) (x9 : Int) (x10 : Int) (x11 : Int) (x12 : Int) (s13 : zHp), zE zI Jv E (d + 1) 123 (zB 123 1) ([some (.inr (.inr x5)), some (.inl x6), some (.inl x7), some (.inl x8), some (.inl x9), some (.inl x10), some (.inl x11), some (.inl x12), none, none]) ([]) s13 (fLayout_fillLine_l1 n x5 x6 x7 x8 x9 x10 x11 x12 s13) := by
  intro n
  induction n with
  | zero => intro x5 x6 x7 x8 x9 x10 x11 x12 s13; exact zE_none
  | succ n ih =>
    intro x5 x6 x7 x8 x9 x10 x11 x12 s13
    unfold fLayout_fillLine_l1
    refine zE_jn (fun q24 => ∀ (y0 : Nat) (y1 : Int) (y2 : Int) (y3 : Int) (y4 : Int) (y5 : Int) (y6 : Int) (y7 : Int) (y8 : Int) (s : zHp), zE zI Jv E (d + 1) 123 (zB 123 4) ([some (.inr (.inr y0)), some (.inl y1), some (.inl y2), some (.inl y3), some (.inl y4), some (.inl y5), some (.inl y6), some (.inl y7), some (.inl y8), none]) ([]) s (q24 y0 y1 y2 y3 y4 y5 y6 y7 y8 s)) (fun x14 x15 x16 x17 x18 x19 x20 x21 x22 s23 => ?_) (fun q24 hq24 => ?_)
    · refine zE_jn (fun q34 => ∀ (y0 : Nat) (y1 : Int) (y2 : Int) (y3 : Int) (y4 : Int) (y5 : Int) (y6 : Int) (y7 : Int) (s : zHp), zE zI Jv E (d + 1) 123 (zB 123 6) ([some (.inr (.inr y0)), some (.inl y1), some (.inl y2), some (.inl y3), some (.inl y4), some (.inl y5), some (.inl y6), some (.inl y7), none, none]) ([]) s (q34 y0 y1 y2 y3 y4 y5 y6 y7 s)) (fun x25 x26 x27 x28 x29 x30 x31 x32 s33 => ?_) (fun q34 hq34 => ?_)
      · refine zE_vl ?_
        refine zq_10_7 rfl ?_
        refine zq_56 ?_
        exact zE_w [true, true, true, true, true, true, true, true, false, false] (ih _ _ _ _ _ _ _ _ _)
      refine zE_jn (fun q46 => ∀ (y0 : Nat) (y1 : Int) (y2 : Int) (y3 : Int) (y4 : Int) (y5 : Int) (y6 : Int) (y7 : Int) (y8 : Int) (s : zHp), zE zI Jv E (d + 1) 123 (zB 123 5) ([some (.inr (.inr y0)), some (.inl y1), some (.inl y2), some (.inl y3), some (.inl y4), some (.inl y5), some (.inl y6), some (.inl y7), some (.inl y8), none]) ([]) s (q46 y0 y1 y2 y3 y4 y5 y6 y7 y8 s)) (fun x36 x37 x38 x39 x40 x41 x42 x43 x44 s45 => ?_) (fun q46 hq46 => ?_)
      · refine zq_6_0 ?_
        refine zh_61 ?_
        refine zq_4_5 ?_
        refine zq_4_8 ?_
        refine zh_68 ?_
        refine zq_6_0 ?_
        refine zh_61 ?_
        refine zq_4_5 ?_
        refine zq_4_7 ?_
        refine zq_4_1 ?_
        refine zq_12 ?_
        refine zh_68 ?_
        refine zq_57 ?_
        exact zE_w [true, true, true, true, true, true, true, true, false, false] (hq34 _ _ _ _ _ _ _ _ _)
      refine zq_6_0 ?_
      refine zh_61 ?_
      refine zq_4_5 ?_
      refine zh_65 ?_
      refine zq_40 ?_ ?_
      · exact zE_w [true, true, true, true, true, true, true, true, true, false] (hq46 _ _ _ _ _ _ _ _ _ _)
      refine zq_4_8 ?_
      refine zq_6_0 ?_
      refine zh_61 ?_
      refine zq_4_5 ?_
      refine zh_65 ?_
      refine zq_50 ?_ ?_
      · exact zE_w [true, true, true, true, true, true, true, true, false, false] (hq34 _ _ _ _ _ _ _ _ _)
      refine zq_57 ?_
      exact zE_w [true, true, true, true, true, true, true, true, true, false] (hq46 _ _ _ _ _ _ _ _ _ _)
    refine zE_jn (fun q65 => ∀ (y0 : Nat) (y1 : Int) (y2 : Int) (y3 : Int) (y4 : Int) (y5 : Int) (y6 : Int) (y7 : Int) (y8 : Int) (s : zHp), zE zI Jv E (d + 1) 123 (zB 123 3) ([some (.inr (.inr y0)), some (.inl y1), some (.inl y2), some (.inl y3), some (.inl y4), some (.inl y5), some (.inl y6), some (.inl y7), none, none]) ([.inl y8]) s (q65 y0 y1 y2 y3 y4 y5 y6 y7 y8 s)) (fun x55 x56 x57 x58 x59 x60 x61 x62 x63 s64 => ?_) (fun q65 hq65 => ?_)
    · refine zq_7_9 rfl ?_
      refine zq_4_3 ?_
      refine zq_4_6 ?_
      refine zq_12 ?_
      refine zq_4_3 ?_
      refine zq_4_6 ?_
      refine zq_12 ?_
      refine zq_13 ?_
      refine zq_4_9 ?_
      refine zq_11 ?_
      refine zq_6_0 ?_
      refine zh_61 ?_
      refine zq_4_7 ?_
      refine zq_1 ?_
      refine zq_13 ?_
      refine zq_4_2 ?_
      refine zq_4_4 ?_
      refine zq_90_2i rfl rfl (fLayout_placeBehind_ok (E := E) _ _ _ _) fun v67 s68 => ?_
      refine zq_11 ?_
      refine zh_65 ?_
      refine zq_11 ?_
      refine zE_vl ?_
      refine zq_7_8 rfl ?_
      refine zq_57 ?_
      exact zE_w [true, true, true, true, true, true, true, true, true, false] (hq24 _ _ _ _ _ _ _ _ _ _)
    refine zE_jn (fun q80 => ∀ (y0 : Nat) (y1 : Int) (y2 : Int) (y3 : Int) (y4 : Int) (y5 : Int) (y6 : Int) (y7 : Int) (s : zHp), zE zI Jv E (d + 1) 123 (zB 123 2) ([some (.inr (.inr y0)), some (.inl y1), some (.inl y2), some (.inl y3), some (.inl y4), some (.inl y5), some (.inl y6), some (.inl y7), none, none]) ([]) s (q80 y0 y1 y2 y3 y4 y5 y6 y7 s)) (fun x71 x72 x73 x74 x75 x76 x77 x78 s79 => ?_) (fun q80 hq80 => ?_)
    · refine zq_1 ?_
      refine zq_57 ?_
      exact zE_w [true, true, true, true, true, true, true, true, false, false] (hq65 _ _ _ _ _ _ _ _ _ _)
    refine zq_4_7 ?_
    refine zq_6_0 ?_
    refine zh_60 ?_
    refine zq_50 ?_ ?_
    · exact zq_101
    refine zq_4_6 ?_
    refine zq_6_0 ?_
    refine zh_61 ?_
    refine zq_4_7 ?_
    refine zq_1 ?_
    refine zq_12 ?_
    refine zh_65 ?_
    refine zq_11 ?_
    refine zq_4_3 ?_
    refine zq_50 ?_ ?_
    · exact zq_101
    refine zq_4_6 ?_
    refine zq_6_0 ?_
    refine zh_61 ?_
    refine zq_4_7 ?_
    refine zq_1 ?_
    refine zq_12 ?_
    refine zh_65 ?_
    refine zq_11 ?_
    refine zE_vl ?_
    refine zq_7_6 rfl ?_
    refine zq_1 ?_
    refine zq_7_8 rfl ?_
    refine zq_4_7 ?_
    refine zq_6_0 ?_
    refine zh_60 ?_
    refine zq_49 ?_ ?_
    · refine zq_4_2 ?_
      refine zq_1 ?_
      refine zq_11 ?_
      refine zq_4_4 ?_
      refine zq_47 ?_ ?_
      · refine zq_6_0 ?_
        refine zh_61 ?_
        refine zq_4_7 ?_
        refine zq_1 ?_
        refine zq_12 ?_
        refine zh_66 ?_
        refine zq_41 ?_ ?_
        · refine zq_6_0 ?_
          refine zh_61 ?_
          refine zq_4_7 ?_
          refine zh_66 ?_
          refine zq_41 ?_ ?_
          · refine zq_1 ?_
            refine zq_56 ?_
            exact zE_w [true, true, true, true, true, true, true, true, false, false] (hq65 _ _ _ _ _ _ _ _ _ _)
          · exact zE_w [true, true, true, true, true, true, true, true, false, false] (hq80 _ _ _ _ _ _ _ _ _)
        · exact zE_w [true, true, true, true, true, true, true, true, false, false] (hq80 _ _ _ _ _ _ _ _ _)
      · exact zE_w [true, true, true, true, true, true, true, true, false, false] (hq80 _ _ _ _ _ _ _ _ _)
    · exact zE_w [true, true, true, true, true, true, true, true, true, false] (hq24 _ _ _ _ _ _ _ _ _ _)
noncomputable def fLayout_fillLine (a0 : Nat) (a1 : Int) (a2 : Int) (a3 : Int) (a4 : Int) (s : zHp) : Option (Unit × zHp) :=
  yvl (zadd (zmul a1 4) a2) fun v1 =>
  ygr 4 5 a0 s fun p2 =>
  ysi p2 v1 0 s fun s3 =>
  yvl (zadd a1 1) fun v4 =>
  fLayout_fillLine_l1 zFU a0 a1 a2 a3 a4 v1 0 v4 s3
theorem fLayout_fillLine_ok {E : Nat → Nat} (d : Nat) (a0 : Nat) (a1 : Int) (a2 : Int) (a3 : Int) (a4 : Int) (s : zHp) : zE zI Jv E (d + 1) 123 (zB 123 0) (zent 10 [.inr (.inr a0), .inl a1, .inl a2, .inl a3, .inl a4]) [] s (fLayout_fillLine a0 a1 a2 a3 a4 s) := by
  show zE _ _ _ _ _ _ [some (.inr (.inr a0)), some (.inl a1), some (.inl a2), some (.inl a3), some (.inl a4), none, none, none, none, none] _ _ _
  unfold fLayout_fillLine
  refine zq_4_1 ?_
  refine zq_1 ?_
  refine zq_13 ?_
  refine zq_4_2 ?_
  refine zq_11 ?_
  refine zE_vl ?_
  refine zq_7_5 rfl ?_
  refine zq_1 ?_
  refine zq_7_6 rfl ?_
  refine zq_6_0 ?_
  refine zh_61 ?_
  refine zq_4_5 ?_
  refine zq_1 ?_
  refine zh_68 ?_
  refine zq_4_1 ?_
  refine zq_1 ?_
  refine zq_11 ?_
  refine zE_vl ?_
  refine zq_7_7 rfl ?_
  refine zq_57 ?_
  exact zE_w [true, true, true, true, true, true, true, true, false, false] (fLayout_fillLine_l1_ok (E := E) d zFU _ _ _ _ _ _ _ _ _)
/-! 124: EngraversHouse$Layout.fill:(II)V -/
noncomputable def fLayout_fill_l2 : Nat → Nat → Int → Int → Int → Int → zHp → (Nat → Int → Int → Int → zHp → Option (Unit × zHp)) → Option (Unit × zHp)
  | 0, _, _, _, _, _, _, _ => none
  | n + 1, x8, x9, x10, x11, x12, s13, k14 =>
   if x12 < x10 then
     (if x12 < 4 then
       (yck 4 x8 s13 <| ybd (fLayout_fillLine x8 x11 x12 x9 x10 s13) fun _ s15 =>
       yvl (zadd x12 1) fun v16 =>
       fLayout_fill_l2 n x8 x9 x10 x11 v16 s15 k14)
     else
       (k14 x8 x9 x10 x11 s13))
   else
     (k14 x8 x9 x10 x11 s13)
theorem fLayout_fill_l2_ok {E : Nat → Nat} (d : Nat) : ∀ (n : Nat) (x8 : Nat) (x9 : Int) (x10 : Int) (x11 : Int) (x12 : Int) (s13 : zHp) (k14 : Nat → Int → Int → Int → zHp → Option (Unit × zHp)) (hk14 : ∀ (y0 : Nat) (y1 : Int) (y2 : Int) (y3 : Int) (s : zHp), zE zI Jv E (d + 2) 124 (zB 124 3) ([some (.inr (.inr y0)), some (.inl y1), some (.inl y2), some (.inl y3), none]) ([]) s (k14 y0 y1 y2 y3 s)), zE zI Jv E (d + 2) 124 (zB 124 2) ([some (.inr (.inr x8)), some (.inl x9), some (.inl x10), some (.inl x11), some (.inl x12)]) ([]) s13 (fLayout_fill_l2 n x8 x9 x10 x11 x12 s13 k14) := by
  intro n
  induction n with
  | zero => intro x8 x9 x10 x11 x12 s13 k14 hk14; exact zE_none
  | succ n ih =>
    intro x8 x9 x10 x11 x12 s13 k14 hk14
    unfold fLayout_fill_l2
    refine zq_4_4 ?_
    refine zq_4_2 ?_
    refine zq_49 ?_ ?_
    · refine zq_4_4 ?_
      refine zq_1 ?_
      refine zq_49 ?_ ?_
      · refine zq_6_0 ?_
        refine zq_4_3 ?_
        refine zq_4_4 ?_
        refine zq_4_1 ?_
        refine zq_4_2 ?_
        refine zE_g fun hg => ?_
        refine zq_92_5v hg rfl rfl (fLayout_fillLine_ok (E := E) _ _ _ _ _ _ _) fun _ s15 => ?_
        refine zE_vl ?_
        refine zq_10_4 rfl ?_
        refine zq_56 ?_
        exact zE_w [true, true, true, true, true] (ih _ _ _ _ _ _ _ hk14)
      · exact zE_w [true, true, true, true, false] (hk14 _ _ _ _ _)
    · exact zE_w [true, true, true, true, false] (hk14 _ _ _ _ _)
noncomputable def fLayout_fill_l1 : Nat → Nat → Int → Int → Int → zHp → Option (Unit × zHp)
  | 0, _, _, _, _, _ => none
  | n + 1, x3, x4, x5, x6, s7 =>
   if x6 < 0 then
     (some ((), s7))
   else
   fLayout_fill_l2 zFU x3 x4 x5 x6 0 s7 (fun (x17 : Nat) (x18 : Int) (x19 : Int) (x20 : Int) (s21 : zHp) =>
    yvl (zadd x20 (-1)) fun v22 =>
    fLayout_fill_l1 n x17 x18 x19 v22 s21)
theorem fLayout_fill_l1_ok {E : Nat → Nat} (d : Nat) : ∀ (n : Nat) (x3 : Nat) (x4 : Int) (x5 : Int) (x6 : Int) (s7 : zHp), zE zI Jv E (d + 2) 124 (zB 124 1) ([some (.inr (.inr x3)), some (.inl x4), some (.inl x5), some (.inl x6), none]) ([]) s7 (fLayout_fill_l1 n x3 x4 x5 x6 s7) := by
  intro n
  induction n with
  | zero => intro x3 x4 x5 x6 s7; exact zE_none
  | succ n ih =>
    intro x3 x4 x5 x6 s7
    unfold fLayout_fill_l1
    refine zq_4_3 ?_
    refine zq_42 ?_ ?_
    · exact zq_101
    refine zq_1 ?_
    refine zq_7_4 rfl ?_
    refine zq_57 ?_
    refine zE_w [true, true, true, true, true] (fLayout_fill_l2_ok (E := E) d zFU _ _ _ _ _ _ _ (fun x17 x18 x19 x20 s21 => ?_))
    refine zE_vl ?_
    refine zq_10_3 rfl ?_
    refine zq_56 ?_
    exact zE_w [true, true, true, true, false] (ih _ _ _ _ _)
noncomputable def fLayout_fill (a0 : Nat) (a1 : Int) (a2 : Int) (s : zHp) : Option (Unit × zHp) :=
  ygi 4 0 a0 s fun v1 =>
  yvl (zsub v1 1) fun v2 =>
  fLayout_fill_l1 zFU a0 a1 a2 v2 s
theorem fLayout_fill_ok {E : Nat → Nat} (d : Nat) (a0 : Nat) (a1 : Int) (a2 : Int) (s : zHp) : zE zI Jv E (d + 2) 124 (zB 124 0) (zent 5 [.inr (.inr a0), .inl a1, .inl a2]) [] s (fLayout_fill a0 a1 a2 s) := by
  show zE _ _ _ _ _ _ [some (.inr (.inr a0)), some (.inl a1), some (.inl a2), none, none] _ _ _
  unfold fLayout_fill
  refine zq_6_0 ?_
  refine zh_60 ?_
  refine zq_1 ?_
  refine zq_12 ?_
  refine zE_vl ?_
  refine zq_7_3 rfl ?_
  refine zq_57 ?_
  exact zE_w [true, true, true, true, false] (fLayout_fill_l1_ok (E := E) d zFU _ _ _ _ _)
/-! 125: EngraversHouse$Layout.leastCost:()I -/
noncomputable def fLayout_leastCost (a0 : Nat) (s : zHp) : Option (Int × zHp) :=
  ygr 4 4 a0 s fun p1 =>
  yai p1 0 s fun v2 =>
  some (v2, s)
theorem fLayout_leastCost_ok {E : Nat → Nat} (d : Nat) (a0 : Nat) (s : zHp) : zE zI Ji E (d + 0) 125 (zB 125 0) (zent 1 [.inr (.inr a0)]) [] s (fLayout_leastCost a0 s) := by
  show zE _ _ _ _ _ _ [some (.inr (.inr a0))] _ _ _
  unfold fLayout_leastCost
  refine zq_6_0 ?_
  refine zh_61 ?_
  refine zq_1 ?_
  refine zh_65 ?_
  exact zq_95 rfl
/-! 126: EngraversHouse$Layout.lineCount:(I)I -/
noncomputable def fLayout_lineCount_l1 : Nat → Nat → Int → Int → Int → Int → zHp → Option (Int × zHp)
  | 0, _, _, _, _, _, _ => none
  | n + 1, x1, x2, x3, x4, x5, s6 =>
   if x3 < 20 then
     (ygi 4 0 x1 s6 fun v7 =>
     if x5 < v7 then
       (ygr 4 5 x1 s6 fun p8 =>
       yai p8 (zadd (zmul x5 4) x4) s6 fun v9 =>
       yvl (zadd x5 v9) fun v10 =>
       ybd (fLayout_placeBehind x4 x2 s6) fun v11 s12 =>
       yvl (zadd x3 1) fun v13 =>
       fLayout_lineCount_l1 n x1 x2 v13 v11 v10 s12)
     else
       (some (x3, s6)))
   else
     (some (x3, s6))
theorem fLayout_lineCount_l1_ok {E : Nat → Nat} (d : Nat) : ∀ (n : Nat) (x1 : Nat) (x2 : Int) (x3 : Int) (x4 : Int) (x5 : Int) (s6 : zHp), zE zI Ji E (d + 1) 126 (zB 126 1) ([some (.inr (.inr x1)), some (.inl x2), some (.inl x3), some (.inl x4), some (.inl x5)]) ([]) s6 (fLayout_lineCount_l1 n x1 x2 x3 x4 x5 s6) := by
  intro n
  induction n with
  | zero => intro x1 x2 x3 x4 x5 s6; exact zE_none
  | succ n ih =>
    intro x1 x2 x3 x4 x5 s6
    unfold fLayout_lineCount_l1
    refine zq_4_2 ?_
    refine zq_1 ?_
    refine zq_49 ?_ ?_
    · refine zq_4_4 ?_
      refine zq_6_0 ?_
      refine zh_60 ?_
      refine zq_49 ?_ ?_
      · refine zq_4_4 ?_
        refine zq_6_0 ?_
        refine zh_61 ?_
        refine zq_4_4 ?_
        refine zq_1 ?_
        refine zq_13 ?_
        refine zq_4_3 ?_
        refine zq_11 ?_
        refine zh_65 ?_
        refine zq_11 ?_
        refine zE_vl ?_
        refine zq_7_4 rfl ?_
        refine zq_4_3 ?_
        refine zq_4_1 ?_
        refine zq_90_2i rfl rfl (fLayout_placeBehind_ok (E := E) _ _ _ _) fun v11 s12 => ?_
        refine zq_7_3 rfl ?_
        refine zE_vl ?_
        refine zq_10_2 rfl ?_
        refine zq_56 ?_
        exact zE_w [true, true, true, true, true] (ih _ _ _ _ _ _)
      · refine zq_4_2 ?_
        exact zq_95 rfl
    · refine zq_4_2 ?_
      exact zq_95 rfl
noncomputable def fLayout_lineCount (a0 : Nat) (a1 : Int) (s : zHp) : Option (Int × zHp) :=
  fLayout_lineCount_l1 zFU a0 a1 0 0 0 s
theorem fLayout_lineCount_ok {E : Nat → Nat} (d : Nat) (a0 : Nat) (a1 : Int) (s : zHp) : zE zI Ji E (d + 1) 126 (zB 126 0) (zent 5 [.inr (.inr a0), .inl a1]) [] s (fLayout_lineCount a0 a1 s) := by
  show zE _ _ _ _ _ _ [some (.inr (.inr a0)), some (.inl a1), none, none, none] _ _ _
  unfold fLayout_lineCount
  refine zq_1 ?_
  refine zq_7_2 rfl ?_
  refine zq_1 ?_
  refine zq_7_3 rfl ?_
  refine zq_1 ?_
  refine zq_7_4 rfl ?_
  refine zq_57 ?_
  exact zE_w [true, true, true, true, true] (fLayout_lineCount_l1_ok (E := E) d zFU _ _ _ _ _ _)
/-! 127: EngraversHouse$Layout.barsInLine:(II)I -/
noncomputable def fLayout_barsInLine_l1 : Nat → Nat → Int → Int → Int → Int → Int → zHp → (Nat → Int → Int → zHp → Option (Int × zHp)) → Option (Int × zHp)
  | 0, _, _, _, _, _, _, _, _ => none
  | n + 1, x1, x2, x3, x4, x5, x6, s7, k8 =>
   if x6 < x2 then
     (if x6 < 20 then
       (ygi 4 0 x1 s7 fun v9 =>
       if x5 < v9 then
         (ygr 4 5 x1 s7 fun p10 =>
         yai p10 (zadd (zmul x5 4) x4) s7 fun v11 =>
         yvl (zadd x5 v11) fun v12 =>
         ybd (fLayout_placeBehind x4 x3 s7) fun v13 s14 =>
         yvl (zadd x6 1) fun v15 =>
         fLayout_barsInLine_l1 n x1 x2 x3 v13 v12 v15 s14 k8)
       else
         (k8 x1 x4 x5 s7))
     else
       (k8 x1 x4 x5 s7))
   else
     (k8 x1 x4 x5 s7)
theorem fLayout_barsInLine_l1_ok {E : Nat → Nat} (d : Nat) : ∀ (n : Nat) (x1 : Nat) (x2 : Int) (x3 : Int) (x4 : Int) (x5 : Int) (x6 : Int) (s7 : zHp) (k8 : Nat → Int → Int → zHp → Option (Int × zHp)) (hk8 : ∀ (y0 : Nat) (y1 : Int) (y2 : Int) (s : zHp), zE zI Ji E (d + 1) 127 (zB 127 2) ([some (.inr (.inr y0)), none, none, some (.inl y1), some (.inl y2), none]) ([]) s (k8 y0 y1 y2 s)), zE zI Ji E (d + 1) 127 (zB 127 1) ([some (.inr (.inr x1)), some (.inl x2), some (.inl x3), some (.inl x4), some (.inl x5), some (.inl x6)]) ([]) s7 (fLayout_barsInLine_l1 n x1 x2 x3 x4 x5 x6 s7 k8) := by
  intro n
  induction n with
  | zero => intro x1 x2 x3 x4 x5 x6 s7 k8 hk8; exact zE_none
  | succ n ih =>
    intro x1 x2 x3 x4 x5 x6 s7 k8 hk8
    unfold fLayout_barsInLine_l1
    refine zq_4_5 ?_
    refine zq_4_1 ?_
    refine zq_49 ?_ ?_
    · refine zq_4_5 ?_
      refine zq_1 ?_
      refine zq_49 ?_ ?_
      · refine zq_4_4 ?_
        refine zq_6_0 ?_
        refine zh_60 ?_
        refine zq_49 ?_ ?_
        · refine zq_4_4 ?_
          refine zq_6_0 ?_
          refine zh_61 ?_
          refine zq_4_4 ?_
          refine zq_1 ?_
          refine zq_13 ?_
          refine zq_4_3 ?_
          refine zq_11 ?_
          refine zh_65 ?_
          refine zq_11 ?_
          refine zE_vl ?_
          refine zq_7_4 rfl ?_
          refine zq_4_3 ?_
          refine zq_4_2 ?_
          refine zq_90_2i rfl rfl (fLayout_placeBehind_ok (E := E) _ _ _ _) fun v13 s14 => ?_
          refine zq_7_3 rfl ?_
          refine zE_vl ?_
          refine zq_10_5 rfl ?_
          refine zq_56 ?_
          exact zE_w [true, true, true, true, true, true] (ih _ _ _ _ _ _ _ _ hk8)
        · exact zE_w [true, false, false, true, true, false] (hk8 _ _ _ _)
      · exact zE_w [true, false, false, true, true, false] (hk8 _ _ _ _)
    · exact zE_w [true, false, false, true, true, false] (hk8 _ _ _ _)
noncomputable def fLayout_barsInLine (a0 : Nat) (a1 : Int) (a2 : Int) (s : zHp) : Option (Int × zHp) :=
  fLayout_barsInLine_l1 zFU a0 a1 a2 0 0 0 s (fun (x16 : Nat) (x17 : Int) (x18 : Int) (s19 : zHp) =>
   ygi 4 0 x16 s19 fun v20 =>
   if x18 < v20 then
     (ygr 4 5 x16 s19 fun p21 =>
     yai p21 (zadd (zmul x18 4) x17) s19 fun v22 =>
     some (v22, s19))
   else
     (some ((-1), s19)))
theorem fLayout_barsInLine_ok {E : Nat → Nat} (d : Nat) (a0 : Nat) (a1 : Int) (a2 : Int) (s : zHp) : zE zI Ji E (d + 1) 127 (zB 127 0) (zent 6 [.inr (.inr a0), .inl a1, .inl a2]) [] s (fLayout_barsInLine a0 a1 a2 s) := by
  show zE _ _ _ _ _ _ [some (.inr (.inr a0)), some (.inl a1), some (.inl a2), none, none, none] _ _ _
  unfold fLayout_barsInLine
  refine zq_1 ?_
  refine zq_7_3 rfl ?_
  refine zq_1 ?_
  refine zq_7_4 rfl ?_
  refine zq_1 ?_
  refine zq_7_5 rfl ?_
  refine zq_57 ?_
  refine zE_w [true, true, true, true, true, true] (fLayout_barsInLine_l1_ok (E := E) d zFU _ _ _ _ _ _ _ _ (fun x16 x17 x18 s19 => ?_))
  refine zq_4_4 ?_
  refine zq_6_0 ?_
  refine zh_60 ?_
  refine zq_49 ?_ ?_
  · refine zq_6_0 ?_
    refine zh_61 ?_
    refine zq_4_4 ?_
    refine zq_1 ?_
    refine zq_13 ?_
    refine zq_4_3 ?_
    refine zq_11 ?_
    refine zh_65 ?_
    refine zq_56 ?_
    exact zq_95 rfl
  · refine zq_1 ?_
    refine zq_57 ?_
    exact zq_95 rfl
/-! 128: EngraversHouse.pages:(IIII)I -/
noncomputable def fH_pages (a0 : Nat) (a1 : Int) (a2 : Int) (a3 : Int) (a4 : Int) (s : zHp) : Option (Int × zHp) :=
  yck 10 a0 s <| ybd (fH_thingAt a0 a1 s) fun p1 s2 =>
  if p1 = 0 then
    (some ((-1), s2))
  else
  if a4 < 0 then
    (some ((-1), s2))
  else
  ybd (fH_within a4 2 9 s2) fun v3 s4 =>
  if v3 = 0 then
    (yck 10 a0 s4 <| ybd (fH_partAt a0 a1 s4) fun p5 s6 =>
    if p5 = 0 then
      (some ((-12), s6))
    else
      (ybd (fH_within a2 5 99 s6) fun v7 s8 =>
      if v7 = 0 then
        (some ((-2), s8))
      else
      ybd (fH_within a3 1 4 s8) fun v9 s10 =>
      if v9 = 0 then
        (some ((-2), s10))
      else
        (ygr 10 8 a0 s10 fun p11 =>
        yck 4 p11 s10 <| ybd (fLayout_measure p11 p5 s10) fun _ s12 =>
        ygr 10 8 a0 s12 fun p13 =>
        yck 4 p13 s12 <| ybd (fLayout_fits p13 a2 s12) fun v14 s15 =>
        if v14 = 0 then
          (some ((-3), s15))
        else
          (ygr 10 8 a0 s15 fun p16 =>
          yck 4 p16 s15 <| ybd (fLayout_fill p16 a2 a3 s15) fun _ s17 =>
          if a4 = 0 then
            (ygr 10 8 a0 s17 fun p24 =>
            yck 4 p24 s17 <| ybd (fLayout_leastCost p24 s17) fun v25 s26 =>
            some (v25, s26))
          else
            (if a4 = 1 then
              (ygr 10 8 a0 s17 fun p21 =>
              yck 4 p21 s17 <| ybd (fLayout_lineCount p21 a3 s17) fun v22 s23 =>
              some (v22, s23))
            else
              (ygr 10 8 a0 s17 fun p18 =>
              yck 4 p18 s17 <| ybd (fLayout_barsInLine p18 (zsub a4 10) a3 s17) fun v19 s20 =>
              some (v19, s20)))))))
  else
  some ((-1), s4)
theorem fH_pages_ok {E : Nat → Nat} (d : Nat) (a0 : Nat) (a1 : Int) (a2 : Int) (a3 : Int) (a4 : Int) (s : zHp) : zE zI Ji E (d + 6) 128 (zB 128 0) (zent 6 [.inr (.inr a0), .inl a1, .inl a2, .inl a3, .inl a4]) [] s (fH_pages a0 a1 a2 a3 a4 s) := by
  show zE _ _ _ _ _ _ [some (.inr (.inr a0)), some (.inl a1), some (.inl a2), some (.inl a3), some (.inl a4), none] _ _ _
  unfold fH_pages
  refine zq_6_0 ?_
  refine zq_4_1 ?_
  refine zE_g fun hg => ?_
  refine zq_92_2r hg rfl rfl (fH_thingAt_ok (E := E) _ _ _ _) fun p1 s2 => ?_
  refine zq_54 ?_ ?_
  · refine zq_1 ?_
    exact zq_95 rfl
  refine zq_4_4 ?_
  refine zq_42 ?_ ?_
  · refine zq_1 ?_
    exact zq_95 rfl
  refine zq_4_4 ?_
  refine zq_1 ?_
  refine zq_1 ?_
  refine zq_90_3i rfl rfl (fH_within_ok (E := E) _ _ _ _ _) fun v3 s4 => ?_
  refine zq_40 ?_ ?_
  · refine zq_6_0 ?_
    refine zq_4_1 ?_
    refine zE_g fun hg => ?_
    refine zq_92_2r hg rfl rfl (fH_partAt_ok (E := E) _ _ _ _) fun p5 s6 => ?_
    refine zq_9_5 rfl ?_
    refine zq_6_5 ?_
    refine zq_55 ?_ ?_
    · refine zq_1 ?_
      exact zq_95 rfl
    · refine zq_4_2 ?_
      refine zq_1 ?_
      refine zq_1 ?_
      refine zq_90_3i rfl rfl (fH_within_ok (E := E) _ _ _ _ _) fun v7 s8 => ?_
      refine zq_40 ?_ ?_
      · refine zq_1 ?_
        exact zq_95 rfl
      refine zq_4_3 ?_
      refine zq_1 ?_
      refine zq_1 ?_
      refine zq_90_3i rfl rfl (fH_within_ok (E := E) _ _ _ _ _) fun v9 s10 => ?_
      refine zq_41 ?_ ?_
      · refine zq_57 ?_
        refine zq_1 ?_
        exact zq_95 rfl
      · refine zq_6_0 ?_
        refine zh_61 ?_
        refine zq_6_5 ?_
        refine zE_g fun hg => ?_
        refine zq_92_2v hg rfl rfl (fLayout_measure_ok (E := E) _ _ _ _) fun _ s12 => ?_
        refine zq_6_0 ?_
        refine zh_61 ?_
        refine zq_4_2 ?_
        refine zE_g fun hg => ?_
        refine zq_92_2i hg rfl rfl (fLayout_fits_ok (E := E) _ _ _ _) fun v14 s15 => ?_
        refine zq_41 ?_ ?_
        · refine zq_1 ?_
          exact zq_95 rfl
        · refine zq_6_0 ?_
          refine zh_61 ?_
          refine zq_4_2 ?_
          refine zq_4_3 ?_
          refine zE_g fun hg => ?_
          refine zq_92_3v hg rfl rfl (fLayout_fill_ok (E := E) _ _ _ _ _) fun _ s17 => ?_
          refine zq_4_4 ?_
          refine zq_41 ?_ ?_
          · refine zq_6_0 ?_
            refine zh_61 ?_
            refine zE_g fun hg => ?_
            refine zq_92_1i hg rfl rfl (fLayout_leastCost_ok (E := E) _ _ _) fun v25 s26 => ?_
            exact zq_95 rfl
          · refine zq_4_4 ?_
            refine zq_1 ?_
            refine zq_47 ?_ ?_
            · refine zq_6_0 ?_
              refine zh_61 ?_
              refine zq_4_3 ?_
              refine zE_g fun hg => ?_
              refine zq_92_2i hg rfl rfl (fLayout_lineCount_ok (E := E) _ _ _ _) fun v22 s23 => ?_
              refine zq_56 ?_
              exact zq_95 rfl
            · refine zq_6_0 ?_
              refine zh_61 ?_
              refine zq_4_4 ?_
              refine zq_1 ?_
              refine zq_12 ?_
              refine zq_4_3 ?_
              refine zE_g fun hg => ?_
              refine zq_92_3i hg rfl rfl (fLayout_barsInLine_ok (E := E) _ _ _ _ _) fun v19 s20 => ?_
              refine zq_57 ?_
              exact zq_95 rfl
  refine zq_57 ?_
  refine zq_1 ?_
  exact zq_95 rfl
/-! 129: EngraversHouse.feed:(II)I -/
noncomputable def fH_feed_l3 : Nat → Nat → Int → Int → zHp → (Nat → zHp → Option (Int × zHp)) → Option (Int × zHp)
  | 0, _, _, _, _, _ => none
  | n + 1, x5, x6, x7, s8, k9 =>
   if x7 < 0 then
     (k9 x5 s8)
   else
   ygr 10 9 x5 s8 fun p10 =>
   ygi 10 10 x5 s8 fun v11 =>
   ysi p10 v11 (zand (zshr x6 (zmul 8 x7)) 255) s8 fun s12 =>
   ygi 10 10 x5 s12 fun v13 =>
   ypi 10 10 x5 (zadd v13 1) s12 fun s14 =>
   yvl (zadd x7 (-1)) fun v15 =>
   fH_feed_l3 n x5 x6 v15 s14 k9
theorem fH_feed_l3_ok {E : Nat → Nat} (d : Nat) : ∀ (n : Nat) (x5 : Nat) (x6 : Int) (x7 : Int) (s8 : zHp) (k9 : Nat → zHp → Option (Int × zHp)) (hk9 : ∀ (y0 : Nat) (s : zHp), zE zI Ji E (d + 1) 129 (zB 129 4) ([some (.inr (.inr y0)), none, none, none]) ([]) s (k9 y0 s)), zE zI Ji E (d + 1) 129 (zB 129 3) ([some (.inr (.inr x5)), some (.inl x6), none, some (.inl x7)]) ([]) s8 (fH_feed_l3 n x5 x6 x7 s8 k9) := by
  intro n
  induction n with
  | zero => intro x5 x6 x7 s8 k9 hk9; exact zE_none
  | succ n ih =>
    intro x5 x6 x7 s8 k9 hk9
    unfold fH_feed_l3
    refine zq_4_3 ?_
    refine zq_42 ?_ ?_
    · exact zE_w [true, false, false, false] (hk9 _ _)
    refine zq_6_0 ?_
    refine zh_61 ?_
    refine zq_6_0 ?_
    refine zh_60 ?_
    refine zq_4_1 ?_
    refine zq_1 ?_
    refine zq_4_3 ?_
    refine zq_13 ?_
    refine zq_18 ?_
    refine zq_1 ?_
    refine zq_20 ?_
    refine zh_68 ?_
    refine zq_6_0 ?_
    refine zq_33 ?_
    refine zh_60 ?_
    refine zq_1 ?_
    refine zq_11 ?_
    refine zh_62 ?_
    refine zE_vl ?_
    refine zq_10_3 rfl ?_
    refine zq_56 ?_
    exact zE_w [true, true, false, true] (ih _ _ _ _ _ hk9)
noncomputable def fH_feed (a0 : Nat) (a1 : Int) (a2 : Int) (s : zHp) : Option (Int × zHp) :=
  ybd (fH_within a2 0 4 s) fun v1 s2 =>
  if v1 = 0 then
    (some ((-2), s2))
  else
    (ygi 10 10 a0 s2 fun v3 =>
    if 120 < (zadd v3 a2) then
      (some ((-4), s2))
    else
      (yvl (zsub a2 1) fun v4 =>
      fH_feed_l3 zFU a0 a1 v4 s2 (fun (x16 : Nat) (s17 : zHp) =>
       ygi 10 10 x16 s17 fun v18 =>
       some (v18, s17))))
theorem fH_feed_ok {E : Nat → Nat} (d : Nat) (a0 : Nat) (a1 : Int) (a2 : Int) (s : zHp) : zE zI Ji E (d + 1) 129 (zB 129 0) (zent 4 [.inr (.inr a0), .inl a1, .inl a2]) [] s (fH_feed a0 a1 a2 s) := by
  show zE _ _ _ _ _ _ [some (.inr (.inr a0)), some (.inl a1), some (.inl a2), none] _ _ _
  unfold fH_feed
  refine zq_4_2 ?_
  refine zq_1 ?_
  refine zq_1 ?_
  refine zq_90_3i rfl rfl (fH_within_ok (E := E) _ _ _ _ _) fun v1 s2 => ?_
  refine zq_41 ?_ ?_
  · refine zq_1 ?_
    exact zq_95 rfl
  · refine zq_6_0 ?_
    refine zh_60 ?_
    refine zq_4_2 ?_
    refine zq_11 ?_
    refine zq_1 ?_
    refine zq_51 ?_ ?_
    · refine zq_1 ?_
      exact zq_95 rfl
    · refine zq_4_2 ?_
      refine zq_1 ?_
      refine zq_12 ?_
      refine zE_vl ?_
      refine zq_7_3 rfl ?_
      refine zq_57 ?_
      refine zE_w [true, true, false, true] (fH_feed_l3_ok (E := E) d zFU _ _ _ _ _ (fun x16 s17 => ?_))
      refine zq_6_0 ?_
      refine zh_60 ?_
      exact zq_95 rfl
/-! 130: EngraversHouse.isDay:(I)Z -/
noncomputable def fH_isDay (a0 : Int) (s : zHp) : Option (Int × zHp) :=
  ybd (fH_within a0 0 9999 s) fun v1 s2 =>
  yrb v1 s2
theorem fH_isDay_ok {E : Nat → Nat} (d : Nat) (a0 : Int) (s : zHp) : zE zI Ji E (d + 1) 130 (zB 130 0) (zent 1 [.inl a0]) [] s (fH_isDay a0 s) := by
  show zE _ _ _ _ _ _ [some (.inl a0)] _ _ _
  unfold fH_isDay
  refine zq_4_0 ?_
  refine zq_1 ?_
  refine zq_1 ?_
  refine zq_90_3i rfl rfl (fH_within_ok (E := E) _ _ _ _ _) fun v1 s2 => ?_
  exact zq_96
/-! 131: EngraversHouse$Contract.<init>:(II[I)V -/
noncomputable def fContract_init (a0 : Nat) (a1 : Int) (a2 : Int) (a3 : Nat) (s : zHp) : Option (Unit × zHp) :=
  yn0 a0 <|
  ypi 1 3 a0 0 s fun s1 =>
  ypz 1 4 a0 0 s1 fun s2 =>
  ypi 1 5 a0 10 s2 fun s3 =>
  ypi 1 6 a0 0 s3 fun s4 =>
  ypi 1 7 a0 0 s4 fun s5 =>
  ypz 1 8 a0 0 s5 fun s6 =>
  ypi 1 9 a0 0 s6 fun s7 =>
  ypi 1 10 a0 0 s7 fun s8 =>
  ypi 1 11 a0 0 s8 fun s9 =>
  ypz 1 12 a0 0 s9 fun s10 =>
  ypi 1 0 a0 a1 s10 fun s11 =>
  ypi 1 1 a0 a2 s11 fun s12 =>
  ypr 1 2 a0 a3 s12 fun s13 =>
  some ((), s13)
set_option maxRecDepth 20000 in
set_option maxHeartbeats 4000000 in
theorem fContract_init_ok {E : Nat → Nat} (d : Nat) (a0 : Nat) (a1 : Int) (a2 : Int) (a3 : Nat) (s : zHp) : zE zI Jv E (d + 0) 131 (zB 131 0) (zent 4 [.inr (.inr a0), .inl a1, .inl a2, .inr (.inr a3)]) [] s (fContract_init a0 a1 a2 a3 s) := by
  show zE _ _ _ _ _ _ [some (.inr (.inr a0)), some (.inl a1), some (.inl a2), some (.inr (.inr a3))] _ _ _
  unfold fContract_init
  refine zq_6_0 ?_
  refine zh_82 rfl ?_
  refine zq_6_0 ?_
  refine zq_1 ?_
  refine zh_62 ?_
  refine zq_6_0 ?_
  refine zq_1 ?_
  refine zh_63 ?_
  refine zq_6_0 ?_
  refine zq_1 ?_
  refine zh_62 ?_
  refine zq_6_0 ?_
  refine zq_1 ?_
  refine zh_62 ?_
  refine zq_6_0 ?_
  refine zq_1 ?_
  refine zh_62 ?_
  refine zq_6_0 ?_
  refine zq_1 ?_
  refine zh_63 ?_
  refine zq_6_0 ?_
  refine zq_1 ?_
  refine zh_62 ?_
  refine zq_6_0 ?_
  refine zq_1 ?_
  refine zh_62 ?_
  refine zq_6_0 ?_
  refine zq_1 ?_
  refine zh_62 ?_
  refine zq_6_0 ?_
  refine zq_1 ?_
  refine zh_63 ?_
  refine zq_6_0 ?_
  refine zq_4_1 ?_
  refine zh_62 ?_
  refine zq_6_0 ?_
  refine zq_4_2 ?_
  refine zh_62 ?_
  refine zq_6_0 ?_
  refine zq_6_3 ?_
  refine zh_64 ?_
  exact zq_101
/-! 132: EngraversHouse$Contract.sees:(C)Z -/
noncomputable def fContract_sees (a0 : Nat) (a1 : Int) (s : zHp) : Option (Int × zHp) :=
  ygi 1 4 a0 s fun v1 =>
  if v1 = 0 then
    (ygi 1 3 a0 s fun v2 =>
    ygr 1 2 a0 s fun p3 =>
    yln p3 s fun v4 =>
    if v2 < v4 then
      (ygr 1 2 a0 s fun p5 =>
      ygi 1 3 a0 s fun v6 =>
      yai p5 v6 s fun v7 =>
      if v7 = a1 then
        (some (1, s))
      else
        (some (0, s)))
    else
      (some (0, s)))
  else
    (some (0, s))
theorem fContract_sees_ok {E : Nat → Nat} (d : Nat) (a0 : Nat) (a1 : Int) (s : zHp) : zE zI Ji E (d + 0) 132 (zB 132 0) (zent 2 [.inr (.inr a0), .inl a1]) [] s (fContract_sees a0 a1 s) := by
  show zE _ _ _ _ _ _ [some (.inr (.inr a0)), some (.inl a1)] _ _ _
  unfold fContract_sees
  refine zq_6_0 ?_
  refine zh_60 ?_
  refine zq_41 ?_ ?_
  · refine zq_6_0 ?_
    refine zh_60 ?_
    refine zq_6_0 ?_
    refine zh_61 ?_
    refine zh_72 ?_
    refine zq_49 ?_ ?_
    · refine zq_6_0 ?_
      refine zh_61 ?_
      refine zq_6_0 ?_
      refine zh_60 ?_
      refine zh_65 ?_
      refine zq_4_1 ?_
      refine zq_47 ?_ ?_
      · refine zq_1 ?_
        refine zq_56 ?_
        exact zq_96c (by decide)
      · refine zq_1 ?_
        refine zq_57 ?_
        exact zq_96c (by decide)
    · refine zq_1 ?_
      refine zq_57 ?_
      exact zq_96c (by decide)
  · refine zq_1 ?_
    refine zq_57 ?_
    exact zq_96c (by decide)
/-! 133: EngraversHouse$Contract.skip:(Ljava/lang/String;)V -/
noncomputable def fContract_skip_l1 (E : Nat → Nat) : Nat → Nat → Nat → Int → zHp → Option (Unit × zHp)
  | 0, _, _, _, _ => none
  | n + 1, x1, x2, x3, s4 =>
   yjn (fun (x5 : Nat) (x6 : Nat) (x7 : Int) (s8 : zHp) =>
    yvl (zadd x7 1) fun v10 =>
    fContract_skip_l1 E n x5 x6 v10 s8) fun q9 =>
    yck 49 x2 s4 <| ybd (fJString_length x2 s4) fun v11 s12 =>
   if x3 < v11 then
     (yck 49 x2 s12 <| ybd (fJString_charAt E x2 x3 s12) fun v13 s14 =>
     yck 1 x1 s14 <| ybd (fContract_sees x1 v13 s14) fun v15 s16 =>
     if v15 = 0 then
       (ypz 1 4 x1 1 s16 fun s17 =>
       q9 x1 x2 x3 s17)
     else
     ygi 1 3 x1 s16 fun v18 =>
     ypi 1 3 x1 (zadd v18 1) s16 fun s19 =>
     q9 x1 x2 x3 s19)
   else
     (some ((), s12))
theorem fContract_skip_l1_ok {E : Nat → Nat} (d : Nat) : ∀ (n : Nat) (x1 : Nat) (x2 : Nat) (x3 : Int) (s4 : zHp), zE zI Jv E (d + 4) 133 (zB 133 1) ([some (.inr (.inr x1)), some (.inr (.inr x2)), some (.inl x3)]) ([]) s4 (fContract_skip_l1 E n x1 x2 x3 s4) := by
  intro n
  induction n with
  | zero => intro x1 x2 x3 s4; exact zE_none
  | succ n ih =>
    intro x1 x2 x3 s4
    unfold fContract_skip_l1
    refine zE_jn (fun q9 => ∀ (y0 : Nat) (y1 : Nat) (y2 : Int) (s : zHp), zE zI Jv E (d + 4) 133 (zB 133 3) ([some (.inr (.inr y0)), some (.inr (.inr y1)), some (.inl y2)]) ([]) s (q9 y0 y1 y2 s)) (fun x5 x6 x7 s8 => ?_) (fun q9 hq9 => ?_)
    · refine zE_vl ?_
      refine zq_10_2 rfl ?_
      refine zq_56 ?_
      exact zE_w [true, true, true] (ih _ _ _ _)
    refine zq_4_2 ?_
    refine zq_6_1 ?_
    refine zE_g fun hg => ?_
    refine zq_92_1i hg rfl rfl (fJString_length_ok (E := E) _ _ _) fun v11 s12 => ?_
    refine zq_49 ?_ ?_
    · refine zq_6_0 ?_
      refine zq_6_1 ?_
      refine zq_4_2 ?_
      refine zE_g fun hg => ?_
      refine zq_92_2i hg rfl rfl (fJString_charAt_ok (E := E) _ _ _ _) fun v13 s14 => ?_
      refine zE_g fun hg => ?_
      refine zq_92_2i hg rfl rfl (fContract_sees_ok (E := E) _ _ _ _) fun v15 s16 => ?_
      refine zq_40 ?_ ?_
      · refine zq_6_0 ?_
        refine zq_1 ?_
        refine zh_63 ?_
        refine zq_57 ?_
        exact zE_w [true, true, true] (hq9 _ _ _ _)
      refine zq_6_0 ?_
      refine zq_33 ?_
      refine zh_60 ?_
      refine zq_1 ?_
      refine zq_11 ?_
      refine zh_62 ?_
      refine zq_56 ?_
      exact zE_w [true, true, true] (hq9 _ _ _ _)
    · exact zq_101
noncomputable def fContract_skip (E : Nat → Nat) (a0 : Nat) (a1 : Nat) (s : zHp) : Option (Unit × zHp) :=
  fContract_skip_l1 E zFU a0 a1 0 s
theorem fContract_skip_ok {E : Nat → Nat} (d : Nat) (a0 : Nat) (a1 : Nat) (s : zHp) : zE zI Jv E (d + 4) 133 (zB 133 0) (zent 3 [.inr (.inr a0), .inr (.inr a1)]) [] s (fContract_skip E a0 a1 s) := by
  show zE _ _ _ _ _ _ [some (.inr (.inr a0)), some (.inr (.inr a1)), none] _ _ _
  unfold fContract_skip
  refine zq_1 ?_
  refine zq_7_2 rfl ?_
  refine zq_57 ?_
  exact zE_w [true, true, true] (fContract_skip_l1_ok (E := E) d zFU _ _ _ _)
/-! 134: EngraversHouse$Contract.pick:(Ljava/lang/String;)I -/
noncomputable def fContract_pick (a0 : Nat) (a1 : Nat) (s : zHp) : Option (Int × zHp) :=
  yjn (fun (x1 : Nat) (x2 : Int) (s3 : zHp) =>
   if x2 = (-1) then
     (ypz 1 4 x1 1 s3 fun s7 =>
     some (x2, s7))
   else
     (ygi 1 3 x1 s3 fun v5 =>
     ypi 1 3 x1 (zadd v5 1) s3 fun s6 =>
     some (x2, s6))) fun q4 =>
   yjn (fun (x8 : Nat) (s9 : zHp) =>
   q4 x8 (-1) s9) fun q10 =>
   ygi 1 4 a0 s fun v11 =>
  if v11 = 0 then
    (ygi 1 3 a0 s fun v12 =>
    ygr 1 2 a0 s fun p13 =>
    yln p13 s fun v14 =>
    if v12 < v14 then
      (ygr 1 2 a0 s fun p15 =>
      ygi 1 3 a0 s fun v16 =>
      yai p15 v16 s fun v17 =>
      yck 49 a1 s <| ybd (fJString_indexOfq a1 (zi2c v17) s) fun v18 s19 =>
      q4 a0 v18 s19)
    else
    q10 a0 s)
  else
    (q10 a0 s)
theorem fContract_pick_ok {E : Nat → Nat} (d : Nat) (a0 : Nat) (a1 : Nat) (s : zHp) : zE zI Ji E (d + 4) 134 (zB 134 0) (zent 3 [.inr (.inr a0), .inr (.inr a1)]) [] s (fContract_pick a0 a1 s) := by
  show zE _ _ _ _ _ _ [some (.inr (.inr a0)), some (.inr (.inr a1)), none] _ _ _
  unfold fContract_pick
  refine zE_jn (fun q4 => ∀ (y0 : Nat) (y1 : Int) (s : zHp), zE zI Ji E (d + 4) 134 (zB 134 3) ([some (.inr (.inr y0)), none, none]) ([.inl y1]) s (q4 y0 y1 s)) (fun x1 x2 s3 => ?_) (fun q4 hq4 => ?_)
  · refine zq_7_2 rfl ?_
    refine zq_4_2 ?_
    refine zq_1 ?_
    refine zq_47 ?_ ?_
    · refine zq_6_0 ?_
      refine zq_1 ?_
      refine zh_63 ?_
      refine zq_56 ?_
      refine zq_4_2 ?_
      exact zq_95 rfl
    · refine zq_6_0 ?_
      refine zq_33 ?_
      refine zh_60 ?_
      refine zq_1 ?_
      refine zq_11 ?_
      refine zh_62 ?_
      refine zq_57 ?_
      refine zq_4_2 ?_
      exact zq_95 rfl
  refine zE_jn (fun q10 => ∀ (y0 : Nat) (s : zHp), zE zI Ji E (d + 4) 134 (zB 134 1) ([some (.inr (.inr y0)), none, none]) ([]) s (q10 y0 s)) (fun x8 s9 => ?_) (fun q10 hq10 => ?_)
  · refine zq_1 ?_
    refine zq_56 ?_
    exact zE_w [true, false, false] (hq4 _ _ _)
  refine zq_6_0 ?_
  refine zh_60 ?_
  refine zq_41 ?_ ?_
  · refine zq_6_0 ?_
    refine zh_60 ?_
    refine zq_6_0 ?_
    refine zh_61 ?_
    refine zh_72 ?_
    refine zq_48 ?_ ?_
    · refine zq_6_1 ?_
      refine zq_6_0 ?_
      refine zh_61 ?_
      refine zq_6_0 ?_
      refine zh_60 ?_
      refine zh_65 ?_
      refine zq_27 ?_
      refine zE_g fun hg => ?_
      refine zq_92_2i hg rfl rfl (fJString_indexOfq_ok (E := E) _ _ _ _) fun v18 s19 => ?_
      refine zq_57 ?_
      exact zE_w [true, false, false] (hq4 _ _ _)
    refine zq_57 ?_
    exact zE_w [true, false, false] (hq10 _ _)
  · exact zE_w [true, false, false] (hq10 _ _)
/-! 135: EngraversHouse$Contract.readNumber:()I -/
noncomputable def fContract_readNumber_l1 (E : Nat → Nat) : Nat → Nat → Int → Int → zHp → Option (Int × zHp)
  | 0, _, _, _, _ => none
  | n + 1, x3, x4, x5, s6 =>
   if x5 < 3 then
     (ygi 1 4 x3 s6 fun v7 =>
     if v7 = 0 then
       (ygi 1 3 x3 s6 fun v8 =>
       ygr 1 2 x3 s6 fun p9 =>
       yln p9 s6 fun v10 =>
       if v8 < v10 then
         (ygr 1 2 x3 s6 fun p11 =>
         ygi 1 3 x3 s6 fun v12 =>
         yai p11 v12 s6 fun v13 =>
         yvl (zsub v13 48) fun v14 =>
         if v14 < 0 then
           (some (x4, s6))
         else
         if 9 < v14 then
           (some (x4, s6))
         else
           (yvl (zadd (zmul x4 10) v14) fun v15 =>
           ygi 1 3 x3 s6 fun v16 =>
           ypi 1 3 x3 (zadd v16 1) s6 fun s17 =>
           yvl (zadd x5 1) fun v18 =>
           fContract_readNumber_l1 E n x3 v15 v18 s17))
       else
         (some (x4, s6)))
     else
       (some (x4, s6)))
   else
     (some (x4, s6))
theorem fContract_readNumber_l1_ok {E : Nat → Nat} (d : Nat) : ∀ (n : Nat) (x3 : Nat) (x4 : Int) (x5 : Int) (s6 : zHp), zE zI Ji E (d + 5) 135 (zB 135 1) ([some (.inr (.inr x3)), some (.inl x4), some (.inl x5), none]) ([]) s6 (fContract_readNumber_l1 E n x3 x4 x5 s6) := by
  intro n
  induction n with
  | zero => intro x3 x4 x5 s6; exact zE_none
  | succ n ih =>
    intro x3 x4 x5 s6
    unfold fContract_readNumber_l1
    refine zq_4_2 ?_
    refine zq_1 ?_
    refine zq_49 ?_ ?_
    · refine zq_6_0 ?_
      refine zh_60 ?_
      refine zq_41 ?_ ?_
      · refine zq_6_0 ?_
        refine zh_60 ?_
        refine zq_6_0 ?_
        refine zh_61 ?_
        refine zh_72 ?_
        refine zq_49 ?_ ?_
        · refine zq_6_0 ?_
          refine zh_61 ?_
          refine zq_6_0 ?_
          refine zh_60 ?_
          refine zh_65 ?_
          refine zq_1 ?_
          refine zq_12 ?_
          refine zE_vl ?_
          refine zq_7_3 rfl ?_
          refine zq_4_3 ?_
          refine zq_42 ?_ ?_
          · refine zq_4_1 ?_
            exact zq_95 rfl
          refine zq_4_3 ?_
          refine zq_1 ?_
          refine zq_51 ?_ ?_
          · refine zq_57 ?_
            refine zq_4_1 ?_
            exact zq_95 rfl
          · refine zq_4_1 ?_
            refine zq_1 ?_
            refine zq_13 ?_
            refine zq_4_3 ?_
            refine zq_11 ?_
            refine zE_vl ?_
            refine zq_7_1 rfl ?_
            refine zq_6_0 ?_
            refine zq_33 ?_
            refine zh_60 ?_
            refine zq_1 ?_
            refine zq_11 ?_
            refine zh_62 ?_
            refine zE_vl ?_
            refine zq_10_2 rfl ?_
            refine zq_56 ?_
            exact zE_w [true, true, true, false] (ih _ _ _ _)
        · refine zq_4_1 ?_
          exact zq_95 rfl
      · refine zq_4_1 ?_
        exact zq_95 rfl
    · refine zq_4_1 ?_
      exact zq_95 rfl
noncomputable def fContract_readNumber (E : Nat → Nat) (a0 : Nat) (s : zHp) : Option (Int × zHp) :=
  yck 1 a0 s <| ybd (fContract_pick a0 (E 4) s) fun v1 s2 =>
  fContract_readNumber_l1 E zFU a0 v1 1 s2
theorem fContract_readNumber_ok {E : Nat → Nat} (d : Nat) (a0 : Nat) (s : zHp) : zE zI Ji E (d + 5) 135 (zB 135 0) (zent 4 [.inr (.inr a0)]) [] s (fContract_readNumber E a0 s) := by
  show zE _ _ _ _ _ _ [some (.inr (.inr a0)), none, none, none] _ _ _
  unfold fContract_readNumber
  refine zq_6_0 ?_
  refine zh_81 ?_
  refine zE_g fun hg => ?_
  refine zq_92_2i hg rfl rfl (fContract_pick_ok (E := E) _ _ _ _) fun v1 s2 => ?_
  refine zq_7_1 rfl ?_
  refine zq_1 ?_
  refine zq_7_2 rfl ?_
  refine zq_57 ?_
  exact zE_w [true, true, true, false] (fContract_readNumber_l1_ok (E := E) d zFU _ _ _ _)
