/-! 282: EngraversHouseModel.missed:(II)I -/
noncomputable def gM_missed (a1 : Int) (a2 : Int) (s : zSg) : Option (Int × zSg) :=
  ybd (gM_in a1 0 3 s) fun v1 s2 =>
  if v1 = 0 then
    (some ((-1), s2))
  else
  ybd (gM_isThing a2 s2) fun v3 s4 =>
  if v3 = 0 then
    (some ((-1), s4))
  else
    (yrd 60 3 a2 s4 fun v5 =>
    if v5 = 3 then
      (yrd 240 75 (zadd (zmul 4 a2) a1) s4 fun v6 =>
      if v6 < 0 then
        (some ((-3), s4))
      else
        (ybd (gM_offs a2 s4) fun v7 s8 =>
        ybd (gM_bitsOf (zand v7 (zxor v6 (-1))) s8) fun v9 s10 =>
        some (v9, s10)))
    else
    some ((-12), s4))
theorem gM_missed_ok {E : Nat → Nat} {R : Nat} {h0 : zHp} (hw : zRg R h0) (d : Nat) (a1 : Int) (a2 : Int) (s : zSg) : zE (zov R h0) Ji E (d + 4) 282 (zB 282 0) (zent 4 [.inr (.inr R), .inl a1, .inl a2]) [] s (gM_missed a1 a2 s) := by
  show zE _ _ _ _ _ _ [some (.inr (.inr R)), some (.inl a1), some (.inl a2), none] _ _ _
  unfold gM_missed
  refine zq_4_1 ?_
  refine zq_1 ?_
  refine zq_1 ?_
  refine zq_90_3i rfl rfl (gM_in_ok (E := E) hw _ _ _ _ _) fun v1 s2 => ?_
  refine zq_40 ?_ ?_
  · refine zq_1 ?_
    exact zq_95 rfl
  refine zq_6_0 ?_
  refine zq_4_2 ?_
  refine zq_92_2i (zR_is hw) rfl rfl (gM_isThing_ok (E := E) hw _ _ _) fun v3 s4 => ?_
  refine zq_41 ?_ ?_
  · refine zq_57 ?_
    refine zq_1 ?_
    exact zq_95 rfl
  · refine zq_6_0 ?_
    refine zr_61 hw rfl ?_
    refine zq_4_2 ?_
    refine zr_65 hw rfl rfl rfl ?_
    refine zq_1 ?_
    refine zq_46 ?_ ?_
    · refine zq_6_0 ?_
      refine zr_61 hw rfl ?_
      refine zq_1 ?_
      refine zq_4_2 ?_
      refine zq_13 ?_
      refine zq_4_1 ?_
      refine zq_11 ?_
      refine zr_65 hw rfl rfl rfl ?_
      refine zq_7_3 rfl ?_
      refine zq_4_3 ?_
      refine zq_43 ?_ ?_
      · refine zq_1 ?_
        refine zq_56 ?_
        exact zq_95 rfl
      · refine zq_6_0 ?_
        refine zq_4_2 ?_
        refine zq_92_2i (zR_is hw) rfl rfl (gM_offs_ok (E := E) hw _ _ _) fun v7 s8 => ?_
        refine zq_4_3 ?_
        refine zq_1 ?_
        refine zq_22 ?_
        refine zq_20 ?_
        refine zq_90_1i rfl rfl (gM_bitsOf_ok (E := E) hw _ _ _) fun v9 s10 => ?_
        refine zq_57 ?_
        exact zq_95 rfl
    refine zq_1 ?_
    exact zq_95 rfl
/-! 283: EngraversHouseModel.ran:(I)V -/
noncomputable def gM_ran (a1 : Int) (s : zSg) : Option (Unit × zSg) :=
  yjn (fun  (s1 : zSg) =>
   yvl (zup s1 0 76 (zadd (s1 0 76) 1)) fun s3 =>
   some ((), s3)) fun q2 =>
   if (s 0 76) < 20 then
    (ywi 20 77 (s 0 76) a1 s fun s4 =>
    q2 s4)
  else
    (q2 s)
theorem gM_ran_ok {E : Nat → Nat} {R : Nat} {h0 : zHp} (hw : zRg R h0) (d : Nat) (a1 : Int) (s : zSg) : zE (zov R h0) Jv E (d + 0) 283 (zB 283 0) (zent 2 [.inr (.inr R), .inl a1]) [] s (gM_ran a1 s) := by
  show zE _ _ _ _ _ _ [some (.inr (.inr R)), some (.inl a1)] _ _ _
  unfold gM_ran
  refine zE_jn (fun q2 => ∀ (s : zSg), zE (zov R h0) Jv E (d + 0) 283 (zB 283 1) ([some (.inr (.inr R)), none]) ([]) s (q2 s)) (fun s1 => ?_) (fun q2 hq2 => ?_)
  · refine zq_6_0 ?_
    refine zq_33 ?_
    refine zr_60 hw rfl ?_
    refine zq_1 ?_
    refine zq_11 ?_
    refine zE_vl ?_
    refine zr_62 hw rfl ?_
    exact zq_101
  refine zq_6_0 ?_
  refine zr_60 hw rfl ?_
  refine zq_1 ?_
  refine zq_49 ?_ ?_
  · refine zq_6_0 ?_
    refine zr_61 hw rfl ?_
    refine zq_6_0 ?_
    refine zr_60 hw rfl ?_
    refine zq_4_1 ?_
    refine zr_68 hw rfl rfl rfl ?_
    refine zq_57 ?_
    exact zE_w [true, false] (hq2 _)
  · exact zE_w [true, false] (hq2 _)
/-! 284: EngraversHouseModel.plainHolds:(II)I -/
noncomputable def gM_plainHolds (a1 : Int) (a2 : Int) (s : zSg) : Option (Int × zSg) :=
  ybd (gM_ran 10 s) fun _ s1 =>
  some (zadd a2 a1, s1)
theorem gM_plainHolds_ok {E : Nat → Nat} {R : Nat} {h0 : zHp} (hw : zRg R h0) (d : Nat) (a1 : Int) (a2 : Int) (s : zSg) : zE (zov R h0) Ji E (d + 1) 284 (zB 284 0) (zent 3 [.inr (.inr R), .inl a1, .inl a2]) [] s (gM_plainHolds a1 a2 s) := by
  show zE _ _ _ _ _ _ [some (.inr (.inr R)), some (.inl a1), some (.inl a2)] _ _ _
  unfold gM_plainHolds
  refine zq_6_0 ?_
  refine zq_1 ?_
  refine zq_92_2v (zR_is hw) rfl rfl (gM_ran_ok (E := E) hw _ _ _) fun _ s1 => ?_
  refine zq_4_2 ?_
  refine zq_4_1 ?_
  refine zq_11 ?_
  exact zq_95 rfl
/-! 285: EngraversHouseModel.scoreHolds:(II)I -/
noncomputable def gM_scoreHolds (a1 : Int) (a2 : Int) (s : zSg) : Option (Int × zSg) :=
  ybd (gM_ran 20 s) fun _ s1 =>
  ybd (gM_plainHolds a1 a2 s1) fun v2 s3 =>
  some (zmul v2 2, s3)
theorem gM_scoreHolds_ok {E : Nat → Nat} {R : Nat} {h0 : zHp} (hw : zRg R h0) (d : Nat) (a1 : Int) (a2 : Int) (s : zSg) : zE (zov R h0) Ji E (d + 2) 285 (zB 285 0) (zent 3 [.inr (.inr R), .inl a1, .inl a2]) [] s (gM_scoreHolds a1 a2 s) := by
  show zE _ _ _ _ _ _ [some (.inr (.inr R)), some (.inl a1), some (.inl a2)] _ _ _
  unfold gM_scoreHolds
  refine zq_6_0 ?_
  refine zq_1 ?_
  refine zq_92_2v (zR_is hw) rfl rfl (gM_ran_ok (E := E) hw _ _ _) fun _ s1 => ?_
  refine zq_6_0 ?_
  refine zq_4_1 ?_
  refine zq_4_2 ?_
  refine zq_92_3i (zR_is hw) rfl rfl (gM_plainHolds_ok (E := E) hw _ _ _ _) fun v2 s3 => ?_
  refine zq_1 ?_
  refine zq_13 ?_
  exact zq_95 rfl
/-! 286: EngraversHouseModel.holds:(II)I -/
noncomputable def gM_holds (a1 : Int) (a2 : Int) (s : zSg) : Option (Int × zSg) :=
  yrd 60 3 a1 s fun v1 =>
  if v1 = 4 then
    (ybd (gM_ran 50 s) fun _ s13 =>
    ybd (gM_plainHolds a1 (zadd a2 4) s13) fun v14 s15 =>
    some (v14, s15))
  else
    (yrd 60 3 a1 s fun v2 =>
    if v2 = 5 then
      (ybd (gM_ran 61 s) fun _ s10 =>
      ybd (gM_scoreHolds a1 a2 s10) fun v11 s12 =>
      some (zadd v11 1, s12))
    else
      (yrd 60 3 a1 s fun v3 =>
      ybd (gM_isUnder v3 1 s) fun v4 s5 =>
      if v4 = 0 then
        (ybd (gM_plainHolds a1 a2 s5) fun v6 s7 =>
        some (v6, s7))
      else
      ybd (gM_scoreHolds a1 a2 s5) fun v8 s9 =>
      some (v8, s9)))
theorem gM_holds_ok {E : Nat → Nat} {R : Nat} {h0 : zHp} (hw : zRg R h0) (d : Nat) (a1 : Int) (a2 : Int) (s : zSg) : zE (zov R h0) Ji E (d + 3) 286 (zB 286 0) (zent 3 [.inr (.inr R), .inl a1, .inl a2]) [] s (gM_holds a1 a2 s) := by
  show zE _ _ _ _ _ _ [some (.inr (.inr R)), some (.inl a1), some (.inl a2)] _ _ _
  unfold gM_holds
  refine zq_6_0 ?_
  refine zr_61 hw rfl ?_
  refine zq_4_1 ?_
  refine zr_65 hw rfl rfl rfl ?_
  refine zq_1 ?_
  refine zq_47 ?_ ?_
  · refine zq_6_0 ?_
    refine zq_1 ?_
    refine zq_92_2v (zR_is hw) rfl rfl (gM_ran_ok (E := E) hw _ _ _) fun _ s13 => ?_
    refine zq_6_0 ?_
    refine zq_4_1 ?_
    refine zq_4_2 ?_
    refine zq_1 ?_
    refine zq_11 ?_
    refine zq_92_3i (zR_is hw) rfl rfl (gM_plainHolds_ok (E := E) hw _ _ _ _) fun v14 s15 => ?_
    exact zq_95 rfl
  · refine zq_6_0 ?_
    refine zr_61 hw rfl ?_
    refine zq_4_1 ?_
    refine zr_65 hw rfl rfl rfl ?_
    refine zq_1 ?_
    refine zq_47 ?_ ?_
    · refine zq_6_0 ?_
      refine zq_1 ?_
      refine zq_92_2v (zR_is hw) rfl rfl (gM_ran_ok (E := E) hw _ _ _) fun _ s10 => ?_
      refine zq_6_0 ?_
      refine zq_4_1 ?_
      refine zq_4_2 ?_
      refine zq_92_3i (zR_is hw) rfl rfl (gM_scoreHolds_ok (E := E) hw _ _ _ _) fun v11 s12 => ?_
      refine zq_1 ?_
      refine zq_11 ?_
      exact zq_95 rfl
    · refine zq_6_0 ?_
      refine zr_61 hw rfl ?_
      refine zq_4_1 ?_
      refine zr_65 hw rfl rfl rfl ?_
      refine zq_1 ?_
      refine zq_90_2i rfl rfl (gM_isUnder_ok (E := E) hw _ _ _ _) fun v4 s5 => ?_
      refine zq_40 ?_ ?_
      · refine zq_6_0 ?_
        refine zq_4_1 ?_
        refine zq_4_2 ?_
        refine zq_92_3i (zR_is hw) rfl rfl (gM_plainHolds_ok (E := E) hw _ _ _ _) fun v6 s7 => ?_
        refine zq_57 ?_
        exact zq_95 rfl
      refine zq_6_0 ?_
      refine zq_4_1 ?_
      refine zq_4_2 ?_
      refine zq_92_3i (zR_is hw) rfl rfl (gM_scoreHolds_ok (E := E) hw _ _ _ _) fun v8 s9 => ?_
      refine zq_56 ?_
      exact zq_95 rfl
/-! 287: EngraversHouseModel.plainTurns:(II)I -/
noncomputable def gM_plainTurns (a1 : Int) (a2 : Int) (s : zSg) : Option (Int × zSg) :=
  ybd (gM_ran 11 s) fun _ s1 =>
  ybd (gM_holds a1 a2 s1) fun v2 s3 =>
  some (zxor v2 3, s3)
theorem gM_plainTurns_ok {E : Nat → Nat} {R : Nat} {h0 : zHp} (hw : zRg R h0) (d : Nat) (a1 : Int) (a2 : Int) (s : zSg) : zE (zov R h0) Ji E (d + 4) 287 (zB 287 0) (zent 3 [.inr (.inr R), .inl a1, .inl a2]) [] s (gM_plainTurns a1 a2 s) := by
  show zE _ _ _ _ _ _ [some (.inr (.inr R)), some (.inl a1), some (.inl a2)] _ _ _
  unfold gM_plainTurns
  refine zq_6_0 ?_
  refine zq_1 ?_
  refine zq_92_2v (zR_is hw) rfl rfl (gM_ran_ok (E := E) hw _ _ _) fun _ s1 => ?_
  refine zq_6_0 ?_
  refine zq_4_1 ?_
  refine zq_4_2 ?_
  refine zq_92_3i (zR_is hw) rfl rfl (gM_holds_ok (E := E) hw _ _ _ _) fun v2 s3 => ?_
  refine zq_1 ?_
  refine zq_22 ?_
  exact zq_95 rfl
/-! 288: EngraversHouseModel.partTurns:(II)I -/
noncomputable def gM_partTurns (a1 : Int) (a2 : Int) (s : zSg) : Option (Int × zSg) :=
  ybd (gM_ran 30 s) fun _ s1 =>
  ybd (gM_plainTurns a1 a2 s1) fun v2 s3 =>
  ybd (gM_holds a1 1 s3) fun v4 s5 =>
  some (zadd v2 v4, s5)
theorem gM_partTurns_ok {E : Nat → Nat} {R : Nat} {h0 : zHp} (hw : zRg R h0) (d : Nat) (a1 : Int) (a2 : Int) (s : zSg) : zE (zov R h0) Ji E (d + 5) 288 (zB 288 0) (zent 4 [.inr (.inr R), .inl a1, .inl a2]) [] s (gM_partTurns a1 a2 s) := by
  show zE _ _ _ _ _ _ [some (.inr (.inr R)), some (.inl a1), some (.inl a2), none] _ _ _
  unfold gM_partTurns
  refine zq_6_0 ?_
  refine zq_1 ?_
  refine zq_92_2v (zR_is hw) rfl rfl (gM_ran_ok (E := E) hw _ _ _) fun _ s1 => ?_
  refine zq_6_0 ?_
  refine zq_4_1 ?_
  refine zq_4_2 ?_
  refine zq_92_3i (zR_is hw) rfl rfl (gM_plainTurns_ok (E := E) hw _ _ _ _) fun v2 s3 => ?_
  refine zq_7_3 rfl ?_
  refine zq_4_3 ?_
  refine zq_6_0 ?_
  refine zq_4_1 ?_
  refine zq_1 ?_
  refine zq_92_3i (zR_is hw) rfl rfl (gM_holds_ok (E := E) hw _ _ _ _) fun v4 s5 => ?_
  refine zq_11 ?_
  exact zq_95 rfl
/-! 289: EngraversHouseModel.turns:(II)I -/
noncomputable def gM_turns (a1 : Int) (a2 : Int) (s : zSg) : Option (Int × zSg) :=
  yrd 60 3 a1 s fun v1 =>
  if v1 = 5 then
    (ybd (gM_ran 60 s) fun _ s13 =>
    ybd (gM_partTurns a1 a2 s13) fun v14 s15 =>
    some (zneg v14, s15))
  else
    (yrd 60 3 a1 s fun v2 =>
    if v2 = 2 then
      (ybd (gM_partTurns a1 a2 s) fun v11 s12 =>
      some (v11, s12))
    else
      (yrd 60 3 a1 s fun v3 =>
      if v3 = 7 then
        (ybd (gM_ran 80 s) fun _ s6 =>
        ybd (gM_holds a1 a2 s6) fun v7 s8 =>
        ybd (gM_plainTurns a1 a2 s8) fun v9 s10 =>
        some (zsub v7 v9, s10))
      else
        (ybd (gM_plainTurns a1 a2 s) fun v4 s5 =>
        some (v4, s5))))
theorem gM_turns_ok {E : Nat → Nat} {R : Nat} {h0 : zHp} (hw : zRg R h0) (d : Nat) (a1 : Int) (a2 : Int) (s : zSg) : zE (zov R h0) Ji E (d + 6) 289 (zB 289 0) (zent 4 [.inr (.inr R), .inl a1, .inl a2]) [] s (gM_turns a1 a2 s) := by
  show zE _ _ _ _ _ _ [some (.inr (.inr R)), some (.inl a1), some (.inl a2), none] _ _ _
  unfold gM_turns
  refine zq_6_0 ?_
  refine zr_61 hw rfl ?_
  refine zq_4_1 ?_
  refine zr_65 hw rfl rfl rfl ?_
  refine zq_1 ?_
  refine zq_47 ?_ ?_
  · refine zq_6_0 ?_
    refine zq_1 ?_
    refine zq_92_2v (zR_is hw) rfl rfl (gM_ran_ok (E := E) hw _ _ _) fun _ s13 => ?_
    refine zq_6_0 ?_
    refine zq_4_1 ?_
    refine zq_4_2 ?_
    refine zq_92_3i (zR_is hw) rfl rfl (gM_partTurns_ok (E := E) hw _ _ _ _) fun v14 s15 => ?_
    refine zq_16 ?_
    exact zq_95 rfl
  · refine zq_6_0 ?_
    refine zr_61 hw rfl ?_
    refine zq_4_1 ?_
    refine zr_65 hw rfl rfl rfl ?_
    refine zq_1 ?_
    refine zq_47 ?_ ?_
    · refine zq_6_0 ?_
      refine zq_4_1 ?_
      refine zq_4_2 ?_
      refine zq_92_3i (zR_is hw) rfl rfl (gM_partTurns_ok (E := E) hw _ _ _ _) fun v11 s12 => ?_
      exact zq_95 rfl
    · refine zq_6_0 ?_
      refine zr_61 hw rfl ?_
      refine zq_4_1 ?_
      refine zr_65 hw rfl rfl rfl ?_
      refine zq_1 ?_
      refine zq_47 ?_ ?_
      · refine zq_6_0 ?_
        refine zq_1 ?_
        refine zq_92_2v (zR_is hw) rfl rfl (gM_ran_ok (E := E) hw _ _ _) fun _ s6 => ?_
        refine zq_6_0 ?_
        refine zq_4_1 ?_
        refine zq_4_2 ?_
        refine zq_92_3i (zR_is hw) rfl rfl (gM_holds_ok (E := E) hw _ _ _ _) fun v7 s8 => ?_
        refine zq_7_3 rfl ?_
        refine zq_4_3 ?_
        refine zq_6_0 ?_
        refine zq_4_1 ?_
        refine zq_4_2 ?_
        refine zq_92_3i (zR_is hw) rfl rfl (gM_plainTurns_ok (E := E) hw _ _ _ _) fun v9 s10 => ?_
        refine zq_12 ?_
        exact zq_95 rfl
      · refine zq_6_0 ?_
        refine zq_4_1 ?_
        refine zq_4_2 ?_
        refine zq_92_3i (zR_is hw) rfl rfl (gM_plainTurns_ok (E := E) hw _ _ _ _) fun v4 s5 => ?_
        exact zq_95 rfl
/-! 290: EngraversHouseModel.plainEarns:(II)I -/
noncomputable def gM_plainEarns (a1 : Int) (a2 : Int) (s : zSg) : Option (Int × zSg) :=
  ybd (gM_ran 12 s) fun _ s1 =>
  ybd (gM_turns a1 a2 s1) fun v2 s3 =>
  some (zsub v2 a2, s3)
theorem gM_plainEarns_ok {E : Nat → Nat} {R : Nat} {h0 : zHp} (hw : zRg R h0) (d : Nat) (a1 : Int) (a2 : Int) (s : zSg) : zE (zov R h0) Ji E (d + 7) 290 (zB 290 0) (zent 3 [.inr (.inr R), .inl a1, .inl a2]) [] s (gM_plainEarns a1 a2 s) := by
  show zE _ _ _ _ _ _ [some (.inr (.inr R)), some (.inl a1), some (.inl a2)] _ _ _
  unfold gM_plainEarns
  refine zq_6_0 ?_
  refine zq_1 ?_
  refine zq_92_2v (zR_is hw) rfl rfl (gM_ran_ok (E := E) hw _ _ _) fun _ s1 => ?_
  refine zq_6_0 ?_
  refine zq_4_1 ?_
  refine zq_4_2 ?_
  refine zq_92_3i (zR_is hw) rfl rfl (gM_turns_ok (E := E) hw _ _ _ _) fun v2 s3 => ?_
  refine zq_4_2 ?_
  refine zq_12 ?_
  exact zq_95 rfl
/-! 291: EngraversHouseModel.earns:(II)I -/
noncomputable def gM_earns (a1 : Int) (a2 : Int) (s : zSg) : Option (Int × zSg) :=
  yrd 60 3 a1 s fun v1 =>
  if v1 = 3 then
    (ybd (gM_ran 40 s) fun _ s10 =>
    ybd (gM_plainEarns a1 a2 s10) fun v11 s12 =>
    some (zadd v11 7, s12))
  else
    (yrd 60 3 a1 s fun v2 =>
    if v2 = 6 then
      (ybd (gM_ran 70 s) fun _ s5 =>
      ybd (gM_plainEarns a1 a2 s5) fun v6 s7 =>
      ybd (gM_holds a1 a2 s7) fun v8 s9 =>
      some (zxor v6 v8, s9))
    else
      (ybd (gM_plainEarns a1 a2 s) fun v3 s4 =>
      some (v3, s4)))
theorem gM_earns_ok {E : Nat → Nat} {R : Nat} {h0 : zHp} (hw : zRg R h0) (d : Nat) (a1 : Int) (a2 : Int) (s : zSg) : zE (zov R h0) Ji E (d + 8) 291 (zB 291 0) (zent 4 [.inr (.inr R), .inl a1, .inl a2]) [] s (gM_earns a1 a2 s) := by
  show zE _ _ _ _ _ _ [some (.inr (.inr R)), some (.inl a1), some (.inl a2), none] _ _ _
  unfold gM_earns
  refine zq_6_0 ?_
  refine zr_61 hw rfl ?_
  refine zq_4_1 ?_
  refine zr_65 hw rfl rfl rfl ?_
  refine zq_1 ?_
  refine zq_47 ?_ ?_
  · refine zq_6_0 ?_
    refine zq_1 ?_
    refine zq_92_2v (zR_is hw) rfl rfl (gM_ran_ok (E := E) hw _ _ _) fun _ s10 => ?_
    refine zq_6_0 ?_
    refine zq_4_1 ?_
    refine zq_4_2 ?_
    refine zq_92_3i (zR_is hw) rfl rfl (gM_plainEarns_ok (E := E) hw _ _ _ _) fun v11 s12 => ?_
    refine zq_1 ?_
    refine zq_11 ?_
    exact zq_95 rfl
  · refine zq_6_0 ?_
    refine zr_61 hw rfl ?_
    refine zq_4_1 ?_
    refine zr_65 hw rfl rfl rfl ?_
    refine zq_1 ?_
    refine zq_47 ?_ ?_
    · refine zq_6_0 ?_
      refine zq_1 ?_
      refine zq_92_2v (zR_is hw) rfl rfl (gM_ran_ok (E := E) hw _ _ _) fun _ s5 => ?_
      refine zq_6_0 ?_
      refine zq_4_1 ?_
      refine zq_4_2 ?_
      refine zq_92_3i (zR_is hw) rfl rfl (gM_plainEarns_ok (E := E) hw _ _ _ _) fun v6 s7 => ?_
      refine zq_7_3 rfl ?_
      refine zq_4_3 ?_
      refine zq_6_0 ?_
      refine zq_4_1 ?_
      refine zq_4_2 ?_
      refine zq_92_3i (zR_is hw) rfl rfl (gM_holds_ok (E := E) hw _ _ _ _) fun v8 s9 => ?_
      refine zq_22 ?_
      exact zq_95 rfl
    · refine zq_6_0 ?_
      refine zq_4_1 ?_
      refine zq_4_2 ?_
      refine zq_92_3i (zR_is hw) rfl rfl (gM_plainEarns_ok (E := E) hw _ _ _ _) fun v3 s4 => ?_
      exact zq_95 rfl
/-! 292: EngraversHouseModel.act:(III)I -/
noncomputable def gM_act (a1 : Int) (a2 : Int) (a3 : Int) (s : zSg) : Option (Int × zSg) :=
  yvl (zup s 0 76 0) fun s1 =>
  ybd (gM_isThing a1 s1) fun v2 s3 =>
  if v2 = 0 then
    (some (0, s3))
  else
  ybd (gM_in a2 0 2 s3) fun v4 s5 =>
  if v4 = 0 then
    (some (0, s5))
  else
    (if a2 = 0 then
      (ybd (gM_holds a1 a3 s5) fun v10 s11 =>
      some (v10, s11))
    else
      (if a2 = 1 then
        (ybd (gM_turns a1 a3 s5) fun v8 s9 =>
        some (v8, s9))
      else
        (ybd (gM_earns a1 a3 s5) fun v6 s7 =>
        some (v6, s7))))
theorem gM_act_ok {E : Nat → Nat} {R : Nat} {h0 : zHp} (hw : zRg R h0) (d : Nat) (a1 : Int) (a2 : Int) (a3 : Int) (s : zSg) : zE (zov R h0) Ji E (d + 9) 292 (zB 292 0) (zent 4 [.inr (.inr R), .inl a1, .inl a2, .inl a3]) [] s (gM_act a1 a2 a3 s) := by
  show zE _ _ _ _ _ _ [some (.inr (.inr R)), some (.inl a1), some (.inl a2), some (.inl a3)] _ _ _
  unfold gM_act
  refine zq_6_0 ?_
  refine zq_1 ?_
  refine zE_vl ?_
  refine zr_62 hw rfl ?_
  refine zq_6_0 ?_
  refine zq_4_1 ?_
  refine zq_92_2i (zR_is hw) rfl rfl (gM_isThing_ok (E := E) hw _ _ _) fun v2 s3 => ?_
  refine zq_40 ?_ ?_
  · refine zq_1 ?_
    exact zq_95 rfl
  refine zq_4_2 ?_
  refine zq_1 ?_
  refine zq_1 ?_
  refine zq_90_3i rfl rfl (gM_in_ok (E := E) hw _ _ _ _ _) fun v4 s5 => ?_
  refine zq_41 ?_ ?_
  · refine zq_57 ?_
    refine zq_1 ?_
    exact zq_95 rfl
  · refine zq_4_2 ?_
    refine zq_41 ?_ ?_
    · refine zq_6_0 ?_
      refine zq_4_1 ?_
      refine zq_4_3 ?_
      refine zq_92_3i (zR_is hw) rfl rfl (gM_holds_ok (E := E) hw _ _ _ _) fun v10 s11 => ?_
      refine zq_56 ?_
      exact zq_95 rfl
    · refine zq_4_2 ?_
      refine zq_1 ?_
      refine zq_47 ?_ ?_
      · refine zq_6_0 ?_
        refine zq_4_1 ?_
        refine zq_4_3 ?_
        refine zq_92_3i (zR_is hw) rfl rfl (gM_turns_ok (E := E) hw _ _ _ _) fun v8 s9 => ?_
        refine zq_56 ?_
        exact zq_95 rfl
      · refine zq_6_0 ?_
        refine zq_4_1 ?_
        refine zq_4_3 ?_
        refine zq_92_3i (zR_is hw) rfl rfl (gM_earns_ok (E := E) hw _ _ _ _) fun v6 s7 => ?_
        refine zq_57 ?_
        exact zq_95 rfl
/-! 293: EngraversHouseModel.trace:(I)I -/
noncomputable def gM_trace (a1 : Int) (s : zSg) : Option (Int × zSg) :=
  if a1 < 0 then
    (some ((-1), s))
  else
  if a1 < (s 0 76) then
    (if a1 < 20 then
      (yrd 20 77 a1 s fun v1 =>
      some (v1, s))
    else
      (some ((-1), s)))
  else
    (some ((-1), s))
theorem gM_trace_ok {E : Nat → Nat} {R : Nat} {h0 : zHp} (hw : zRg R h0) (d : Nat) (a1 : Int) (s : zSg) : zE (zov R h0) Ji E (d + 0) 293 (zB 293 0) (zent 2 [.inr (.inr R), .inl a1]) [] s (gM_trace a1 s) := by
  show zE _ _ _ _ _ _ [some (.inr (.inr R)), some (.inl a1)] _ _ _
  unfold gM_trace
  refine zq_4_1 ?_
  refine zq_42 ?_ ?_
  · refine zq_1 ?_
    refine zq_57 ?_
    exact zq_95 rfl
  refine zq_4_1 ?_
  refine zq_6_0 ?_
  refine zr_60 hw rfl ?_
  refine zq_49 ?_ ?_
  · refine zq_4_1 ?_
    refine zq_1 ?_
    refine zq_49 ?_ ?_
    · refine zq_6_0 ?_
      refine zr_61 hw rfl ?_
      refine zq_4_1 ?_
      refine zr_65 hw rfl rfl rfl ?_
      refine zq_56 ?_
      exact zq_95 rfl
    · refine zq_1 ?_
      refine zq_57 ?_
      exact zq_95 rfl
  · refine zq_1 ?_
    refine zq_57 ?_
    exact zq_95 rfl
/-! 294: EngraversHouseModel.taken:(II)I -/
noncomputable def gM_taken (a1 : Int) (a2 : Int) (s : zSg) : Option (Int × zSg) :=
  ybd (gM_in a2 0 7 s) fun v1 s2 =>
  if v1 = 0 then
    (some ((-2), s2))
  else
    (ybd (gM_isThing a1 s2) fun v3 s4 =>
    if v3 = 0 then
      (some ((-11), s4))
    else
      (yrd 60 3 a1 s4 fun v5 =>
      ybd (gM_isUnder v5 a2 s4) fun v6 s7 =>
      if v6 = 0 then
        (some ((-12), s7))
      else
      yrd 60 3 a1 s7 fun v8 =>
      some (v8, s7)))
theorem gM_taken_ok {E : Nat → Nat} {R : Nat} {h0 : zHp} (hw : zRg R h0) (d : Nat) (a1 : Int) (a2 : Int) (s : zSg) : zE (zov R h0) Ji E (d + 2) 294 (zB 294 0) (zent 3 [.inr (.inr R), .inl a1, .inl a2]) [] s (gM_taken a1 a2 s) := by
  show zE _ _ _ _ _ _ [some (.inr (.inr R)), some (.inl a1), some (.inl a2)] _ _ _
  unfold gM_taken
  refine zq_4_2 ?_
  refine zq_1 ?_
  refine zq_1 ?_
  refine zq_90_3i rfl rfl (gM_in_ok (E := E) hw _ _ _ _ _) fun v1 s2 => ?_
  refine zq_41 ?_ ?_
  · refine zq_1 ?_
    exact zq_95 rfl
  · refine zq_6_0 ?_
    refine zq_4_1 ?_
    refine zq_92_2i (zR_is hw) rfl rfl (gM_isThing_ok (E := E) hw _ _ _) fun v3 s4 => ?_
    refine zq_41 ?_ ?_
    · refine zq_1 ?_
      exact zq_95 rfl
    · refine zq_6_0 ?_
      refine zr_61 hw rfl ?_
      refine zq_4_1 ?_
      refine zr_65 hw rfl rfl rfl ?_
      refine zq_4_2 ?_
      refine zq_90_2i rfl rfl (gM_isUnder_ok (E := E) hw _ _ _ _) fun v6 s7 => ?_
      refine zq_40 ?_ ?_
      · refine zq_1 ?_
        refine zq_57 ?_
        exact zq_95 rfl
      refine zq_6_0 ?_
      refine zr_61 hw rfl ?_
      refine zq_4_1 ?_
      refine zr_65 hw rfl rfl rfl ?_
      refine zq_56 ?_
      exact zq_95 rfl
/-! 295: EngraversHouseModel.count:(I)I -/
noncomputable def gM_count (a1 : Int) (s : zSg) : Option (Int × zSg) :=
  if a1 = 0 then
    (some (s 0 1, s))
  else if a1 = 1 then
    (some (s 0 8, s))
  else if a1 = 2 then
    (some (s 0 2, s))
  else if a1 = 3 then
    (some (s 0 44, s))
  else if a1 = 4 then
    (some (s 0 43, s))
  else if a1 = 5 then
    (some (s 0 24, s))
  else if a1 = 6 then
    (some (s 0 65, s))
  else if a1 = 7 then
    (some (s 0 70, s))
  else if a1 = 8 then
    (some (s 0 76, s))
  else some ((-2), s)
theorem gM_count_ok {E : Nat → Nat} {R : Nat} {h0 : zHp} (hw : zRg R h0) (d : Nat) (a1 : Int) (s : zSg) : zE (zov R h0) Ji E (d + 0) 295 (zB 295 0) (zent 2 [.inr (.inr R), .inl a1]) [] s (gM_count a1 s) := by
  show zE _ _ _ _ _ _ [some (.inr (.inr R)), some (.inl a1)] _ _ _
  unfold gM_count
  refine zq_4_1 ?_
  refine zq_58 ?_
  refine zq_sw ?_ ?_
  · refine zq_6_0 ?_
    refine zr_60 hw rfl ?_
    exact zq_95 rfl
  refine zq_sw ?_ ?_
  · refine zq_6_0 ?_
    refine zr_60 hw rfl ?_
    exact zq_95 rfl
  refine zq_sw ?_ ?_
  · refine zq_6_0 ?_
    refine zr_60 hw rfl ?_
    exact zq_95 rfl
  refine zq_sw ?_ ?_
  · refine zq_6_0 ?_
    refine zr_60 hw rfl ?_
    exact zq_95 rfl
  refine zq_sw ?_ ?_
  · refine zq_6_0 ?_
    refine zr_60 hw rfl ?_
    exact zq_95 rfl
  refine zq_sw ?_ ?_
  · refine zq_6_0 ?_
    refine zr_60 hw rfl ?_
    exact zq_95 rfl
  refine zq_sw ?_ ?_
  · refine zq_6_0 ?_
    refine zr_60 hw rfl ?_
    exact zq_95 rfl
  refine zq_sw ?_ ?_
  · refine zq_6_0 ?_
    refine zr_60 hw rfl ?_
    exact zq_95 rfl
  refine zq_sw ?_ ?_
  · refine zq_6_0 ?_
    refine zr_60 hw rfl ?_
    exact zq_95 rfl
  refine zq_1 ?_
  exact zq_95 rfl
/-! 296: EngraversHouseModel.isTape:(I)Z -/
noncomputable def gM_isTape (a0 : Int) (s : zSg) : Option (Int × zSg) :=
  ybd (gM_in a0 0 5 s) fun v1 s2 =>
  yrb v1 s2
theorem gM_isTape_ok {E : Nat → Nat} {R : Nat} {h0 : zHp} (hw : zRg R h0) (d : Nat) (a0 : Int) (s : zSg) : zE (zov R h0) Ji E (d + 1) 296 (zB 296 0) (zent 1 [.inl a0]) [] s (gM_isTape a0 s) := by
  show zE _ _ _ _ _ _ [some (.inl a0)] _ _ _
  unfold gM_isTape
  refine zq_4_0 ?_
  refine zq_1 ?_
  refine zq_1 ?_
  refine zq_90_3i rfl rfl (gM_in_ok (E := E) hw _ _ _ _ _) fun v1 s2 => ?_
  exact zq_96
/-! 297: EngraversHouseModel.tape:(III)I -/
noncomputable def gM_tape_l7 : Nat → Int → Int → zSg → Option (Int × zSg)
  | 0, _, _, _ => none
  | n + 1, x20, x21, s22 =>
   if x21 < (zadd (zmul 60 x20) 60) then
     (ywi 360 80 x21 0 s22 fun s23 =>
     yvl (zadd x21 1) fun v24 =>
     gM_tape_l7 n x20 v24 s23)
   else
     (some (1, s22))
theorem gM_tape_l7_ok {E : Nat → Nat} {R : Nat} {h0 : zHp} (hw : zRg R h0) (d : Nat) : ∀ (n : Nat) (x20 : Int) (x21 : Int) (s22 : zSg), zE (zov R h0) Ji E (d + 2) 297 (zB 297 7) ([some (.inr (.inr R)), some (.inl x20), none, none, some (.inl x21)]) ([]) s22 (gM_tape_l7 n x20 x21 s22) := by
  intro n
  induction n with
  | zero => intro x20 x21 s22; exact zE_none
  | succ n ih =>
    intro x20 x21 s22
    unfold gM_tape_l7
    refine zq_4_4 ?_
    refine zq_1 ?_
    refine zq_4_1 ?_
    refine zq_13 ?_
    refine zq_1 ?_
    refine zq_11 ?_
    refine zq_49 ?_ ?_
    · refine zq_6_0 ?_
      refine zr_61 hw rfl ?_
      refine zq_4_4 ?_
      refine zq_1 ?_
      refine zr_68 hw rfl rfl rfl ?_
      refine zE_vl ?_
      refine zq_10_4 rfl ?_
      refine zq_56 ?_
      exact zE_w [true, true, false, false, true] (ih _ _ _)
    · refine zq_1 ?_
      exact zq_95 rfl
noncomputable def gM_tape (a1 : Int) (a2 : Int) (a3 : Int) (s : zSg) : Option (Int × zSg) :=
  ybd (gM_isTape a1 s) fun v1 s2 =>
  if v1 = 0 then
    (some ((-1), s2))
  else
    (yjn (fun (x3 : Int) (x4 : Int) (x5 : Int) (s6 : zSg) =>
     yjn (fun (x8 : Int) (x9 : Int) (x10 : Int) (s11 : zSg) =>
      yjn (fun (x13 : Int) (x14 : Int) (x15 : Int) (s16 : zSg) =>
       ywi 6 79 x14 x15 s16 fun s18 =>
       yvl (zmul 60 x13) fun v19 =>
       gM_tape_l7 zFU x13 v19 s18) fun q17 =>
       ywi 6 78 x8 x9 s11 fun s25 =>
      if x9 < 0 then
        (q17 x8 x8 0 s25)
      else
        (q17 x8 x8 x10 s25)) fun q12 =>
      if x4 < 0 then
       (q12 x3 x4 x5 s6)
     else
     if x5 < 0 then
       (some ((-14), s6))
     else
       (q12 x3 x4 x5 s6)) fun q7 =>
     ybd (gM_in a2 (-1) 3 s2) fun v26 s27 =>
    if v26 = 0 then
      (some ((-2), s27))
    else
    if a2 < 0 then
      (q7 a1 a2 a3 s27)
    else
    if 60 < a3 then
      (some ((-2), s27))
    else
      (q7 a1 a2 a3 s27))
theorem gM_tape_ok {E : Nat → Nat} {R : Nat} {h0 : zHp} (hw : zRg R h0) (d : Nat) (a1 : Int) (a2 : Int) (a3 : Int) (s : zSg) : zE (zov R h0) Ji E (d + 2) 297 (zB 297 0) (zent 5 [.inr (.inr R), .inl a1, .inl a2, .inl a3]) [] s (gM_tape a1 a2 a3 s) := by
  show zE _ _ _ _ _ _ [some (.inr (.inr R)), some (.inl a1), some (.inl a2), some (.inl a3), none] _ _ _
  unfold gM_tape
  refine zq_4_1 ?_
  refine zq_90_1i rfl rfl (gM_isTape_ok (E := E) hw _ _ _) fun v1 s2 => ?_
  refine zq_41 ?_ ?_
  · refine zq_1 ?_
    exact zq_95 rfl
  · refine zE_jn (fun q7 => ∀ (y0 : Int) (y1 : Int) (y2 : Int) (s : zSg), zE (zov R h0) Ji E (d + 2) 297 (zB 297 3) ([some (.inr (.inr R)), some (.inl y0), some (.inl y1), some (.inl y2), none]) ([]) s (q7 y0 y1 y2 s)) (fun x3 x4 x5 s6 => ?_) (fun q7 hq7 => ?_)
    · refine zE_jn (fun q12 => ∀ (y0 : Int) (y1 : Int) (y2 : Int) (s : zSg), zE (zov R h0) Ji E (d + 2) 297 (zB 297 4) ([some (.inr (.inr R)), some (.inl y0), some (.inl y1), some (.inl y2), none]) ([]) s (q12 y0 y1 y2 s)) (fun x8 x9 x10 s11 => ?_) (fun q12 hq12 => ?_)
      · refine zE_jn (fun q17 => ∀ (y0 : Int) (y1 : Int) (y2 : Int) (s : zSg), zE (zov R h0) Ji E (d + 2) 297 (zB 297 6) ([some (.inr (.inr R)), some (.inl y0), none, none, none]) ([.inl y2, .inl y1, .inr (.inr (zra R 79))]) s (q17 y0 y1 y2 s)) (fun x13 x14 x15 s16 => ?_) (fun q17 hq17 => ?_)
        · refine zr_68 hw rfl rfl rfl ?_
          refine zq_1 ?_
          refine zq_4_1 ?_
          refine zq_13 ?_
          refine zE_vl ?_
          refine zq_7_4 rfl ?_
          refine zq_57 ?_
          exact zE_w [true, true, false, false, true] (gM_tape_l7_ok (E := E) hw d zFU _ _ _)
        refine zq_6_0 ?_
        refine zr_61 hw rfl ?_
        refine zq_4_1 ?_
        refine zq_4_2 ?_
        refine zr_68 hw rfl rfl rfl ?_
        refine zq_6_0 ?_
        refine zr_61 hw rfl ?_
        refine zq_4_1 ?_
        refine zq_4_2 ?_
        refine zq_43 ?_ ?_
        · refine zq_1 ?_
          refine zq_56 ?_
          exact zE_w [true, true, false, false, false] (hq17 _ _ _ _)
        · refine zq_4_3 ?_
          refine zq_57 ?_
          exact zE_w [true, true, false, false, false] (hq17 _ _ _ _)
      refine zq_4_2 ?_
      refine zq_42 ?_ ?_
      · exact zE_w [true, true, true, true, false] (hq12 _ _ _ _)
      refine zq_4_3 ?_
      refine zq_43 ?_ ?_
      · refine zq_1 ?_
        exact zq_95 rfl
      · exact zE_w [true, true, true, true, false] (hq12 _ _ _ _)
    refine zq_4_2 ?_
    refine zq_1 ?_
    refine zq_1 ?_
    refine zq_90_3i rfl rfl (gM_in_ok (E := E) hw _ _ _ _ _) fun v26 s27 => ?_
    refine zq_40 ?_ ?_
    · refine zq_1 ?_
      exact zq_95 rfl
    refine zq_4_2 ?_
    refine zq_42 ?_ ?_
    · exact zE_w [true, true, true, true, false] (hq7 _ _ _ _)
    refine zq_4_3 ?_
    refine zq_1 ?_
    refine zq_51 ?_ ?_
    · refine zq_57 ?_
      refine zq_1 ?_
      exact zq_95 rfl
    · exact zE_w [true, true, true, true, false] (hq7 _ _ _ _)
/-! 298: EngraversHouseModel.item:(III)I -/
noncomputable def gM_item (a1 : Int) (a2 : Int) (a3 : Int) (s : zSg) : Option (Int × zSg) :=
  ybd (gM_isTape a1 s) fun v1 s2 =>
  if v1 = 0 then
    (some ((-1), s2))
  else
    (yrd 6 78 a1 s2 fun v3 =>
    if v3 < 0 then
      (some ((-11), s2))
    else
      (yrd 6 79 a1 s2 fun v4 =>
      ybd (gM_in a2 0 (zsub v4 1) s2) fun v5 s6 =>
      if v5 = 0 then
        (some ((-13), s6))
      else
        (yjn (fun (x7 : Int) (x8 : Int) (s9 : zSg) =>
         ywi 360 80 x7 x8 s9 fun s11 =>
         some (1, s11)) fun q10 =>
         yrd 6 78 a1 s6 fun v12 =>
        if v12 = 0 then
          (q10 (zadd (zmul 60 a1) a2) (zi2b a3) s6)
        else
          (yrd 6 78 a1 s6 fun v13 =>
          if v13 = 1 then
            (q10 (zadd (zmul 60 a1) a2) (zi2s a3) s6)
          else
            (yrd 6 78 a1 s6 fun v14 =>
            if v14 = 2 then
              (q10 (zadd (zmul 60 a1) a2) a3 s6)
            else
              (if a3 = 0 then
                (q10 (zadd (zmul 60 a1) a2) 0 s6)
              else
              q10 (zadd (zmul 60 a1) a2) 1 s6))))))
theorem gM_item_ok {E : Nat → Nat} {R : Nat} {h0 : zHp} (hw : zRg R h0) (d : Nat) (a1 : Int) (a2 : Int) (a3 : Int) (s : zSg) : zE (zov R h0) Ji E (d + 2) 298 (zB 298 0) (zent 4 [.inr (.inr R), .inl a1, .inl a2, .inl a3]) [] s (gM_item a1 a2 a3 s) := by
  show zE _ _ _ _ _ _ [some (.inr (.inr R)), some (.inl a1), some (.inl a2), some (.inl a3)] _ _ _
  unfold gM_item
  refine zq_4_1 ?_
  refine zq_90_1i rfl rfl (gM_isTape_ok (E := E) hw _ _ _) fun v1 s2 => ?_
  refine zq_41 ?_ ?_
  · refine zq_1 ?_
    exact zq_95 rfl
  · refine zq_6_0 ?_
    refine zr_61 hw rfl ?_
    refine zq_4_1 ?_
    refine zr_65 hw rfl rfl rfl ?_
    refine zq_43 ?_ ?_
    · refine zq_1 ?_
      exact zq_95 rfl
    · refine zq_4_2 ?_
      refine zq_1 ?_
      refine zq_6_0 ?_
      refine zr_61 hw rfl ?_
      refine zq_4_1 ?_
      refine zr_65 hw rfl rfl rfl ?_
      refine zq_1 ?_
      refine zq_12 ?_
      refine zq_90_3i rfl rfl (gM_in_ok (E := E) hw _ _ _ _ _) fun v5 s6 => ?_
      refine zq_41 ?_ ?_
      · refine zq_1 ?_
        exact zq_95 rfl
      · refine zE_jn (fun q10 => ∀ (y0 : Int) (y1 : Int) (s : zSg), zE (zov R h0) Ji E (d + 2) 298 (zB 298 8) ([none, none, none, none]) ([.inl y1, .inl y0, .inr (.inr (zra R 80))]) s (q10 y0 y1 s)) (fun x7 x8 s9 => ?_) (fun q10 hq10 => ?_)
        · refine zr_68 hw rfl rfl rfl ?_
          refine zq_1 ?_
          exact zq_95 rfl
        refine zq_6_0 ?_
        refine zr_61 hw rfl ?_
        refine zq_1 ?_
        refine zq_4_1 ?_
        refine zq_13 ?_
        refine zq_4_2 ?_
        refine zq_11 ?_
        refine zq_6_0 ?_
        refine zr_61 hw rfl ?_
        refine zq_4_1 ?_
        refine zr_65 hw rfl rfl rfl ?_
        refine zq_41 ?_ ?_
        · refine zq_4_3 ?_
          refine zq_25 ?_
          refine zq_56 ?_
          exact zE_w [false, false, false, false] (hq10 _ _ _)
        · refine zq_6_0 ?_
          refine zr_61 hw rfl ?_
          refine zq_4_1 ?_
          refine zr_65 hw rfl rfl rfl ?_
          refine zq_1 ?_
          refine zq_47 ?_ ?_
          · refine zq_4_3 ?_
            refine zq_26 ?_
            refine zq_56 ?_
            exact zE_w [false, false, false, false] (hq10 _ _ _)
          · refine zq_6_0 ?_
            refine zr_61 hw rfl ?_
            refine zq_4_1 ?_
            refine zr_65 hw rfl rfl rfl ?_
            refine zq_1 ?_
            refine zq_47 ?_ ?_
            · refine zq_4_3 ?_
              refine zq_56 ?_
              exact zE_w [false, false, false, false] (hq10 _ _ _)
            · refine zq_4_3 ?_
              refine zq_40 ?_ ?_
              · refine zq_1 ?_
                refine zq_57 ?_
                exact zE_w [false, false, false, false] (hq10 _ _ _)
              refine zq_1 ?_
              refine zq_56 ?_
              exact zE_w [false, false, false, false] (hq10 _ _ _)
/-! 299: EngraversHouseModel.read:(II)J -/
noncomputable def gM_read (a1 : Int) (a2 : Int) (s : zSg) : Option (Int × zSg) :=
  ybd (gM_isTape a1 s) fun v1 s2 =>
  if v1 = 0 then
    (some ((-9223372036854775808), s2))
  else
  yrd 6 78 a1 s2 fun v3 =>
  if v3 < 0 then
    (some ((-9223372036854775808), s2))
  else
  yrd 6 79 a1 s2 fun v4 =>
  ybd (gM_in a2 0 (zsub v4 1) s2) fun v5 s6 =>
  if v5 = 0 then
    (some ((-9223372036854775808), s6))
  else
  yrd 360 80 (zadd (zmul 60 a1) a2) s6 fun v7 =>
  some (zi2l v7, s6)
theorem gM_read_ok {E : Nat → Nat} {R : Nat} {h0 : zHp} (hw : zRg R h0) (d : Nat) (a1 : Int) (a2 : Int) (s : zSg) : zE (zov R h0) Jl E (d + 2) 299 (zB 299 0) (zent 3 [.inr (.inr R), .inl a1, .inl a2]) [] s (gM_read a1 a2 s) := by
  show zE _ _ _ _ _ _ [some (.inr (.inr R)), some (.inl a1), some (.inl a2)] _ _ _
  unfold gM_read
  refine zq_4_1 ?_
  refine zq_90_1i rfl rfl (gM_isTape_ok (E := E) hw _ _ _) fun v1 s2 => ?_
  refine zq_40 ?_ ?_
  · refine zq_2 ?_
    refine zq_57 ?_
    exact zq_99
  refine zq_6_0 ?_
  refine zr_61 hw rfl ?_
  refine zq_4_1 ?_
  refine zr_65 hw rfl rfl rfl ?_
  refine zq_42 ?_ ?_
  · refine zq_2 ?_
    refine zq_57 ?_
    exact zq_99
  refine zq_4_2 ?_
  refine zq_1 ?_
  refine zq_6_0 ?_
  refine zr_61 hw rfl ?_
  refine zq_4_1 ?_
  refine zr_65 hw rfl rfl rfl ?_
  refine zq_1 ?_
  refine zq_12 ?_
  refine zq_90_3i rfl rfl (gM_in_ok (E := E) hw _ _ _ _ _) fun v5 s6 => ?_
  refine zq_40 ?_ ?_
  · refine zq_2 ?_
    refine zq_57 ?_
    exact zq_99
  refine zq_6_0 ?_
  refine zr_61 hw rfl ?_
  refine zq_1 ?_
  refine zq_4_1 ?_
  refine zq_13 ?_
  refine zq_4_2 ?_
  refine zq_11 ?_
  refine zr_65 hw rfl rfl rfl ?_
  refine zq_23 ?_
  refine zq_56 ?_
  exact zq_99
/-! 300: EngraversHouseModel.shift:(IIIII)I -/
noncomputable def gM_shift_l8 : Nat → Int → Int → Int → Int → Int → Int → zSg → (Int → Int → Int → zSg → Option (Int × zSg)) → Option (Int × zSg)
  | 0, _, _, _, _, _, _, _, _ => none
  | n + 1, x11, x12, x13, x14, x15, x16, s17, k18 =>
   if x16 < x15 then
     (yrd 360 80 (zadd (zadd (zmul 60 x11) x12) x16) s17 fun v19 =>
     ywi 60 81 x16 v19 s17 fun s20 =>
     yvl (zadd x16 1) fun v21 =>
     gM_shift_l8 n x11 x12 x13 x14 x15 v21 s20 k18)
   else
     (k18 x13 x14 x15 s17)
theorem gM_shift_l8_ok {E : Nat → Nat} {R : Nat} {h0 : zHp} (hw : zRg R h0) (d : Nat) : ∀ (n : Nat) (x11 : Int) (x12 : Int) (x13 : Int) (x14 : Int) (x15 : Int) (x16 : Int) (s17 : zSg) (k18 : Int → Int → Int → zSg → Option (Int × zSg)) (hk18 : ∀ (y0 : Int) (y1 : Int) (y2 : Int) (s : zSg), zE (zov R h0) Ji E (d + 2) 300 (zB 300 9) ([some (.inr (.inr R)), none, none, some (.inl y0), some (.inl y1), some (.inl y2), none]) ([]) s (k18 y0 y1 y2 s)), zE (zov R h0) Ji E (d + 2) 300 (zB 300 8) ([some (.inr (.inr R)), some (.inl x11), some (.inl x12), some (.inl x13), some (.inl x14), some (.inl x15), some (.inl x16)]) ([]) s17 (gM_shift_l8 n x11 x12 x13 x14 x15 x16 s17 k18) := by
  intro n
  induction n with
  | zero => intro x11 x12 x13 x14 x15 x16 s17 k18 hk18; exact zE_none
  | succ n ih =>
    intro x11 x12 x13 x14 x15 x16 s17 k18 hk18
    unfold gM_shift_l8
    refine zq_4_6 ?_
    refine zq_4_5 ?_
    refine zq_49 ?_ ?_
    · refine zq_6_0 ?_
      refine zr_61 hw rfl ?_
      refine zq_4_6 ?_
      refine zq_6_0 ?_
      refine zr_61 hw rfl ?_
      refine zq_1 ?_
      refine zq_4_1 ?_
      refine zq_13 ?_
      refine zq_4_2 ?_
      refine zq_11 ?_
      refine zq_4_6 ?_
      refine zq_11 ?_
      refine zr_65 hw rfl rfl rfl ?_
      refine zr_68 hw rfl rfl rfl ?_
      refine zE_vl ?_
      refine zq_10_6 rfl ?_
      refine zq_56 ?_
      exact zE_w [true, true, true, true, true, true, true] (ih _ _ _ _ _ _ _ _ hk18)
    · exact zE_w [true, false, false, true, true, true, false] (hk18 _ _ _ _)
noncomputable def gM_shift_l10 : Nat → Int → Int → Int → Int → zSg → Option (Int × zSg)
  | 0, _, _, _, _, _ => none
  | n + 1, x26, x27, x28, x29, s30 =>
   if x29 < x28 then
     (yrd 60 81 x29 s30 fun v31 =>
     ywi 360 80 (zadd (zadd (zmul 60 x26) x27) x29) v31 s30 fun s32 =>
     yvl (zadd x29 1) fun v33 =>
     gM_shift_l10 n x26 x27 x28 v33 s32)
   else
     (some (x28, s30))
theorem gM_shift_l10_ok {E : Nat → Nat} {R : Nat} {h0 : zHp} (hw : zRg R h0) (d : Nat) : ∀ (n : Nat) (x26 : Int) (x27 : Int) (x28 : Int) (x29 : Int) (s30 : zSg), zE (zov R h0) Ji E (d + 2) 300 (zB 300 10) ([some (.inr (.inr R)), none, none, some (.inl x26), some (.inl x27), some (.inl x28), some (.inl x29)]) ([]) s30 (gM_shift_l10 n x26 x27 x28 x29 s30) := by
  intro n
  induction n with
  | zero => intro x26 x27 x28 x29 s30; exact zE_none
  | succ n ih =>
    intro x26 x27 x28 x29 s30
    unfold gM_shift_l10
    refine zq_4_6 ?_
    refine zq_4_5 ?_
    refine zq_49 ?_ ?_
    · refine zq_6_0 ?_
      refine zr_61 hw rfl ?_
      refine zq_1 ?_
      refine zq_4_3 ?_
      refine zq_13 ?_
      refine zq_4_4 ?_
      refine zq_11 ?_
      refine zq_4_6 ?_
      refine zq_11 ?_
      refine zq_6_0 ?_
      refine zr_61 hw rfl ?_
      refine zq_4_6 ?_
      refine zr_65 hw rfl rfl rfl ?_
      refine zr_68 hw rfl rfl rfl ?_
      refine zE_vl ?_
      refine zq_10_6 rfl ?_
      refine zq_56 ?_
      exact zE_w [true, false, false, true, true, true, true] (ih _ _ _ _ _)
    · refine zq_4_5 ?_
      exact zq_95 rfl
noncomputable def gM_shift (a1 : Int) (a2 : Int) (a3 : Int) (a4 : Int) (a5 : Int) (s : zSg) : Option (Int × zSg) :=
  ybd (gM_isTape a1 s) fun v1 s2 =>
  if v1 = 0 then
    (some ((-1), s2))
  else
  ybd (gM_isTape a3 s2) fun v3 s4 =>
  if v3 = 0 then
    (some ((-1), s4))
  else
    (yrd 6 78 a1 s4 fun v5 =>
    if v5 < 0 then
      (some ((-11), s4))
    else
    yrd 6 78 a3 s4 fun v6 =>
    if v6 < 0 then
      (some ((-11), s4))
    else
      (yrd 6 78 a1 s4 fun v7 =>
      yrd 6 78 a3 s4 fun v8 =>
      if v7 = v8 then
        (if a5 < 0 then
          (some ((-13), s4))
        else
        if a2 < 0 then
          (some ((-13), s4))
        else
        if a4 < 0 then
          (some ((-13), s4))
        else
        yrd 6 79 a1 s4 fun v9 =>
        if (zsub v9 a5) < a2 then
          (some ((-13), s4))
        else
        yrd 6 79 a3 s4 fun v10 =>
        if (zsub v10 a5) < a4 then
          (some ((-13), s4))
        else
          (gM_shift_l8 zFU a1 a2 a3 a4 a5 0 s4 (fun (x22 : Int) (x23 : Int) (x24 : Int) (s25 : zSg) =>
           gM_shift_l10 zFU x22 x23 x24 0 s25)))
      else
      some ((-12), s4)))
theorem gM_shift_ok {E : Nat → Nat} {R : Nat} {h0 : zHp} (hw : zRg R h0) (d : Nat) (a1 : Int) (a2 : Int) (a3 : Int) (a4 : Int) (a5 : Int) (s : zSg) : zE (zov R h0) Ji E (d + 2) 300 (zB 300 0) (zent 7 [.inr (.inr R), .inl a1, .inl a2, .inl a3, .inl a4, .inl a5]) [] s (gM_shift a1 a2 a3 a4 a5 s) := by
  show zE _ _ _ _ _ _ [some (.inr (.inr R)), some (.inl a1), some (.inl a2), some (.inl a3), some (.inl a4), some (.inl a5), none] _ _ _
  unfold gM_shift
  refine zq_4_1 ?_
  refine zq_90_1i rfl rfl (gM_isTape_ok (E := E) hw _ _ _) fun v1 s2 => ?_
  refine zq_40 ?_ ?_
  · refine zq_1 ?_
    exact zq_95 rfl
  refine zq_4_3 ?_
  refine zq_90_1i rfl rfl (gM_isTape_ok (E := E) hw _ _ _) fun v3 s4 => ?_
  refine zq_41 ?_ ?_
  · refine zq_57 ?_
    refine zq_1 ?_
    exact zq_95 rfl
  · refine zq_6_0 ?_
    refine zr_61 hw rfl ?_
    refine zq_4_1 ?_
    refine zr_65 hw rfl rfl rfl ?_
    refine zq_42 ?_ ?_
    · refine zq_1 ?_
      exact zq_95 rfl
    refine zq_6_0 ?_
    refine zr_61 hw rfl ?_
    refine zq_4_3 ?_
    refine zr_65 hw rfl rfl rfl ?_
    refine zq_43 ?_ ?_
    · refine zq_57 ?_
      refine zq_1 ?_
      exact zq_95 rfl
    · refine zq_6_0 ?_
      refine zr_61 hw rfl ?_
      refine zq_4_1 ?_
      refine zr_65 hw rfl rfl rfl ?_
      refine zq_6_0 ?_
      refine zr_61 hw rfl ?_
      refine zq_4_3 ?_
      refine zr_65 hw rfl rfl rfl ?_
      refine zq_46 ?_ ?_
      · refine zq_4_5 ?_
        refine zq_42 ?_ ?_
        · refine zq_1 ?_
          exact zq_95 rfl
        refine zq_4_2 ?_
        refine zq_42 ?_ ?_
        · refine zq_1 ?_
          exact zq_95 rfl
        refine zq_4_4 ?_
        refine zq_42 ?_ ?_
        · refine zq_1 ?_
          exact zq_95 rfl
        refine zq_4_2 ?_
        refine zq_6_0 ?_
        refine zr_61 hw rfl ?_
        refine zq_4_1 ?_
        refine zr_65 hw rfl rfl rfl ?_
        refine zq_4_5 ?_
        refine zq_12 ?_
        refine zq_50 ?_ ?_
        · refine zq_1 ?_
          exact zq_95 rfl
        refine zq_4_4 ?_
        refine zq_6_0 ?_
        refine zr_61 hw rfl ?_
        refine zq_4_3 ?_
        refine zr_65 hw rfl rfl rfl ?_
        refine zq_4_5 ?_
        refine zq_12 ?_
        refine zq_51 ?_ ?_
        · refine zq_57 ?_
          refine zq_1 ?_
          exact zq_95 rfl
        · refine zq_1 ?_
          refine zq_7_6 rfl ?_
          refine zq_57 ?_
          refine zE_w [true, true, true, true, true, true, true] (gM_shift_l8_ok (E := E) hw d zFU _ _ _ _ _ _ _ _ (fun x22 x23 x24 s25 => ?_))
          refine zq_1 ?_
          refine zq_7_6 rfl ?_
          refine zq_57 ?_
          exact zE_w [true, false, false, true, true, true, true] (gM_shift_l10_ok (E := E) hw d zFU _ _ _ _ _)
      refine zq_1 ?_
      exact zq_95 rfl
