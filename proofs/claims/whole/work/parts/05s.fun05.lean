/-! 199: EngraversHouseModel.isThing:(I)Z -/
noncomputable def gM_isThing (a1 : Int) (s : zSg) : Option (Int × zSg) :=
  ybd (gM_in a1 0 (zsub (s 0 2) 1) s) fun v1 s2 =>
  yrb v1 s2
theorem gM_isThing_ok {E : Nat → Nat} {R : Nat} {h0 : zHp} (hw : zRg R h0) (d : Nat) (a1 : Int) (s : zSg) : zE (zov R h0) Ji E (d + 1) 199 (zB 199 0) (zent 2 [.inr (.inr R), .inl a1]) [] s (gM_isThing a1 s) := by
  show zE _ _ _ _ _ _ [some (.inr (.inr R)), some (.inl a1)] _ _ _
  unfold gM_isThing
  refine zq_4_1 ?_
  refine zq_1 ?_
  refine zq_6_0 ?_
  refine zr_60 hw rfl ?_
  refine zq_1 ?_
  refine zq_12 ?_
  refine zq_90_3i rfl rfl (gM_in_ok (E := E) hw _ _ _ _ _) fun v1 s2 => ?_
  exact zq_96
/-! 200: EngraversHouseModel.isUnder:(II)Z -/
noncomputable def gM_isUnder (a0 : Int) (a1 : Int) (s : zSg) : Option (Int × zSg) :=
  if a1 = 0 then
    (some (1, s))
  else
  if a0 = a1 then
    (some (1, s))
  else
    (if a1 = 1 then
      (if a0 = 2 then
        (some (1, s))
      else
      if a0 = 5 then
        (some (1, s))
      else
      if a0 = 6 then
        (some (1, s))
      else
        (some (0, s)))
    else
      (if a1 = 2 then
        (if a0 = 5 then
          (some (1, s))
        else
          (some (0, s)))
      else
        (some (0, s))))
theorem gM_isUnder_ok {E : Nat → Nat} {R : Nat} {h0 : zHp} (hw : zRg R h0) (d : Nat) (a0 : Int) (a1 : Int) (s : zSg) : zE (zov R h0) Ji E (d + 0) 200 (zB 200 0) (zent 2 [.inl a0, .inl a1]) [] s (gM_isUnder a0 a1 s) := by
  show zE _ _ _ _ _ _ [some (.inl a0), some (.inl a1)] _ _ _
  unfold gM_isUnder
  refine zq_4_1 ?_
  refine zq_40 ?_ ?_
  · refine zq_1 ?_
    exact zq_96c (by decide)
  refine zq_4_0 ?_
  refine zq_4_1 ?_
  refine zq_47 ?_ ?_
  · refine zq_57 ?_
    refine zq_1 ?_
    exact zq_96c (by decide)
  · refine zq_4_1 ?_
    refine zq_1 ?_
    refine zq_47 ?_ ?_
    · refine zq_4_0 ?_
      refine zq_1 ?_
      refine zq_46 ?_ ?_
      · refine zq_1 ?_
        refine zq_56 ?_
        exact zq_96c (by decide)
      refine zq_4_0 ?_
      refine zq_1 ?_
      refine zq_46 ?_ ?_
      · refine zq_1 ?_
        refine zq_56 ?_
        exact zq_96c (by decide)
      refine zq_4_0 ?_
      refine zq_1 ?_
      refine zq_47 ?_ ?_
      · refine zq_57 ?_
        refine zq_1 ?_
        refine zq_56 ?_
        exact zq_96c (by decide)
      · refine zq_1 ?_
        refine zq_57 ?_
        exact zq_96c (by decide)
    · refine zq_4_1 ?_
      refine zq_1 ?_
      refine zq_47 ?_ ?_
      · refine zq_4_0 ?_
        refine zq_1 ?_
        refine zq_47 ?_ ?_
        · refine zq_1 ?_
          refine zq_56 ?_
          exact zq_96c (by decide)
        · refine zq_1 ?_
          refine zq_57 ?_
          exact zq_96c (by decide)
      · refine zq_1 ?_
        refine zq_57 ?_
        exact zq_96c (by decide)
/-! 201: EngraversHouseModel.isMusic:(I)Z -/
noncomputable def gM_isMusic (a1 : Int) (s : zSg) : Option (Int × zSg) :=
  yrd 60 3 a1 s fun v1 =>
  if v1 = 1 then
    (some (1, s))
  else
  yrd 60 3 a1 s fun v2 =>
  if v2 = 6 then
    (some (1, s))
  else
    (some (0, s))
theorem gM_isMusic_ok {E : Nat → Nat} {R : Nat} {h0 : zHp} (hw : zRg R h0) (d : Nat) (a1 : Int) (s : zSg) : zE (zov R h0) Ji E (d + 0) 201 (zB 201 0) (zent 2 [.inr (.inr R), .inl a1]) [] s (gM_isMusic a1 s) := by
  show zE _ _ _ _ _ _ [some (.inr (.inr R)), some (.inl a1)] _ _ _
  unfold gM_isMusic
  refine zq_6_0 ?_
  refine zr_61 hw rfl ?_
  refine zq_4_1 ?_
  refine zr_65 hw rfl rfl rfl ?_
  refine zq_1 ?_
  refine zq_46 ?_ ?_
  · refine zq_1 ?_
    refine zq_56 ?_
    exact zq_96c (by decide)
  refine zq_6_0 ?_
  refine zr_61 hw rfl ?_
  refine zq_4_1 ?_
  refine zr_65 hw rfl rfl rfl ?_
  refine zq_1 ?_
  refine zq_47 ?_ ?_
  · refine zq_57 ?_
    refine zq_1 ?_
    refine zq_56 ?_
    exact zq_96c (by decide)
  · refine zq_1 ?_
    refine zq_57 ?_
    exact zq_96c (by decide)
/-! 202: EngraversHouseModel.isPart:(I)Z -/
noncomputable def gM_isPart (a1 : Int) (s : zSg) : Option (Int × zSg) :=
  yrd 60 3 a1 s fun v1 =>
  if v1 = 2 then
    (some (1, s))
  else
  yrd 60 3 a1 s fun v2 =>
  if v2 = 5 then
    (some (1, s))
  else
    (some (0, s))
theorem gM_isPart_ok {E : Nat → Nat} {R : Nat} {h0 : zHp} (hw : zRg R h0) (d : Nat) (a1 : Int) (s : zSg) : zE (zov R h0) Ji E (d + 0) 202 (zB 202 0) (zent 2 [.inr (.inr R), .inl a1]) [] s (gM_isPart a1 s) := by
  show zE _ _ _ _ _ _ [some (.inr (.inr R)), some (.inl a1)] _ _ _
  unfold gM_isPart
  refine zq_6_0 ?_
  refine zr_61 hw rfl ?_
  refine zq_4_1 ?_
  refine zr_65 hw rfl rfl rfl ?_
  refine zq_1 ?_
  refine zq_46 ?_ ?_
  · refine zq_1 ?_
    refine zq_56 ?_
    exact zq_96c (by decide)
  refine zq_6_0 ?_
  refine zr_61 hw rfl ?_
  refine zq_4_1 ?_
  refine zr_65 hw rfl rfl rfl ?_
  refine zq_1 ?_
  refine zq_47 ?_ ?_
  · refine zq_57 ?_
    refine zq_1 ?_
    refine zq_56 ?_
    exact zq_96c (by decide)
  · refine zq_1 ?_
    refine zq_57 ?_
    exact zq_96c (by decide)
/-! 203: EngraversHouseModel.add:(IIII)I -/
noncomputable def gM_add (a1 : Int) (a2 : Int) (a3 : Int) (a4 : Int) (s : zSg) : Option (Int × zSg) :=
  yvl (s 0 2) fun v1 =>
  ywi 60 3 v1 a1 s fun s2 =>
  ywi 60 4 v1 a2 s2 fun s3 =>
  ywi 60 5 v1 a3 s3 fun s4 =>
  ywi 60 6 v1 a4 s4 fun s5 =>
  yvl (zup s5 0 2 (zadd (s5 0 2) 1)) fun s6 =>
  some (v1, s6)
theorem gM_add_ok {E : Nat → Nat} {R : Nat} {h0 : zHp} (hw : zRg R h0) (d : Nat) (a1 : Int) (a2 : Int) (a3 : Int) (a4 : Int) (s : zSg) : zE (zov R h0) Ji E (d + 0) 203 (zB 203 0) (zent 6 [.inr (.inr R), .inl a1, .inl a2, .inl a3, .inl a4]) [] s (gM_add a1 a2 a3 a4 s) := by
  show zE _ _ _ _ _ _ [some (.inr (.inr R)), some (.inl a1), some (.inl a2), some (.inl a3), some (.inl a4), none] _ _ _
  unfold gM_add
  refine zq_6_0 ?_
  refine zr_60 hw rfl ?_
  refine zE_vl ?_
  refine zq_7_5 rfl ?_
  refine zq_6_0 ?_
  refine zr_61 hw rfl ?_
  refine zq_4_5 ?_
  refine zq_4_1 ?_
  refine zr_68 hw rfl rfl rfl ?_
  refine zq_6_0 ?_
  refine zr_61 hw rfl ?_
  refine zq_4_5 ?_
  refine zq_4_2 ?_
  refine zr_68 hw rfl rfl rfl ?_
  refine zq_6_0 ?_
  refine zr_61 hw rfl ?_
  refine zq_4_5 ?_
  refine zq_4_3 ?_
  refine zr_68 hw rfl rfl rfl ?_
  refine zq_6_0 ?_
  refine zr_61 hw rfl ?_
  refine zq_4_5 ?_
  refine zq_4_4 ?_
  refine zr_68 hw rfl rfl rfl ?_
  refine zq_6_0 ?_
  refine zq_33 ?_
  refine zr_60 hw rfl ?_
  refine zq_1 ?_
  refine zq_11 ?_
  refine zE_vl ?_
  refine zr_62 hw rfl ?_
  refine zq_4_5 ?_
  exact zq_95 rfl
/-! 204: EngraversHouseModel.pass:(I)I -/
noncomputable def gM_pass (a1 : Int) (s : zSg) : Option (Int × zSg) :=
  ybd (gM_in a1 1 400 s) fun v1 s2 =>
  if v1 = 0 then
    (some ((-2), s2))
  else
  if 9999 < (zadd (s2 0 1) a1) then
    (some ((-2), s2))
  else
    (yvl (zup s2 0 1 (zadd (s2 0 1) a1)) fun s3 =>
    some (s3 0 1, s3))
theorem gM_pass_ok {E : Nat → Nat} {R : Nat} {h0 : zHp} (hw : zRg R h0) (d : Nat) (a1 : Int) (s : zSg) : zE (zov R h0) Ji E (d + 1) 204 (zB 204 0) (zent 2 [.inr (.inr R), .inl a1]) [] s (gM_pass a1 s) := by
  show zE _ _ _ _ _ _ [some (.inr (.inr R)), some (.inl a1)] _ _ _
  unfold gM_pass
  refine zq_4_1 ?_
  refine zq_1 ?_
  refine zq_1 ?_
  refine zq_90_3i rfl rfl (gM_in_ok (E := E) hw _ _ _ _ _) fun v1 s2 => ?_
  refine zq_40 ?_ ?_
  · refine zq_1 ?_
    exact zq_95 rfl
  refine zq_6_0 ?_
  refine zr_60 hw rfl ?_
  refine zq_4_1 ?_
  refine zq_11 ?_
  refine zq_1 ?_
  refine zq_51 ?_ ?_
  · refine zq_57 ?_
    refine zq_1 ?_
    exact zq_95 rfl
  · refine zq_6_0 ?_
    refine zq_33 ?_
    refine zr_60 hw rfl ?_
    refine zq_4_1 ?_
    refine zq_11 ?_
    refine zE_vl ?_
    refine zr_62 hw rfl ?_
    refine zq_6_0 ?_
    refine zr_60 hw rfl ?_
    exact zq_95 rfl
/-! 205: EngraversHouseModel.isAuthor:(I)Z -/
noncomputable def gM_isAuthor (a1 : Int) (s : zSg) : Option (Int × zSg) :=
  ybd (gM_in a1 0 (zsub (s 0 8) 1) s) fun v1 s2 =>
  yrb v1 s2
theorem gM_isAuthor_ok {E : Nat → Nat} {R : Nat} {h0 : zHp} (hw : zRg R h0) (d : Nat) (a1 : Int) (s : zSg) : zE (zov R h0) Ji E (d + 1) 205 (zB 205 0) (zent 2 [.inr (.inr R), .inl a1]) [] s (gM_isAuthor a1 s) := by
  show zE _ _ _ _ _ _ [some (.inr (.inr R)), some (.inl a1)] _ _ _
  unfold gM_isAuthor
  refine zq_4_1 ?_
  refine zq_1 ?_
  refine zq_6_0 ?_
  refine zr_60 hw rfl ?_
  refine zq_1 ?_
  refine zq_12 ?_
  refine zq_90_3i rfl rfl (gM_in_ok (E := E) hw _ _ _ _ _) fun v1 s2 => ?_
  exact zq_96
/-! 206: EngraversHouseModel.author:()I -/
noncomputable def gM_author (s : zSg) : Option (Int × zSg) :=
  if (s 0 8) = 12 then
    (some ((-4), s))
  else
    (yvl (zup s 0 8 (zadd (s 0 8) 1)) fun s1 =>
    some (zsub (s1 0 8) 1, s1))
theorem gM_author_ok {E : Nat → Nat} {R : Nat} {h0 : zHp} (hw : zRg R h0) (d : Nat) (s : zSg) : zE (zov R h0) Ji E (d + 0) 206 (zB 206 0) (zent 1 [.inr (.inr R)]) [] s (gM_author s) := by
  show zE _ _ _ _ _ _ [some (.inr (.inr R))] _ _ _
  unfold gM_author
  refine zq_6_0 ?_
  refine zr_60 hw rfl ?_
  refine zq_1 ?_
  refine zq_47 ?_ ?_
  · refine zq_1 ?_
    exact zq_95 rfl
  · refine zq_6_0 ?_
    refine zq_33 ?_
    refine zr_60 hw rfl ?_
    refine zq_1 ?_
    refine zq_11 ?_
    refine zE_vl ?_
    refine zr_62 hw rfl ?_
    refine zq_6_0 ?_
    refine zr_60 hw rfl ?_
    refine zq_1 ?_
    refine zq_12 ?_
    exact zq_95 rfl
/-! 207: EngraversHouseModel.died:(II)I -/
noncomputable def gM_died (a1 : Int) (a2 : Int) (s : zSg) : Option (Int × zSg) :=
  ybd (gM_isAuthor a1 s) fun v1 s2 =>
  if v1 = 0 then
    (some ((-1), s2))
  else
    (ybd (gM_in a2 0 (s2 0 1) s2) fun v3 s4 =>
    if v3 = 0 then
      (some ((-2), s4))
    else
      (yrd 12 9 a1 s4 fun v5 =>
      if v5 < 0 then
        (ywi 12 9 a1 a2 s4 fun s6 =>
        some (1, s6))
      else
      some ((-3), s4)))
theorem gM_died_ok {E : Nat → Nat} {R : Nat} {h0 : zHp} (hw : zRg R h0) (d : Nat) (a1 : Int) (a2 : Int) (s : zSg) : zE (zov R h0) Ji E (d + 2) 207 (zB 207 0) (zent 3 [.inr (.inr R), .inl a1, .inl a2]) [] s (gM_died a1 a2 s) := by
  show zE _ _ _ _ _ _ [some (.inr (.inr R)), some (.inl a1), some (.inl a2)] _ _ _
  unfold gM_died
  refine zq_6_0 ?_
  refine zq_4_1 ?_
  refine zq_92_2i (zR_is hw) rfl rfl (gM_isAuthor_ok (E := E) hw _ _ _) fun v1 s2 => ?_
  refine zq_41 ?_ ?_
  · refine zq_1 ?_
    exact zq_95 rfl
  · refine zq_4_2 ?_
    refine zq_1 ?_
    refine zq_6_0 ?_
    refine zr_60 hw rfl ?_
    refine zq_90_3i rfl rfl (gM_in_ok (E := E) hw _ _ _ _ _) fun v3 s4 => ?_
    refine zq_41 ?_ ?_
    · refine zq_1 ?_
      exact zq_95 rfl
    · refine zq_6_0 ?_
      refine zr_61 hw rfl ?_
      refine zq_4_1 ?_
      refine zr_65 hw rfl rfl rfl ?_
      refine zq_42 ?_ ?_
      · refine zq_6_0 ?_
        refine zr_61 hw rfl ?_
        refine zq_4_1 ?_
        refine zq_4_2 ?_
        refine zr_68 hw rfl rfl rfl ?_
        refine zq_1 ?_
        exact zq_95 rfl
      refine zq_1 ?_
      exact zq_95 rfl
/-! 208: EngraversHouseModel.areScore:(II)Z -/
noncomputable def gM_areScore (a0 : Int) (a1 : Int) (s : zSg) : Option (Int × zSg) :=
  ybd (gM_in a0 2 12 s) fun v1 s2 =>
  if v1 = 0 then
    (some (0, s2))
  else
  ybd (gM_in a1 1 4 s2) fun v3 s4 =>
  if v3 = 0 then
    (some (0, s4))
  else
  some (1, s4)
theorem gM_areScore_ok {E : Nat → Nat} {R : Nat} {h0 : zHp} (hw : zRg R h0) (d : Nat) (a0 : Int) (a1 : Int) (s : zSg) : zE (zov R h0) Ji E (d + 1) 208 (zB 208 0) (zent 2 [.inl a0, .inl a1]) [] s (gM_areScore a0 a1 s) := by
  show zE _ _ _ _ _ _ [some (.inl a0), some (.inl a1)] _ _ _
  unfold gM_areScore
  refine zq_4_0 ?_
  refine zq_1 ?_
  refine zq_1 ?_
  refine zq_90_3i rfl rfl (gM_in_ok (E := E) hw _ _ _ _ _) fun v1 s2 => ?_
  refine zq_40 ?_ ?_
  · refine zq_1 ?_
    refine zq_57 ?_
    exact zq_96c (by decide)
  refine zq_4_1 ?_
  refine zq_1 ?_
  refine zq_1 ?_
  refine zq_90_3i rfl rfl (gM_in_ok (E := E) hw _ _ _ _ _) fun v3 s4 => ?_
  refine zq_40 ?_ ?_
  · refine zq_1 ?_
    refine zq_57 ?_
    exact zq_96c (by decide)
  refine zq_1 ?_
  refine zq_56 ?_
  exact zq_96c (by decide)
/-! 209: EngraversHouseModel.score:(III)I -/
noncomputable def gM_score (a1 : Int) (a2 : Int) (a3 : Int) (s : zSg) : Option (Int × zSg) :=
  ybd (gM_isAuthor a1 s) fun v1 s2 =>
  if v1 = 0 then
    (some ((-1), s2))
  else
    (ybd (gM_areScore a2 a3 s2) fun v3 s4 =>
    if v3 = 0 then
      (some ((-2), s4))
    else
      (if (s4 0 2) = 60 then
        (some ((-4), s4))
      else
        (ybd (gM_add 1 (s4 0 2) a2 a3 s4) fun v5 s6 =>
        ywi 60 7 v5 a1 s6 fun s7 =>
        some (v5, s7))))
theorem gM_score_ok {E : Nat → Nat} {R : Nat} {h0 : zHp} (hw : zRg R h0) (d : Nat) (a1 : Int) (a2 : Int) (a3 : Int) (s : zSg) : zE (zov R h0) Ji E (d + 2) 209 (zB 209 0) (zent 5 [.inr (.inr R), .inl a1, .inl a2, .inl a3]) [] s (gM_score a1 a2 a3 s) := by
  show zE _ _ _ _ _ _ [some (.inr (.inr R)), some (.inl a1), some (.inl a2), some (.inl a3), none] _ _ _
  unfold gM_score
  refine zq_6_0 ?_
  refine zq_4_1 ?_
  refine zq_92_2i (zR_is hw) rfl rfl (gM_isAuthor_ok (E := E) hw _ _ _) fun v1 s2 => ?_
  refine zq_41 ?_ ?_
  · refine zq_1 ?_
    exact zq_95 rfl
  · refine zq_4_2 ?_
    refine zq_4_3 ?_
    refine zq_90_2i rfl rfl (gM_areScore_ok (E := E) hw _ _ _ _) fun v3 s4 => ?_
    refine zq_41 ?_ ?_
    · refine zq_1 ?_
      exact zq_95 rfl
    · refine zq_6_0 ?_
      refine zr_60 hw rfl ?_
      refine zq_1 ?_
      refine zq_47 ?_ ?_
      · refine zq_1 ?_
        exact zq_95 rfl
      · refine zq_6_0 ?_
        refine zq_1 ?_
        refine zq_6_0 ?_
        refine zr_60 hw rfl ?_
        refine zq_4_2 ?_
        refine zq_4_3 ?_
        refine zq_92_5i (zR_is hw) rfl rfl (gM_add_ok (E := E) hw _ _ _ _ _ _) fun v5 s6 => ?_
        refine zq_7_4 rfl ?_
        refine zq_6_0 ?_
        refine zr_61 hw rfl ?_
        refine zq_4_4 ?_
        refine zq_4_1 ?_
        refine zr_68 hw rfl rfl rfl ?_
        refine zq_4_4 ?_
        exact zq_95 rfl
/-! 210: EngraversHouseModel.derive:(IIII)I -/
noncomputable def gM_derive (a1 : Int) (a2 : Int) (a3 : Int) (a4 : Int) (s : zSg) : Option (Int × zSg) :=
  ybd (gM_isThing a1 s) fun v1 s2 =>
  if v1 = 0 then
    (some ((-1), s2))
  else
  ybd (gM_isAuthor a2 s2) fun v3 s4 =>
  if v3 = 0 then
    (some ((-1), s4))
  else
    (ybd (gM_isMusic a1 s4) fun v5 s6 =>
    if v5 = 0 then
      (some ((-12), s6))
    else
      (ybd (gM_areScore a3 a4 s6) fun v7 s8 =>
      if v7 = 0 then
        (some ((-2), s8))
      else
        (if (s8 0 2) = 60 then
          (some ((-4), s8))
        else
          (yrd 60 4 a1 s8 fun v9 =>
          ybd (gM_add 6 v9 a3 a4 s8) fun v10 s11 =>
          ywi 60 7 v10 a2 s11 fun s12 =>
          some (v10, s12)))))
theorem gM_derive_ok {E : Nat → Nat} {R : Nat} {h0 : zHp} (hw : zRg R h0) (d : Nat) (a1 : Int) (a2 : Int) (a3 : Int) (a4 : Int) (s : zSg) : zE (zov R h0) Ji E (d + 2) 210 (zB 210 0) (zent 6 [.inr (.inr R), .inl a1, .inl a2, .inl a3, .inl a4]) [] s (gM_derive a1 a2 a3 a4 s) := by
  show zE _ _ _ _ _ _ [some (.inr (.inr R)), some (.inl a1), some (.inl a2), some (.inl a3), some (.inl a4), none] _ _ _
  unfold gM_derive
  refine zq_6_0 ?_
  refine zq_4_1 ?_
  refine zq_92_2i (zR_is hw) rfl rfl (gM_isThing_ok (E := E) hw _ _ _) fun v1 s2 => ?_
  refine zq_40 ?_ ?_
  · refine zq_1 ?_
    exact zq_95 rfl
  refine zq_6_0 ?_
  refine zq_4_2 ?_
  refine zq_92_2i (zR_is hw) rfl rfl (gM_isAuthor_ok (E := E) hw _ _ _) fun v3 s4 => ?_
  refine zq_41 ?_ ?_
  · refine zq_57 ?_
    refine zq_1 ?_
    exact zq_95 rfl
  · refine zq_6_0 ?_
    refine zq_4_1 ?_
    refine zq_92_2i (zR_is hw) rfl rfl (gM_isMusic_ok (E := E) hw _ _ _) fun v5 s6 => ?_
    refine zq_41 ?_ ?_
    · refine zq_1 ?_
      exact zq_95 rfl
    · refine zq_4_3 ?_
      refine zq_4_4 ?_
      refine zq_90_2i rfl rfl (gM_areScore_ok (E := E) hw _ _ _ _) fun v7 s8 => ?_
      refine zq_41 ?_ ?_
      · refine zq_1 ?_
        exact zq_95 rfl
      · refine zq_6_0 ?_
        refine zr_60 hw rfl ?_
        refine zq_1 ?_
        refine zq_47 ?_ ?_
        · refine zq_1 ?_
          exact zq_95 rfl
        · refine zq_6_0 ?_
          refine zq_1 ?_
          refine zq_6_0 ?_
          refine zr_61 hw rfl ?_
          refine zq_4_1 ?_
          refine zr_65 hw rfl rfl rfl ?_
          refine zq_4_3 ?_
          refine zq_4_4 ?_
          refine zq_92_5i (zR_is hw) rfl rfl (gM_add_ok (E := E) hw _ _ _ _ _ _) fun v10 s11 => ?_
          refine zq_7_5 rfl ?_
          refine zq_6_0 ?_
          refine zr_61 hw rfl ?_
          refine zq_4_5 ?_
          refine zq_4_2 ?_
          refine zr_68 hw rfl rfl rfl ?_
          refine zq_4_5 ?_
          exact zq_95 rfl
/-! 211: EngraversHouseModel.barAt:(III)I -/
noncomputable def gM_barAt (a1 : Int) (a2 : Int) (a3 : Int) (s : zSg) : Option (Int × zSg) :=
  some (zadd (zadd (zmul 80 a1) (zmul 20 a2)) a3, s)
theorem gM_barAt_ok {E : Nat → Nat} {R : Nat} {h0 : zHp} (hw : zRg R h0) (d : Nat) (a1 : Int) (a2 : Int) (a3 : Int) (s : zSg) : zE (zov R h0) Ji E (d + 0) 211 (zB 211 0) (zent 4 [.inr (.inr R), .inl a1, .inl a2, .inl a3]) [] s (gM_barAt a1 a2 a3 s) := by
  show zE _ _ _ _ _ _ [some (.inr (.inr R)), some (.inl a1), some (.inl a2), some (.inl a3)] _ _ _
  unfold gM_barAt
  refine zq_1 ?_
  refine zq_4_1 ?_
  refine zq_13 ?_
  refine zq_1 ?_
  refine zq_4_2 ?_
  refine zq_13 ?_
  refine zq_11 ?_
  refine zq_4_3 ?_
  refine zq_11 ?_
  exact zq_95 rfl
/-! 212: EngraversHouseModel.filled:(I)I -/
noncomputable def gM_filled_l1 : Nat → Int → Int → Int → zSg → Option (Int × zSg)
  | 0, _, _, _, _ => none
  | n + 1, x1, x2, x3, s4 =>
   yrd 4800 13 x1 s4 fun v5 =>
   if x3 < v5 then
     (yrd 38400 11 (zadd (zmul 8 x1) x3) s4 fun v6 =>
     yvl (zadd x2 v6) fun v7 =>
     yvl (zadd x3 1) fun v8 =>
     gM_filled_l1 n x1 v7 v8 s4)
   else
     (some (x2, s4))
theorem gM_filled_l1_ok {E : Nat → Nat} {R : Nat} {h0 : zHp} (hw : zRg R h0) (d : Nat) : ∀ (n : Nat) (x1 : Int) (x2 : Int) (x3 : Int) (s4 : zSg), zE (zov R h0) Ji E (d + 0) 212 (zB 212 1) ([some (.inr (.inr R)), some (.inl x1), some (.inl x2), some (.inl x3)]) ([]) s4 (gM_filled_l1 n x1 x2 x3 s4) := by
  intro n
  induction n with
  | zero => intro x1 x2 x3 s4; exact zE_none
  | succ n ih =>
    intro x1 x2 x3 s4
    unfold gM_filled_l1
    refine zq_4_3 ?_
    refine zq_6_0 ?_
    refine zr_61 hw rfl ?_
    refine zq_4_1 ?_
    refine zr_65 hw rfl rfl rfl ?_
    refine zq_49 ?_ ?_
    · refine zq_4_2 ?_
      refine zq_6_0 ?_
      refine zr_61 hw rfl ?_
      refine zq_1 ?_
      refine zq_4_1 ?_
      refine zq_13 ?_
      refine zq_4_3 ?_
      refine zq_11 ?_
      refine zr_65 hw rfl rfl rfl ?_
      refine zq_11 ?_
      refine zE_vl ?_
      refine zq_7_2 rfl ?_
      refine zE_vl ?_
      refine zq_10_3 rfl ?_
      refine zq_56 ?_
      exact zE_w [true, true, true, true] (ih _ _ _ _)
    · refine zq_4_2 ?_
      exact zq_95 rfl
noncomputable def gM_filled (a1 : Int) (s : zSg) : Option (Int × zSg) :=
  gM_filled_l1 zFU a1 0 0 s
theorem gM_filled_ok {E : Nat → Nat} {R : Nat} {h0 : zHp} (hw : zRg R h0) (d : Nat) (a1 : Int) (s : zSg) : zE (zov R h0) Ji E (d + 0) 212 (zB 212 0) (zent 4 [.inr (.inr R), .inl a1]) [] s (gM_filled a1 s) := by
  show zE _ _ _ _ _ _ [some (.inr (.inr R)), some (.inl a1), none, none] _ _ _
  unfold gM_filled
  refine zq_1 ?_
  refine zq_7_2 rfl ?_
  refine zq_1 ?_
  refine zq_7_3 rfl ?_
  refine zq_57 ?_
  exact zE_w [true, true, true, true] (gM_filled_l1_ok (E := E) hw d zFU _ _ _ _)
/-! 213: EngraversHouseModel.whole:(II)I -/
noncomputable def gM_whole (a1 : Int) (a2 : Int) (s : zSg) : Option (Int × zSg) :=
  yrd 240 14 (zadd (zmul 4 a1) a2) s fun v1 =>
  if 0 < v1 then
    (ybd (gM_barAt a1 a2 (zsub v1 1) s) fun v2 s3 =>
    ybd (gM_filled v2 s3) fun v4 s5 =>
    yrd 60 5 a1 s5 fun v6 =>
    if v4 < v6 then
      (some (zsub v1 1, s5))
    else
      (some (v1, s5)))
  else
    (some (v1, s))
theorem gM_whole_ok {E : Nat → Nat} {R : Nat} {h0 : zHp} (hw : zRg R h0) (d : Nat) (a1 : Int) (a2 : Int) (s : zSg) : zE (zov R h0) Ji E (d + 1) 213 (zB 213 0) (zent 4 [.inr (.inr R), .inl a1, .inl a2]) [] s (gM_whole a1 a2 s) := by
  show zE _ _ _ _ _ _ [some (.inr (.inr R)), some (.inl a1), some (.inl a2), none] _ _ _
  unfold gM_whole
  refine zq_6_0 ?_
  refine zr_61 hw rfl ?_
  refine zq_1 ?_
  refine zq_4_1 ?_
  refine zq_13 ?_
  refine zq_4_2 ?_
  refine zq_11 ?_
  refine zr_65 hw rfl rfl rfl ?_
  refine zq_7_3 rfl ?_
  refine zq_4_3 ?_
  refine zq_45 ?_ ?_
  · refine zq_6_0 ?_
    refine zq_6_0 ?_
    refine zq_4_1 ?_
    refine zq_4_2 ?_
    refine zq_4_3 ?_
    refine zq_1 ?_
    refine zq_12 ?_
    refine zq_92_4i (zR_is hw) rfl rfl (gM_barAt_ok (E := E) hw _ _ _ _ _) fun v2 s3 => ?_
    refine zq_92_2i (zR_is hw) rfl rfl (gM_filled_ok (E := E) hw _ _ _) fun v4 s5 => ?_
    refine zq_6_0 ?_
    refine zr_61 hw rfl ?_
    refine zq_4_1 ?_
    refine zr_65 hw rfl rfl rfl ?_
    refine zq_49 ?_ ?_
    · refine zq_4_3 ?_
      refine zq_1 ?_
      refine zq_12 ?_
      refine zq_56 ?_
      exact zq_95 rfl
    · refine zq_4_3 ?_
      refine zq_57 ?_
      exact zq_95 rfl
  · refine zq_4_3 ?_
    refine zq_57 ?_
    exact zq_95 rfl
/-! 214: EngraversHouseModel.put:(IIIII)I -/
noncomputable def gM_put (a1 : Int) (a2 : Int) (a3 : Int) (a4 : Int) (a5 : Int) (s : zSg) : Option (Int × zSg) :=
  yjn (fun (x1 : Int) (x2 : Int) (x3 : Int) (x4 : Int) (x5 : Int) (x6 : Int) (x7 : Int) (s8 : zSg) =>
   yjn (fun (x10 : Int) (x11 : Int) (x12 : Int) (x13 : Int) (x14 : Int) (x15 : Int) (x16 : Int) (x17 : Int) (x18 : Int) (x19 : Int) (s20 : zSg) =>
    yjn (fun (x22 : Int) (x23 : Int) (x24 : Int) (x25 : Int) (x26 : Int) (x27 : Int) (x28 : Int) (x29 : Int) (x30 : Int) (s31 : zSg) =>
     yjn (fun (x33 : Int) (x34 : Int) (x35 : Int) (x36 : Int) (x37 : Int) (x38 : Int) (x39 : Int) (x40 : Int) (s41 : zSg) =>
      yjn (fun (x43 : Int) (x44 : Int) (x45 : Int) (x46 : Int) (x47 : Int) (x48 : Int) (x49 : Int) (s50 : zSg) =>
       yjn (fun (x52 : Int) (x53 : Int) (x54 : Int) (x55 : Int) (s56 : zSg) =>
        yjn (fun (x58 : Int) (x59 : Int) (x60 : Int) (x61 : Int) (x62 : Int) (x63 : Int) (s64 : zSg) =>
         ywi 38400 10 x62 x63 s64 fun s66 =>
         ywi 38400 11 x61 x58 s66 fun s67 =>
         ywi 38400 12 x61 x59 s67 fun s68 =>
         yrd 4800 13 x60 s68 fun v69 =>
         ywi 4800 13 x60 (zadd v69 1) s68 fun s70 =>
         some (0, s70)) fun q65 =>
         yrd 4800 13 x55 s56 fun v71 =>
        yvl (zadd (zmul 8 x55) v71) fun v72 =>
        if x52 = 0 then
          (q65 x53 x54 x55 v72 v72 (-1000) s56)
        else
          (q65 x53 x54 x55 v72 v72 x52 s56)) fun q57 =>
        if x48 = 0 then
         (yvl (zadd (zmul 4 x43) x44) fun v73 =>
         yrd 240 14 v73 s50 fun v74 =>
         ywi 240 14 v73 (zadd v74 1) s50 fun s75 =>
         ywi 4800 13 x49 0 s75 fun s76 =>
         q57 x45 x46 x47 x49 s76)
       else
         (q57 x45 x46 x47 x49 s50)) fun q51 =>
       if x39 = 0 then
        (if x38 = 20 then
          (some ((-4), s41))
        else
          (q51 x33 x34 x35 x36 x37 x39 x40 s41))
      else
        (q51 x33 x34 x35 x36 x37 x39 x40 s41)) fun q42 =>
      if x30 < x25 then
       (some ((-3), s31))
     else
     if x28 = 0 then
       (q42 x22 x23 x24 x25 x26 x27 x28 x29 s31)
     else
     yrd 4800 13 x29 s31 fun v77 =>
     if v77 = 7 then
       (if x25 < x30 then
         (some ((-3), s31))
       else
         (q42 x22 x23 x24 x25 x26 x27 x28 x29 s31))
     else
       (q42 x22 x23 x24 x25 x26 x27 x28 x29 s31)) fun q32 =>
     ybd (gM_barAt x17 x18 x19 s20) fun v78 s79 =>
    if x16 = 0 then
      (yrd 60 5 x10 s79 fun v80 =>
      q32 x10 x11 x12 x13 x14 x15 x16 v78 v80 s79)
    else
    yrd 60 5 x10 s79 fun v81 =>
    ybd (gM_filled v78 s79) fun v82 s83 =>
    q32 x10 x11 x12 x13 x14 x15 x16 v78 (zsub v81 v82) s83) fun q21 =>
    if x7 = 0 then
     (if x6 < 20 then
       (q21 x1 x2 x3 x4 x5 x6 x7 x1 x2 x6 s8)
     else
       (q21 x1 x2 x3 x4 x5 x6 x7 x1 x2 19 s8))
   else
   q21 x1 x2 x3 x4 x5 x6 x7 x1 x2 (zsub x6 1) s8) fun q9 =>
   yrd 240 14 (zadd (zmul 4 a1) a2) s fun v84 =>
  ybd (gM_whole a1 a2 s) fun v85 s86 =>
  if v85 < v84 then
    (q9 a1 a2 a3 a4 a5 v84 1 s86)
  else
    (q9 a1 a2 a3 a4 a5 v84 0 s86)
theorem gM_put_ok {E : Nat → Nat} {R : Nat} {h0 : zHp} (hw : zRg R h0) (d : Nat) (a1 : Int) (a2 : Int) (a3 : Int) (a4 : Int) (a5 : Int) (s : zSg) : zE (zov R h0) Ji E (d + 2) 214 (zB 214 0) (zent 11 [.inr (.inr R), .inl a1, .inl a2, .inl a3, .inl a4, .inl a5]) [] s (gM_put a1 a2 a3 a4 a5 s) := by
  show zE _ _ _ _ _ _ [some (.inr (.inr R)), some (.inl a1), some (.inl a2), some (.inl a3), some (.inl a4), some (.inl a5), none, none, none, none, none] _ _ _
  unfold gM_put
  refine zE_jn (fun q9 => ∀ (y0 : Int) (y1 : Int) (y2 : Int) (y3 : Int) (y4 : Int) (y5 : Int) (y6 : Int) (s : zSg), zE (zov R h0) Ji E (d + 2) 214 (zB 214 2) ([some (.inr (.inr R)), some (.inl y0), some (.inl y1), some (.inl y2), some (.inl y3), some (.inl y4), some (.inl y5), none, none, none, none]) ([.inl y6]) s (q9 y0 y1 y2 y3 y4 y5 y6 s)) (fun x1 x2 x3 x4 x5 x6 x7 s8 => ?_) (fun q9 hq9 => ?_)
  · refine zE_jn (fun q21 => ∀ (y0 : Int) (y1 : Int) (y2 : Int) (y3 : Int) (y4 : Int) (y5 : Int) (y6 : Int) (y7 : Int) (y8 : Int) (y9 : Int) (s : zSg), zE (zov R h0) Ji E (d + 2) 214 (zB 214 5) ([some (.inr (.inr R)), some (.inl y0), some (.inl y1), some (.inl y2), some (.inl y3), some (.inl y4), some (.inl y5), some (.inl y6), none, none, none]) ([.inl y9, .inl y8, .inl y7, .inr (.inr R)]) s (q21 y0 y1 y2 y3 y4 y5 y6 y7 y8 y9 s)) (fun x10 x11 x12 x13 x14 x15 x16 x17 x18 x19 s20 => ?_) (fun q21 hq21 => ?_)
    · refine zE_jn (fun q32 => ∀ (y0 : Int) (y1 : Int) (y2 : Int) (y3 : Int) (y4 : Int) (y5 : Int) (y6 : Int) (y7 : Int) (y8 : Int) (s : zSg), zE (zov R h0) Ji E (d + 2) 214 (zB 214 7) ([some (.inr (.inr R)), some (.inl y0), some (.inl y1), some (.inl y2), some (.inl y3), some (.inl y4), some (.inl y5), some (.inl y6), some (.inl y7), none, none]) ([.inl y8]) s (q32 y0 y1 y2 y3 y4 y5 y6 y7 y8 s)) (fun x22 x23 x24 x25 x26 x27 x28 x29 x30 s31 => ?_) (fun q32 hq32 => ?_)
      · refine zE_jn (fun q42 => ∀ (y0 : Int) (y1 : Int) (y2 : Int) (y3 : Int) (y4 : Int) (y5 : Int) (y6 : Int) (y7 : Int) (s : zSg), zE (zov R h0) Ji E (d + 2) 214 (zB 214 9) ([some (.inr (.inr R)), some (.inl y0), some (.inl y1), some (.inl y2), some (.inl y3), some (.inl y4), some (.inl y5), some (.inl y6), some (.inl y7), none, none]) ([]) s (q42 y0 y1 y2 y3 y4 y5 y6 y7 s)) (fun x33 x34 x35 x36 x37 x38 x39 x40 s41 => ?_) (fun q42 hq42 => ?_)
        · refine zE_jn (fun q51 => ∀ (y0 : Int) (y1 : Int) (y2 : Int) (y3 : Int) (y4 : Int) (y5 : Int) (y6 : Int) (s : zSg), zE (zov R h0) Ji E (d + 2) 214 (zB 214 10) ([some (.inr (.inr R)), some (.inl y0), some (.inl y1), some (.inl y2), some (.inl y3), some (.inl y4), none, some (.inl y5), some (.inl y6), none, none]) ([]) s (q51 y0 y1 y2 y3 y4 y5 y6 s)) (fun x43 x44 x45 x46 x47 x48 x49 s50 => ?_) (fun q51 hq51 => ?_)
          · refine zE_jn (fun q57 => ∀ (y0 : Int) (y1 : Int) (y2 : Int) (y3 : Int) (s : zSg), zE (zov R h0) Ji E (d + 2) 214 (zB 214 11) ([some (.inr (.inr R)), none, none, some (.inl y0), some (.inl y1), some (.inl y2), none, none, some (.inl y3), none, none]) ([]) s (q57 y0 y1 y2 y3 s)) (fun x52 x53 x54 x55 s56 => ?_) (fun q57 hq57 => ?_)
            · refine zE_jn (fun q65 => ∀ (y0 : Int) (y1 : Int) (y2 : Int) (y3 : Int) (y4 : Int) (y5 : Int) (s : zSg), zE (zov R h0) Ji E (d + 2) 214 (zB 214 13) ([some (.inr (.inr R)), none, none, none, some (.inl y0), some (.inl y1), none, none, some (.inl y2), none, some (.inl y3)]) ([.inl y5, .inl y4, .inr (.inr (zra R 10))]) s (q65 y0 y1 y2 y3 y4 y5 s)) (fun x58 x59 x60 x61 x62 x63 s64 => ?_) (fun q65 hq65 => ?_)
              · refine zr_68 hw rfl rfl rfl ?_
                refine zq_6_0 ?_
                refine zr_61 hw rfl ?_
                refine zq_4_10 ?_
                refine zq_4_4 ?_
                refine zr_68 hw rfl rfl rfl ?_
                refine zq_6_0 ?_
                refine zr_61 hw rfl ?_
                refine zq_4_10 ?_
                refine zq_4_5 ?_
                refine zr_68 hw rfl rfl rfl ?_
                refine zq_6_0 ?_
                refine zr_61 hw rfl ?_
                refine zq_4_8 ?_
                refine zq_34 ?_
                refine zr_65 hw rfl rfl rfl ?_
                refine zq_1 ?_
                refine zq_11 ?_
                refine zr_68 hw rfl rfl rfl ?_
                refine zq_1 ?_
                exact zq_95 rfl
              refine zq_1 ?_
              refine zq_4_8 ?_
              refine zq_13 ?_
              refine zq_6_0 ?_
              refine zr_61 hw rfl ?_
              refine zq_4_8 ?_
              refine zr_65 hw rfl rfl rfl ?_
              refine zq_11 ?_
              refine zE_vl ?_
              refine zq_7_10 rfl ?_
              refine zq_6_0 ?_
              refine zr_61 hw rfl ?_
              refine zq_4_10 ?_
              refine zq_4_3 ?_
              refine zq_41 ?_ ?_
              · refine zq_1 ?_
                refine zq_56 ?_
                exact zE_w [true, false, false, false, true, true, false, false, true, false, true] (hq65 _ _ _ _ _ _ _)
              · refine zq_4_3 ?_
                refine zq_57 ?_
                exact zE_w [true, false, false, false, true, true, false, false, true, false, true] (hq65 _ _ _ _ _ _ _)
            refine zq_4_7 ?_
            refine zq_41 ?_ ?_
            · refine zq_6_0 ?_
              refine zr_61 hw rfl ?_
              refine zq_1 ?_
              refine zq_4_1 ?_
              refine zq_13 ?_
              refine zq_4_2 ?_
              refine zq_11 ?_
              refine zE_vl ?_
              refine zq_34 ?_
              refine zr_65 hw rfl rfl rfl ?_
              refine zq_1 ?_
              refine zq_11 ?_
              refine zr_68 hw rfl rfl rfl ?_
              refine zq_6_0 ?_
              refine zr_61 hw rfl ?_
              refine zq_4_8 ?_
              refine zq_1 ?_
              refine zr_68 hw rfl rfl rfl ?_
              refine zq_57 ?_
              exact zE_w [true, false, false, true, true, true, false, false, true, false, false] (hq57 _ _ _ _ _)
            · exact zE_w [true, false, false, true, true, true, false, false, true, false, false] (hq57 _ _ _ _ _)
          refine zq_4_7 ?_
          refine zq_41 ?_ ?_
          · refine zq_4_6 ?_
            refine zq_1 ?_
            refine zq_47 ?_ ?_
            · refine zq_1 ?_
              exact zq_95 rfl
            · exact zE_w [true, true, true, true, true, true, false, true, true, false, false] (hq51 _ _ _ _ _ _ _ _)
          · exact zE_w [true, true, true, true, true, true, false, true, true, false, false] (hq51 _ _ _ _ _ _ _ _)
        refine zq_7_9 rfl ?_
        refine zq_4_4 ?_
        refine zq_4_9 ?_
        refine zq_50 ?_ ?_
        · refine zq_1 ?_
          exact zq_95 rfl
        refine zq_4_7 ?_
        refine zq_40 ?_ ?_
        · exact zE_w [true, true, true, true, true, true, true, true, true, false, false] (hq42 _ _ _ _ _ _ _ _ _)
        refine zq_6_0 ?_
        refine zr_61 hw rfl ?_
        refine zq_4_8 ?_
        refine zr_65 hw rfl rfl rfl ?_
        refine zq_1 ?_
        refine zq_47 ?_ ?_
        · refine zq_4_4 ?_
          refine zq_4_9 ?_
          refine zq_49 ?_ ?_
          · refine zq_57 ?_
            refine zq_1 ?_
            exact zq_95 rfl
          · exact zE_w [true, true, true, true, true, true, true, true, true, false, false] (hq42 _ _ _ _ _ _ _ _ _)
        · exact zE_w [true, true, true, true, true, true, true, true, true, false, false] (hq42 _ _ _ _ _ _ _ _ _)
      refine zq_92_4i (zR_is hw) rfl rfl (gM_barAt_ok (E := E) hw _ _ _ _ _) fun v78 s79 => ?_
      refine zq_7_8 rfl ?_
      refine zq_4_7 ?_
      refine zq_40 ?_ ?_
      · refine zq_6_0 ?_
        refine zr_61 hw rfl ?_
        refine zq_4_1 ?_
        refine zr_65 hw rfl rfl rfl ?_
        refine zq_57 ?_
        exact zE_w [true, true, true, true, true, true, true, true, true, false, false] (hq32 _ _ _ _ _ _ _ _ _ _)
      refine zq_6_0 ?_
      refine zr_61 hw rfl ?_
      refine zq_4_1 ?_
      refine zr_65 hw rfl rfl rfl ?_
      refine zq_6_0 ?_
      refine zq_4_8 ?_
      refine zq_92_2i (zR_is hw) rfl rfl (gM_filled_ok (E := E) hw _ _ _) fun v82 s83 => ?_
      refine zq_12 ?_
      refine zq_56 ?_
      exact zE_w [true, true, true, true, true, true, true, true, true, false, false] (hq32 _ _ _ _ _ _ _ _ _ _)
    refine zq_7_7 rfl ?_
    refine zq_6_0 ?_
    refine zq_4_1 ?_
    refine zq_4_2 ?_
    refine zq_4_7 ?_
    refine zq_40 ?_ ?_
    · refine zq_4_6 ?_
      refine zq_1 ?_
      refine zq_49 ?_ ?_
      · refine zq_4_6 ?_
        refine zq_56 ?_
        exact zE_w [true, true, true, true, true, true, true, true, false, false, false] (hq21 _ _ _ _ _ _ _ _ _ _ _)
      · refine zq_1 ?_
        refine zq_57 ?_
        exact zE_w [true, true, true, true, true, true, true, true, false, false, false] (hq21 _ _ _ _ _ _ _ _ _ _ _)
    refine zq_4_6 ?_
    refine zq_1 ?_
    refine zq_12 ?_
    refine zq_56 ?_
    exact zE_w [true, true, true, true, true, true, true, true, false, false, false] (hq21 _ _ _ _ _ _ _ _ _ _ _)
  refine zq_6_0 ?_
  refine zr_61 hw rfl ?_
  refine zq_1 ?_
  refine zq_4_1 ?_
  refine zq_13 ?_
  refine zq_4_2 ?_
  refine zq_11 ?_
  refine zr_65 hw rfl rfl rfl ?_
  refine zq_7_6 rfl ?_
  refine zq_6_0 ?_
  refine zq_4_1 ?_
  refine zq_4_2 ?_
  refine zq_92_3i (zR_is hw) rfl rfl (gM_whole_ok (E := E) hw _ _ _ _) fun v85 s86 => ?_
  refine zq_4_6 ?_
  refine zq_49 ?_ ?_
  · refine zq_1 ?_
    refine zq_56 ?_
    exact zE_w [true, true, true, true, true, true, true, false, false, false, false] (hq9 _ _ _ _ _ _ _ _)
  · refine zq_1 ?_
    refine zq_57 ?_
    exact zE_w [true, true, true, true, true, true, true, false, false, false, false] (hq9 _ _ _ _ _ _ _ _)
/-! 215: EngraversHouseModel.isNote:(III)Z -/
noncomputable def gM_isNote (a0 : Int) (a1 : Int) (a2 : Int) (s : zSg) : Option (Int × zSg) :=
  ybd (gM_in a0 0 60 s) fun v1 s2 =>
  if v1 = 0 then
    (some (0, s2))
  else
  ybd (gM_in a1 1 12 s2) fun v3 s4 =>
  if v3 = 0 then
    (some (0, s4))
  else
  ybd (gM_in a2 0 1 s4) fun v5 s6 =>
  if v5 = 0 then
    (some (0, s6))
  else
  if 0 < a0 then
    (some (1, s6))
  else
  if a2 = 0 then
    (some (1, s6))
  else
    (some (0, s6))
theorem gM_isNote_ok {E : Nat → Nat} {R : Nat} {h0 : zHp} (hw : zRg R h0) (d : Nat) (a0 : Int) (a1 : Int) (a2 : Int) (s : zSg) : zE (zov R h0) Ji E (d + 1) 215 (zB 215 0) (zent 3 [.inl a0, .inl a1, .inl a2]) [] s (gM_isNote a0 a1 a2 s) := by
  show zE _ _ _ _ _ _ [some (.inl a0), some (.inl a1), some (.inl a2)] _ _ _
  unfold gM_isNote
  refine zq_4_0 ?_
  refine zq_1 ?_
  refine zq_1 ?_
  refine zq_90_3i rfl rfl (gM_in_ok (E := E) hw _ _ _ _ _) fun v1 s2 => ?_
  refine zq_40 ?_ ?_
  · refine zq_1 ?_
    refine zq_57 ?_
    exact zq_96c (by decide)
  refine zq_4_1 ?_
  refine zq_1 ?_
  refine zq_1 ?_
  refine zq_90_3i rfl rfl (gM_in_ok (E := E) hw _ _ _ _ _) fun v3 s4 => ?_
  refine zq_40 ?_ ?_
  · refine zq_1 ?_
    refine zq_57 ?_
    exact zq_96c (by decide)
  refine zq_4_2 ?_
  refine zq_1 ?_
  refine zq_1 ?_
  refine zq_90_3i rfl rfl (gM_in_ok (E := E) hw _ _ _ _ _) fun v5 s6 => ?_
  refine zq_40 ?_ ?_
  · refine zq_1 ?_
    refine zq_57 ?_
    exact zq_96c (by decide)
  refine zq_4_0 ?_
  refine zq_44 ?_ ?_
  · refine zq_1 ?_
    refine zq_56 ?_
    exact zq_96c (by decide)
  refine zq_4_2 ?_
  refine zq_41 ?_ ?_
  · refine zq_57 ?_
    refine zq_1 ?_
    refine zq_56 ?_
    exact zq_96c (by decide)
  · refine zq_1 ?_
    refine zq_57 ?_
    exact zq_96c (by decide)
/-! 216: EngraversHouseModel.note:(IIIII)I -/
noncomputable def gM_note (a1 : Int) (a2 : Int) (a3 : Int) (a4 : Int) (a5 : Int) (s : zSg) : Option (Int × zSg) :=
  ybd (gM_isThing a1 s) fun v1 s2 =>
  if v1 = 0 then
    (some ((-1), s2))
  else
    (ybd (gM_isMusic a1 s2) fun v3 s4 =>
    if v3 = 0 then
      (some ((-12), s4))
    else
      (yrd 60 6 a1 s4 fun v5 =>
      ybd (gM_in a2 0 (zsub v5 1) s4) fun v6 s7 =>
      if v6 = 0 then
        (some ((-1), s7))
      else
        (ybd (gM_isNote a3 a4 a5 s7) fun v8 s9 =>
        if v8 = 0 then
          (some ((-2), s9))
        else
          (ybd (gM_put a1 a2 a3 a4 a5 s9) fun v10 s11 =>
          if v10 < 0 then
            (some (v10, s11))
          else
            (ybd (gM_whole a1 a2 s11) fun v12 s13 =>
            some (v12, s13))))))
theorem gM_note_ok {E : Nat → Nat} {R : Nat} {h0 : zHp} (hw : zRg R h0) (d : Nat) (a1 : Int) (a2 : Int) (a3 : Int) (a4 : Int) (a5 : Int) (s : zSg) : zE (zov R h0) Ji E (d + 3) 216 (zB 216 0) (zent 7 [.inr (.inr R), .inl a1, .inl a2, .inl a3, .inl a4, .inl a5]) [] s (gM_note a1 a2 a3 a4 a5 s) := by
  show zE _ _ _ _ _ _ [some (.inr (.inr R)), some (.inl a1), some (.inl a2), some (.inl a3), some (.inl a4), some (.inl a5), none] _ _ _
  unfold gM_note
  refine zq_6_0 ?_
  refine zq_4_1 ?_
  refine zq_92_2i (zR_is hw) rfl rfl (gM_isThing_ok (E := E) hw _ _ _) fun v1 s2 => ?_
  refine zq_41 ?_ ?_
  · refine zq_1 ?_
    exact zq_95 rfl
  · refine zq_6_0 ?_
    refine zq_4_1 ?_
    refine zq_92_2i (zR_is hw) rfl rfl (gM_isMusic_ok (E := E) hw _ _ _) fun v3 s4 => ?_
    refine zq_41 ?_ ?_
    · refine zq_1 ?_
      exact zq_95 rfl
    · refine zq_4_2 ?_
      refine zq_1 ?_
      refine zq_6_0 ?_
      refine zr_61 hw rfl ?_
      refine zq_4_1 ?_
      refine zr_65 hw rfl rfl rfl ?_
      refine zq_1 ?_
      refine zq_12 ?_
      refine zq_90_3i rfl rfl (gM_in_ok (E := E) hw _ _ _ _ _) fun v6 s7 => ?_
      refine zq_41 ?_ ?_
      · refine zq_1 ?_
        exact zq_95 rfl
      · refine zq_4_3 ?_
        refine zq_4_4 ?_
        refine zq_4_5 ?_
        refine zq_90_3i rfl rfl (gM_isNote_ok (E := E) hw _ _ _ _ _) fun v8 s9 => ?_
        refine zq_41 ?_ ?_
        · refine zq_1 ?_
          exact zq_95 rfl
        · refine zq_6_0 ?_
          refine zq_4_1 ?_
          refine zq_4_2 ?_
          refine zq_4_3 ?_
          refine zq_4_4 ?_
          refine zq_4_5 ?_
          refine zq_92_6i (zR_is hw) rfl rfl (gM_put_ok (E := E) hw _ _ _ _ _ _ _) fun v10 s11 => ?_
          refine zq_7_6 rfl ?_
          refine zq_4_6 ?_
          refine zq_43 ?_ ?_
          · refine zq_4_6 ?_
            refine zq_56 ?_
            exact zq_95 rfl
          · refine zq_6_0 ?_
            refine zq_4_1 ?_
            refine zq_4_2 ?_
            refine zq_92_3i (zR_is hw) rfl rfl (gM_whole_ok (E := E) hw _ _ _ _) fun v12 s13 => ?_
            refine zq_57 ?_
            exact zq_95 rfl
/-! 217: EngraversHouseModel.alter:(IIIII)I -/
noncomputable def gM_alter (a1 : Int) (a2 : Int) (a3 : Int) (a4 : Int) (a5 : Int) (s : zSg) : Option (Int × zSg) :=
  ybd (gM_isThing a1 s) fun v1 s2 =>
  if v1 = 0 then
    (some ((-1), s2))
  else
    (ybd (gM_isMusic a1 s2) fun v3 s4 =>
    if v3 = 0 then
      (some ((-12), s4))
    else
      (yrd 60 6 a1 s4 fun v5 =>
      ybd (gM_in a2 0 (zsub v5 1) s4) fun v6 s7 =>
      if v6 = 0 then
        (some ((-1), s7))
      else
      ybd (gM_whole a1 a2 s7) fun v8 s9 =>
      ybd (gM_in a3 0 (zsub v8 1) s9) fun v10 s11 =>
      if v10 = 0 then
        (some ((-1), s11))
      else
      ybd (gM_barAt a1 a2 a3 s11) fun v12 s13 =>
      yrd 4800 13 v12 s13 fun v14 =>
      ybd (gM_in a4 0 (zsub v14 1) s13) fun v15 s16 =>
      if v15 = 0 then
        (some ((-1), s16))
      else
        (ybd (gM_in a5 1 60 s16) fun v17 s18 =>
        if v17 = 0 then
          (some ((-2), s18))
        else
          (ybd (gM_barAt a1 a2 a3 s18) fun v19 s20 =>
          yvl (zadd (zmul 8 v19) a4) fun v21 =>
          yrd 38400 10 v21 s20 fun v22 =>
          if v22 = (-1000) then
            (some ((-3), s20))
          else
            (yrd 38400 10 v21 s20 fun v23 =>
            ywi 38400 10 v21 a5 s20 fun s24 =>
            some (v23, s24))))))
theorem gM_alter_ok {E : Nat → Nat} {R : Nat} {h0 : zHp} (hw : zRg R h0) (d : Nat) (a1 : Int) (a2 : Int) (a3 : Int) (a4 : Int) (a5 : Int) (s : zSg) : zE (zov R h0) Ji E (d + 2) 217 (zB 217 0) (zent 8 [.inr (.inr R), .inl a1, .inl a2, .inl a3, .inl a4, .inl a5]) [] s (gM_alter a1 a2 a3 a4 a5 s) := by
  show zE _ _ _ _ _ _ [some (.inr (.inr R)), some (.inl a1), some (.inl a2), some (.inl a3), some (.inl a4), some (.inl a5), none, none] _ _ _
  unfold gM_alter
  refine zq_6_0 ?_
  refine zq_4_1 ?_
  refine zq_92_2i (zR_is hw) rfl rfl (gM_isThing_ok (E := E) hw _ _ _) fun v1 s2 => ?_
  refine zq_41 ?_ ?_
  · refine zq_1 ?_
    exact zq_95 rfl
  · refine zq_6_0 ?_
    refine zq_4_1 ?_
    refine zq_92_2i (zR_is hw) rfl rfl (gM_isMusic_ok (E := E) hw _ _ _) fun v3 s4 => ?_
    refine zq_41 ?_ ?_
    · refine zq_1 ?_
      exact zq_95 rfl
    · refine zq_4_2 ?_
      refine zq_1 ?_
      refine zq_6_0 ?_
      refine zr_61 hw rfl ?_
      refine zq_4_1 ?_
      refine zr_65 hw rfl rfl rfl ?_
      refine zq_1 ?_
      refine zq_12 ?_
      refine zq_90_3i rfl rfl (gM_in_ok (E := E) hw _ _ _ _ _) fun v6 s7 => ?_
      refine zq_40 ?_ ?_
      · refine zq_1 ?_
        exact zq_95 rfl
      refine zq_4_3 ?_
      refine zq_1 ?_
      refine zq_6_0 ?_
      refine zq_4_1 ?_
      refine zq_4_2 ?_
      refine zq_92_3i (zR_is hw) rfl rfl (gM_whole_ok (E := E) hw _ _ _ _) fun v8 s9 => ?_
      refine zq_1 ?_
      refine zq_12 ?_
      refine zq_90_3i rfl rfl (gM_in_ok (E := E) hw _ _ _ _ _) fun v10 s11 => ?_
      refine zq_40 ?_ ?_
      · refine zq_1 ?_
        exact zq_95 rfl
      refine zq_4_4 ?_
      refine zq_1 ?_
      refine zq_6_0 ?_
      refine zr_61 hw rfl ?_
      refine zq_6_0 ?_
      refine zq_4_1 ?_
      refine zq_4_2 ?_
      refine zq_4_3 ?_
      refine zq_92_4i (zR_is hw) rfl rfl (gM_barAt_ok (E := E) hw _ _ _ _ _) fun v12 s13 => ?_
      refine zr_65 hw rfl rfl rfl ?_
      refine zq_1 ?_
      refine zq_12 ?_
      refine zq_90_3i rfl rfl (gM_in_ok (E := E) hw _ _ _ _ _) fun v15 s16 => ?_
      refine zq_41 ?_ ?_
      · refine zq_57 ?_
        refine zq_1 ?_
        exact zq_95 rfl
      · refine zq_4_5 ?_
        refine zq_1 ?_
        refine zq_1 ?_
        refine zq_90_3i rfl rfl (gM_in_ok (E := E) hw _ _ _ _ _) fun v17 s18 => ?_
        refine zq_41 ?_ ?_
        · refine zq_1 ?_
          exact zq_95 rfl
        · refine zq_1 ?_
          refine zq_6_0 ?_
          refine zq_4_1 ?_
          refine zq_4_2 ?_
          refine zq_4_3 ?_
          refine zq_92_4i (zR_is hw) rfl rfl (gM_barAt_ok (E := E) hw _ _ _ _ _) fun v19 s20 => ?_
          refine zq_13 ?_
          refine zq_4_4 ?_
          refine zq_11 ?_
          refine zE_vl ?_
          refine zq_7_6 rfl ?_
          refine zq_6_0 ?_
          refine zr_61 hw rfl ?_
          refine zq_4_6 ?_
          refine zr_65 hw rfl rfl rfl ?_
          refine zq_1 ?_
          refine zq_47 ?_ ?_
          · refine zq_1 ?_
            exact zq_95 rfl
          · refine zq_6_0 ?_
            refine zr_61 hw rfl ?_
            refine zq_4_6 ?_
            refine zr_65 hw rfl rfl rfl ?_
            refine zq_7_7 rfl ?_
            refine zq_6_0 ?_
            refine zr_61 hw rfl ?_
            refine zq_4_6 ?_
            refine zq_4_5 ?_
            refine zr_68 hw rfl rfl rfl ?_
            refine zq_4_7 ?_
            exact zq_95 rfl
/-! 218: EngraversHouseModel.music:(IIIII)I -/
noncomputable def gM_music_l7 : Nat → Int → Int → Int → Int → Int → Int → zSg → (Int → zSg → Option (Int × zSg)) → (Int → zSg → Option (Int × zSg)) → (Int → Int → zSg → Option (Int × zSg)) → Option (Int × zSg)
  | 0, _, _, _, _, _, _, _, _, _, _ => none
  | n + 1, x20, x21, x22, x23, x24, x25, s26, k27, k28, k29 =>
   if x25 < x24 then
     (yvl (zladd (zi2l x23) (zi2l x25)) fun v30 =>
     yrd 6 78 x22 s26 fun v31 =>
     if v31 < 0 then
       (k27 x25 s26)
     else
     if (zlcmp v30 0) < 0 then
       (k27 x25 s26)
     else
     yrd 6 79 x22 s26 fun v32 =>
     if (zlcmp v30 (zi2l v32)) < 0 then
       (yjn (fun (x33 : Int) (x34 : Int) (x35 : Int) (x36 : Int) (x37 : Int) (x38 : Int) (x39 : Int) (s40 : zSg) =>
        if x39 < 0 then
          (if x39 = (-3) then
            (k29 x38 2 s40)
          else
            (k28 x38 s40))
        else
          (yvl (zadd x38 1) fun v42 =>
          gM_music_l7 n x33 x34 x35 x36 x37 v42 s40 k27 k28 k29)) fun q41 =>
        yjn (fun (x43 : Int) (x44 : Int) (x45 : Int) (x46 : Int) (x47 : Int) (x48 : Int) (s49 : zSg) =>
        q41 x43 x44 x45 x46 x47 x48 (-3) s49) fun q50 =>
        yrd 360 80 (zadd (zmul 60 x22) (zl2i v30)) s26 fun v51 =>
       yvl (zrem v51 100) fun v52 =>
       if v51 < 0 then
         (q50 x20 x21 x22 x23 x24 x25 s26)
       else
       ybd (gM_isNote (zdiv v51 100) (zdiv v52 2) (zrem v52 2) s26) fun v53 s54 =>
       if v53 = 0 then
         (q50 x20 x21 x22 x23 x24 x25 s54)
       else
         (ybd (gM_put x20 x21 (zdiv v51 100) (zdiv v52 2) (zrem v52 2) s54) fun v55 s56 =>
         q41 x20 x21 x22 x23 x24 x25 v55 s56))
     else
     k27 x25 s26)
   else
     (some (x24, s26))
theorem gM_music_l7_ok {E : Nat → Nat} {R : Nat} {h0 : zHp} (hw : zRg R h0) (d : Nat) : ∀ (n : Nat) (x20 : Int) (x21 : Int) (x22 : Int) (x23 : Int) (x24 : Int) (x25 : Int) (s26 : zSg) (k27 : Int → zSg → Option (Int × zSg)) (k28 : Int → zSg → Option (Int × zSg)) (k29 : Int → Int → zSg → Option (Int × zSg)) (hk27 : ∀ (y0 : Int) (s : zSg), zE (zov R h0) Ji E (d + 3) 218 (zB 218 8) ([some (.inr (.inr R)), none, none, none, none, none, some (.inl y0), none, none, none, none, none]) ([]) s (k27 y0 s)) (hk28 : ∀ (y0 : Int) (s : zSg), zE (zov R h0) Ji E (d + 3) 218 (zB 218 13) ([none, none, none, none, none, none, some (.inl y0), none, none, none, none, none]) ([.inr (.inr R)]) s (k28 y0 s)) (hk29 : ∀ (y0 : Int) (y1 : Int) (s : zSg), zE (zov R h0) Ji E (d + 3) 218 (zB 218 14) ([none, none, none, none, none, none, some (.inl y0), none, none, none, none, none]) ([.inl y1, .inr (.inr R)]) s (k29 y0 y1 s)), zE (zov R h0) Ji E (d + 3) 218 (zB 218 7) ([some (.inr (.inr R)), some (.inl x20), some (.inl x21), some (.inl x22), some (.inl x23), some (.inl x24), some (.inl x25), none, none, none, none, none]) ([]) s26 (gM_music_l7 n x20 x21 x22 x23 x24 x25 s26 k27 k28 k29) := by
  intro n
  induction n with
  | zero => intro x20 x21 x22 x23 x24 x25 s26 k27 k28 k29 hk27 hk28 hk29; exact zE_none
  | succ n ih =>
    intro x20 x21 x22 x23 x24 x25 s26 k27 k28 k29 hk27 hk28 hk29
    unfold gM_music_l7
    refine zq_4_6 ?_
    refine zq_4_5 ?_
    refine zq_49 ?_ ?_
    · refine zq_4_4 ?_
      refine zq_23 ?_
      refine zq_4_6 ?_
      refine zq_23 ?_
      refine zq_28 ?_
      refine zE_vl ?_
      refine zq_8_7 rfl ?_
      refine zq_6_0 ?_
      refine zr_61 hw rfl ?_
      refine zq_4_3 ?_
      refine zr_65 hw rfl rfl rfl ?_
      refine zq_42 ?_ ?_
      · exact zE_w [true, false, false, false, false, false, true, false, false, false, false, false] (hk27 _ _)
      refine zq_5_7 ?_
      refine zq_2 ?_
      refine zq_31 ?_
      refine zq_42 ?_ ?_
      · exact zE_w [true, false, false, false, false, false, true, false, false, false, false, false] (hk27 _ _)
      refine zq_5_7 ?_
      refine zq_6_0 ?_
      refine zr_61 hw rfl ?_
      refine zq_4_3 ?_
      refine zr_65 hw rfl rfl rfl ?_
      refine zq_23 ?_
      refine zq_31 ?_
      refine zq_42 ?_ ?_
      · refine zE_jn (fun q41 => ∀ (y0 : Int) (y1 : Int) (y2 : Int) (y3 : Int) (y4 : Int) (y5 : Int) (y6 : Int) (s : zSg), zE (zov R h0) Ji E (d + 3) 218 (zB 218 12) ([some (.inr (.inr R)), some (.inl y0), some (.inl y1), some (.inl y2), some (.inl y3), some (.inl y4), some (.inl y5), none, none, none, none, none]) ([.inl y6]) s (q41 y0 y1 y2 y3 y4 y5 y6 s)) (fun x33 x34 x35 x36 x37 x38 x39 s40 => ?_) (fun q41 hq41 => ?_)
        · refine zq_7_11 rfl ?_
          refine zq_4_11 ?_
          refine zq_43 ?_ ?_
          · refine zq_6_0 ?_
            refine zq_4_11 ?_
            refine zq_1 ?_
            refine zq_47 ?_ ?_
            · refine zq_1 ?_
              refine zq_56 ?_
              exact zE_w [false, false, false, false, false, false, true, false, false, false, false, false] (hk29 _ _ _)
            · exact zE_w [false, false, false, false, false, false, true, false, false, false, false, false] (hk28 _ _)
          · refine zE_vl ?_
            refine zq_10_6 rfl ?_
            refine zq_56 ?_
            exact zE_w [true, true, true, true, true, true, true, false, false, false, false, false] (ih _ _ _ _ _ _ _ _ _ _ hk27 hk28 hk29)
        refine zE_jn (fun q50 => ∀ (y0 : Int) (y1 : Int) (y2 : Int) (y3 : Int) (y4 : Int) (y5 : Int) (s : zSg), zE (zov R h0) Ji E (d + 3) 218 (zB 218 10) ([some (.inr (.inr R)), some (.inl y0), some (.inl y1), some (.inl y2), some (.inl y3), some (.inl y4), some (.inl y5), none, none, none, none, none]) ([]) s (q50 y0 y1 y2 y3 y4 y5 s)) (fun x43 x44 x45 x46 x47 x48 s49 => ?_) (fun q50 hq50 => ?_)
        · refine zq_1 ?_
          refine zq_56 ?_
          exact zE_w [true, true, true, true, true, true, true, false, false, false, false, false] (hq41 _ _ _ _ _ _ _ _)
        refine zq_6_0 ?_
        refine zr_61 hw rfl ?_
        refine zq_1 ?_
        refine zq_4_3 ?_
        refine zq_13 ?_
        refine zq_5_7 ?_
        refine zq_24 ?_
        refine zq_11 ?_
        refine zr_65 hw rfl rfl rfl ?_
        refine zq_7_9 rfl ?_
        refine zq_4_9 ?_
        refine zq_1 ?_
        refine zq_15c (by decide) ?_
        refine zE_vl ?_
        refine zq_7_10 rfl ?_
        refine zq_4_9 ?_
        refine zq_42 ?_ ?_
        · exact zE_w [true, true, true, true, true, true, true, false, false, false, false, false] (hq50 _ _ _ _ _ _ _)
        refine zq_4_9 ?_
        refine zq_1 ?_
        refine zq_14c (by decide) ?_
        refine zq_4_10 ?_
        refine zq_1 ?_
        refine zq_14c (by decide) ?_
        refine zq_4_10 ?_
        refine zq_1 ?_
        refine zq_15c (by decide) ?_
        refine zq_90_3i rfl rfl (gM_isNote_ok (E := E) hw _ _ _ _ _) fun v53 s54 => ?_
        refine zq_41 ?_ ?_
        · refine zq_57 ?_
          exact zE_w [true, true, true, true, true, true, true, false, false, false, false, false] (hq50 _ _ _ _ _ _ _)
        · refine zq_6_0 ?_
          refine zq_4_1 ?_
          refine zq_4_2 ?_
          refine zq_4_9 ?_
          refine zq_1 ?_
          refine zq_14c (by decide) ?_
          refine zq_4_10 ?_
          refine zq_1 ?_
          refine zq_14c (by decide) ?_
          refine zq_4_10 ?_
          refine zq_1 ?_
          refine zq_15c (by decide) ?_
          refine zq_92_6i (zR_is hw) rfl rfl (gM_put_ok (E := E) hw _ _ _ _ _ _ _) fun v55 s56 => ?_
          refine zq_57 ?_
          exact zE_w [true, true, true, true, true, true, true, false, false, false, false, false] (hq41 _ _ _ _ _ _ _ _)
      refine zq_57 ?_
      exact zE_w [true, false, false, false, false, false, true, false, false, false, false, false] (hk27 _ _)
    · refine zq_4_5 ?_
      exact zq_95 rfl
noncomputable def gM_music (a1 : Int) (a2 : Int) (a3 : Int) (a4 : Int) (a5 : Int) (s : zSg) : Option (Int × zSg) :=
  ybd (gM_isThing a1 s) fun v1 s2 =>
  if v1 = 0 then
    (some ((-1), s2))
  else
  ybd (gM_in a3 0 5 s2) fun v3 s4 =>
  if v3 = 0 then
    (some ((-1), s4))
  else
    (ybd (gM_isMusic a1 s4) fun v5 s6 =>
    if v5 = 0 then
      (some ((-12), s6))
    else
      (yrd 60 6 a1 s6 fun v7 =>
      ybd (gM_in a2 0 (zsub v7 1) s6) fun v8 s9 =>
      if v8 = 0 then
        (some ((-1), s9))
      else
        (ybd (gM_in a5 1 60 s9) fun v10 s11 =>
        if v10 = 0 then
          (some ((-2), s11))
        else
          (yjn (fun (x12 : Int) (x13 : Int) (x14 : Int) (x15 : Int) (x16 : Int) (s17 : zSg) =>
           yvl (zup s17 0 15 0) fun s19 =>
           yjn (fun (x57 : Int) (s58 : zSg) =>
            yvl (zup s58 0 15 1) fun s60 =>
            some (x57, s60)) fun q59 =>
            yjn (fun (x61 : Int) (x62 : Int) (s63 : zSg) =>
            yvl (zup s63 0 15 x62) fun s65 =>
            some (x61, s65)) fun q64 =>
            yjn (fun (x66 : Int) (s67 : zSg) =>
            q64 x66 3 s67) fun q68 =>
            gM_music_l7 zFU x12 x13 x14 x15 x16 0 s19 q59 q68 q64) fun q18 =>
           yrd 6 78 a3 s11 fun v69 =>
          if v69 < 0 then
            (q18 a1 a2 a3 a4 a5 s11)
          else
          yrd 6 78 a3 s11 fun v70 =>
          if v70 = 1 then
            (q18 a1 a2 a3 a4 a5 s11)
          else
          some ((-12), s11)))))
theorem gM_music_ok {E : Nat → Nat} {R : Nat} {h0 : zHp} (hw : zRg R h0) (d : Nat) (a1 : Int) (a2 : Int) (a3 : Int) (a4 : Int) (a5 : Int) (s : zSg) : zE (zov R h0) Ji E (d + 3) 218 (zB 218 0) (zent 12 [.inr (.inr R), .inl a1, .inl a2, .inl a3, .inl a4, .inl a5]) [] s (gM_music a1 a2 a3 a4 a5 s) := by
  show zE _ _ _ _ _ _ [some (.inr (.inr R)), some (.inl a1), some (.inl a2), some (.inl a3), some (.inl a4), some (.inl a5), none, none, none, none, none, none] _ _ _
  unfold gM_music
  refine zq_6_0 ?_
  refine zq_4_1 ?_
  refine zq_92_2i (zR_is hw) rfl rfl (gM_isThing_ok (E := E) hw _ _ _) fun v1 s2 => ?_
  refine zq_40 ?_ ?_
  · refine zq_1 ?_
    exact zq_95 rfl
  refine zq_4_3 ?_
  refine zq_1 ?_
  refine zq_1 ?_
  refine zq_90_3i rfl rfl (gM_in_ok (E := E) hw _ _ _ _ _) fun v3 s4 => ?_
  refine zq_41 ?_ ?_
  · refine zq_57 ?_
    refine zq_1 ?_
    exact zq_95 rfl
  · refine zq_6_0 ?_
    refine zq_4_1 ?_
    refine zq_92_2i (zR_is hw) rfl rfl (gM_isMusic_ok (E := E) hw _ _ _) fun v5 s6 => ?_
    refine zq_41 ?_ ?_
    · refine zq_1 ?_
      exact zq_95 rfl
    · refine zq_4_2 ?_
      refine zq_1 ?_
      refine zq_6_0 ?_
      refine zr_61 hw rfl ?_
      refine zq_4_1 ?_
      refine zr_65 hw rfl rfl rfl ?_
      refine zq_1 ?_
      refine zq_12 ?_
      refine zq_90_3i rfl rfl (gM_in_ok (E := E) hw _ _ _ _ _) fun v8 s9 => ?_
      refine zq_41 ?_ ?_
      · refine zq_1 ?_
        exact zq_95 rfl
      · refine zq_4_5 ?_
        refine zq_1 ?_
        refine zq_1 ?_
        refine zq_90_3i rfl rfl (gM_in_ok (E := E) hw _ _ _ _ _) fun v10 s11 => ?_
        refine zq_41 ?_ ?_
        · refine zq_1 ?_
          exact zq_95 rfl
        · refine zE_jn (fun q18 => ∀ (y0 : Int) (y1 : Int) (y2 : Int) (y3 : Int) (y4 : Int) (s : zSg), zE (zov R h0) Ji E (d + 3) 218 (zB 218 6) ([some (.inr (.inr R)), some (.inl y0), some (.inl y1), some (.inl y2), some (.inl y3), some (.inl y4), none, none, none, none, none, none]) ([]) s (q18 y0 y1 y2 y3 y4 s)) (fun x12 x13 x14 x15 x16 s17 => ?_) (fun q18 hq18 => ?_)
          · refine zq_6_0 ?_
            refine zq_1 ?_
            refine zE_vl ?_
            refine zr_62 hw rfl ?_
            refine zq_1 ?_
            refine zq_7_6 rfl ?_
            refine zq_57 ?_
            refine zE_jn (fun q59 => ∀ (y0 : Int) (s : zSg), zE (zov R h0) Ji E (d + 3) 218 (zB 218 8) ([some (.inr (.inr R)), none, none, none, none, none, some (.inl y0), none, none, none, none, none]) ([]) s (q59 y0 s)) (fun x57 s58 => ?_) (fun q59 hq59 => ?_)
            · refine zq_6_0 ?_
              refine zq_1 ?_
              refine zE_vl ?_
              refine zr_62 hw rfl ?_
              refine zq_4_6 ?_
              exact zq_95 rfl
            refine zE_jn (fun q64 => ∀ (y0 : Int) (y1 : Int) (s : zSg), zE (zov R h0) Ji E (d + 3) 218 (zB 218 14) ([none, none, none, none, none, none, some (.inl y0), none, none, none, none, none]) ([.inl y1, .inr (.inr R)]) s (q64 y0 y1 s)) (fun x61 x62 s63 => ?_) (fun q64 hq64 => ?_)
            · refine zE_vl ?_
              refine zr_62 hw rfl ?_
              refine zq_4_6 ?_
              exact zq_95 rfl
            refine zE_jn (fun q68 => ∀ (y0 : Int) (s : zSg), zE (zov R h0) Ji E (d + 3) 218 (zB 218 13) ([none, none, none, none, none, none, some (.inl y0), none, none, none, none, none]) ([.inr (.inr R)]) s (q68 y0 s)) (fun x66 s67 => ?_) (fun q68 hq68 => ?_)
            · refine zq_1 ?_
              refine zq_57 ?_
              exact zE_w [false, false, false, false, false, false, true, false, false, false, false, false] (hq64 _ _ _)
            exact zE_w [true, true, true, true, true, true, true, false, false, false, false, false] (gM_music_l7_ok (E := E) hw d zFU _ _ _ _ _ _ _ _ _ _ hq59 hq68 hq64)
          refine zq_6_0 ?_
          refine zr_61 hw rfl ?_
          refine zq_4_3 ?_
          refine zr_65 hw rfl rfl rfl ?_
          refine zq_42 ?_ ?_
          · exact zE_w [true, true, true, true, true, true, false, false, false, false, false, false] (hq18 _ _ _ _ _ _)
          refine zq_6_0 ?_
          refine zr_61 hw rfl ?_
          refine zq_4_3 ?_
          refine zr_65 hw rfl rfl rfl ?_
          refine zq_1 ?_
          refine zq_46 ?_ ?_
          · exact zE_w [true, true, true, true, true, true, false, false, false, false, false, false] (hq18 _ _ _ _ _ _)
          refine zq_1 ?_
          exact zq_95 rfl
/-! 219: EngraversHouseModel.ended:()I -/
noncomputable def gM_ended (s : zSg) : Option (Int × zSg) :=
  if (s 0 15) < 0 then
    (some ((-3), s))
  else
    (some (s 0 15, s))
theorem gM_ended_ok {E : Nat → Nat} {R : Nat} {h0 : zHp} (hw : zRg R h0) (d : Nat) (s : zSg) : zE (zov R h0) Ji E (d + 0) 219 (zB 219 0) (zent 1 [.inr (.inr R)]) [] s (gM_ended s) := by
  show zE _ _ _ _ _ _ [some (.inr (.inr R))] _ _ _
  unfold gM_ended
  refine zq_6_0 ?_
  refine zr_60 hw rfl ?_
  refine zq_43 ?_ ?_
  · refine zq_1 ?_
    refine zq_56 ?_
    exact zq_95 rfl
  · refine zq_6_0 ?_
    refine zr_60 hw rfl ?_
    refine zq_57 ?_
    exact zq_95 rfl
/-! 220: EngraversHouseModel.scoreOf:(I)I -/
noncomputable def gM_scoreOf (a1 : Int) (s : zSg) : Option (Int × zSg) :=
  yjn (fun (x1 : Int) (s2 : zSg) =>
   yrd 60 4 x1 s2 fun v4 =>
   some (v4, s2)) fun q3 =>
   yrd 60 3 a1 s fun v5 =>
  if v5 = 2 then
    (q3 a1 s)
  else if v5 = 3 then
    (yrd 60 4 a1 s fun v6 =>
    yrd 60 4 v6 s fun v7 =>
    some (v7, s))
  else if v5 = 4 then
    (q3 a1 s)
  else if v5 = 5 then
    (q3 a1 s)
  else if v5 = 6 then
    (some (a1, s))
  else if v5 = 7 then
    (yrd 60 4 a1 s fun v8 =>
    yrd 60 4 v8 s fun v9 =>
    some (v9, s))
  else some (a1, s)
theorem gM_scoreOf_ok {E : Nat → Nat} {R : Nat} {h0 : zHp} (hw : zRg R h0) (d : Nat) (a1 : Int) (s : zSg) : zE (zov R h0) Ji E (d + 0) 220 (zB 220 0) (zent 2 [.inr (.inr R), .inl a1]) [] s (gM_scoreOf a1 s) := by
  show zE _ _ _ _ _ _ [some (.inr (.inr R)), some (.inl a1)] _ _ _
  unfold gM_scoreOf
  refine zE_jn (fun q3 => ∀ (y0 : Int) (s : zSg), zE (zov R h0) Ji E (d + 0) 220 (zB 220 1) ([some (.inr (.inr R)), some (.inl y0)]) ([]) s (q3 y0 s)) (fun x1 s2 => ?_) (fun q3 hq3 => ?_)
  · refine zq_6_0 ?_
    refine zr_61 hw rfl ?_
    refine zq_4_1 ?_
    refine zr_65 hw rfl rfl rfl ?_
    exact zq_95 rfl
  refine zq_6_0 ?_
  refine zr_61 hw rfl ?_
  refine zq_4_1 ?_
  refine zr_65 hw rfl rfl rfl ?_
  refine zq_58 ?_
  refine zq_sw ?_ ?_
  · exact zE_w [true, true] (hq3 _ _)
  refine zq_sw ?_ ?_
  · refine zq_6_0 ?_
    refine zr_61 hw rfl ?_
    refine zq_6_0 ?_
    refine zr_61 hw rfl ?_
    refine zq_4_1 ?_
    refine zr_65 hw rfl rfl rfl ?_
    refine zr_65 hw rfl rfl rfl ?_
    exact zq_95 rfl
  refine zq_sw ?_ ?_
  · exact zE_w [true, true] (hq3 _ _)
  refine zq_sw ?_ ?_
  · exact zE_w [true, true] (hq3 _ _)
  refine zq_sw ?_ ?_
  · refine zq_4_1 ?_
    exact zq_95 rfl
  refine zq_sw ?_ ?_
  · refine zq_6_0 ?_
    refine zr_61 hw rfl ?_
    refine zq_6_0 ?_
    refine zr_61 hw rfl ?_
    refine zq_4_1 ?_
    refine zr_65 hw rfl rfl rfl ?_
    refine zr_65 hw rfl rfl rfl ?_
    exact zq_95 rfl
  refine zq_4_1 ?_
  exact zq_95 rfl
/-! 221: EngraversHouseModel.errataOf:(I)I -/
noncomputable def gM_errataOf_l1 : Nat → Int → Int → Int → zSg → Option (Int × zSg)
  | 0, _, _, _, _ => none
  | n + 1, x1, x2, x3, s4 =>
   yjn (fun (x5 : Int) (x6 : Int) (x7 : Int) (x8 : Int) (s9 : zSg) =>
    yvl (zadd x7 x8) fun v11 =>
    yvl (zadd x6 1) fun v12 =>
    gM_errataOf_l1 n x5 v11 v12 s9) fun q10 =>
    yjn (fun (x13 : Int) (x14 : Int) (x15 : Int) (s16 : zSg) =>
    q10 x13 x14 x15 0 s16) fun q17 =>
    if x3 < (s4 0 2) then
     (yrd 60 3 x3 s4 fun v18 =>
     if v18 = 7 then
       (yrd 60 4 x3 s4 fun v19 =>
       if v19 = x1 then
         (q10 x1 x3 x2 1 s4)
       else
         (q17 x1 x3 x2 s4))
     else
       (q17 x1 x3 x2 s4))
   else
     (some (x2, s4))
theorem gM_errataOf_l1_ok {E : Nat → Nat} {R : Nat} {h0 : zHp} (hw : zRg R h0) (d : Nat) : ∀ (n : Nat) (x1 : Int) (x2 : Int) (x3 : Int) (s4 : zSg), zE (zov R h0) Ji E (d + 0) 221 (zB 221 1) ([some (.inr (.inr R)), some (.inl x1), some (.inl x2), some (.inl x3)]) ([]) s4 (gM_errataOf_l1 n x1 x2 x3 s4) := by
  intro n
  induction n with
  | zero => intro x1 x2 x3 s4; exact zE_none
  | succ n ih =>
    intro x1 x2 x3 s4
    unfold gM_errataOf_l1
    refine zE_jn (fun q10 => ∀ (y0 : Int) (y1 : Int) (y2 : Int) (y3 : Int) (s : zSg), zE (zov R h0) Ji E (d + 0) 221 (zB 221 3) ([some (.inr (.inr R)), some (.inl y0), none, some (.inl y1)]) ([.inl y3, .inl y2]) s (q10 y0 y1 y2 y3 s)) (fun x5 x6 x7 x8 s9 => ?_) (fun q10 hq10 => ?_)
    · refine zq_11 ?_
      refine zE_vl ?_
      refine zq_7_2 rfl ?_
      refine zE_vl ?_
      refine zq_10_3 rfl ?_
      refine zq_56 ?_
      exact zE_w [true, true, true, true] (ih _ _ _ _)
    refine zE_jn (fun q17 => ∀ (y0 : Int) (y1 : Int) (y2 : Int) (s : zSg), zE (zov R h0) Ji E (d + 0) 221 (zB 221 2) ([some (.inr (.inr R)), some (.inl y0), none, some (.inl y1)]) ([.inl y2]) s (q17 y0 y1 y2 s)) (fun x13 x14 x15 s16 => ?_) (fun q17 hq17 => ?_)
    · refine zq_1 ?_
      refine zq_57 ?_
      exact zE_w [true, true, false, true] (hq10 _ _ _ _ _)
    refine zq_4_3 ?_
    refine zq_6_0 ?_
    refine zr_60 hw rfl ?_
    refine zq_49 ?_ ?_
    · refine zq_4_2 ?_
      refine zq_6_0 ?_
      refine zr_61 hw rfl ?_
      refine zq_4_3 ?_
      refine zr_65 hw rfl rfl rfl ?_
      refine zq_1 ?_
      refine zq_47 ?_ ?_
      · refine zq_6_0 ?_
        refine zr_61 hw rfl ?_
        refine zq_4_3 ?_
        refine zr_65 hw rfl rfl rfl ?_
        refine zq_4_1 ?_
        refine zq_47 ?_ ?_
        · refine zq_1 ?_
          refine zq_56 ?_
          exact zE_w [true, true, false, true] (hq10 _ _ _ _ _)
        · exact zE_w [true, true, false, true] (hq17 _ _ _ _)
      · exact zE_w [true, true, false, true] (hq17 _ _ _ _)
    · refine zq_4_2 ?_
      exact zq_95 rfl
noncomputable def gM_errataOf (a1 : Int) (s : zSg) : Option (Int × zSg) :=
  gM_errataOf_l1 zFU a1 0 0 s
theorem gM_errataOf_ok {E : Nat → Nat} {R : Nat} {h0 : zHp} (hw : zRg R h0) (d : Nat) (a1 : Int) (s : zSg) : zE (zov R h0) Ji E (d + 0) 221 (zB 221 0) (zent 4 [.inr (.inr R), .inl a1]) [] s (gM_errataOf a1 s) := by
  show zE _ _ _ _ _ _ [some (.inr (.inr R)), some (.inl a1), none, none] _ _ _
  unfold gM_errataOf
  refine zq_1 ?_
  refine zq_7_2 rfl ?_
  refine zq_1 ?_
  refine zq_7_3 rfl ?_
  refine zq_57 ?_
  exact zE_w [true, true, true, true] (gM_errataOf_l1_ok (E := E) hw d zFU _ _ _ _)
/-! 222: EngraversHouseModel.of:(II)I -/
noncomputable def gM_of (a1 : Int) (a2 : Int) (s : zSg) : Option (Int × zSg) :=
  ybd (gM_isThing a1 s) fun v1 s2 =>
  if v1 = 0 then
    (some ((-100), s2))
  else
  ybd (gM_in a2 0 3 s2) fun v3 s4 =>
  if v3 = 0 then
    (some ((-100), s4))
  else
    (if a2 = 0 then
      (yrd 60 3 a1 s4 fun v19 =>
      some (v19, s4))
    else
      (if a2 = 1 then
        (ybd (gM_isMusic a1 s4) fun v14 s15 =>
        if v14 = 0 then
          (ybd (gM_scoreOf a1 s15) fun v16 s17 =>
          some (v16, s17))
        else
        yrd 60 4 a1 s15 fun v18 =>
        some (v18, s15))
      else
        (yrd 60 3 a1 s4 fun v5 =>
        if v5 = 3 then
          (if a2 = 2 then
            (yrd 60 4 a1 s4 fun v7 =>
            yrd 60 5 v7 s4 fun v8 =>
            some (v8, s4))
          else
            (yrd 60 5 a1 s4 fun v6 =>
            some (v6, s4)))
        else if v5 = 4 then
          (if a2 = 2 then
            (yrd 60 5 a1 s4 fun v11 =>
            some (v11, s4))
          else
            (ybd (gM_errataOf a1 s4) fun v9 s10 =>
            some (v9, s10)))
        else if a2 = 2 then
          (yrd 60 5 a1 s4 fun v13 =>
          some (v13, s4))
        else
          (yrd 60 6 a1 s4 fun v12 =>
          some (v12, s4)))))
theorem gM_of_ok {E : Nat → Nat} {R : Nat} {h0 : zHp} (hw : zRg R h0) (d : Nat) (a1 : Int) (a2 : Int) (s : zSg) : zE (zov R h0) Ji E (d + 2) 222 (zB 222 0) (zent 3 [.inr (.inr R), .inl a1, .inl a2]) [] s (gM_of a1 a2 s) := by
  show zE _ _ _ _ _ _ [some (.inr (.inr R)), some (.inl a1), some (.inl a2)] _ _ _
  unfold gM_of
  refine zq_6_0 ?_
  refine zq_4_1 ?_
  refine zq_92_2i (zR_is hw) rfl rfl (gM_isThing_ok (E := E) hw _ _ _) fun v1 s2 => ?_
  refine zq_40 ?_ ?_
  · refine zq_1 ?_
    exact zq_95 rfl
  refine zq_4_2 ?_
  refine zq_1 ?_
  refine zq_1 ?_
  refine zq_90_3i rfl rfl (gM_in_ok (E := E) hw _ _ _ _ _) fun v3 s4 => ?_
  refine zq_41 ?_ ?_
  · refine zq_57 ?_
    refine zq_1 ?_
    exact zq_95 rfl
  · refine zq_4_2 ?_
    refine zq_41 ?_ ?_
    · refine zq_6_0 ?_
      refine zr_61 hw rfl ?_
      refine zq_4_1 ?_
      refine zr_65 hw rfl rfl rfl ?_
      exact zq_95 rfl
    · refine zq_4_2 ?_
      refine zq_1 ?_
      refine zq_47 ?_ ?_
      · refine zq_6_0 ?_
        refine zq_4_1 ?_
        refine zq_92_2i (zR_is hw) rfl rfl (gM_isMusic_ok (E := E) hw _ _ _) fun v14 s15 => ?_
        refine zq_40 ?_ ?_
        · refine zq_6_0 ?_
          refine zq_4_1 ?_
          refine zq_92_2i (zR_is hw) rfl rfl (gM_scoreOf_ok (E := E) hw _ _ _) fun v16 s17 => ?_
          refine zq_57 ?_
          exact zq_95 rfl
        refine zq_6_0 ?_
        refine zr_61 hw rfl ?_
        refine zq_4_1 ?_
        refine zr_65 hw rfl rfl rfl ?_
        refine zq_56 ?_
        exact zq_95 rfl
      · refine zq_6_0 ?_
        refine zr_61 hw rfl ?_
        refine zq_4_1 ?_
        refine zr_65 hw rfl rfl rfl ?_
        refine zq_59 ?_
        refine zq_sw ?_ ?_
        · refine zq_4_2 ?_
          refine zq_1 ?_
          refine zq_47 ?_ ?_
          · refine zq_6_0 ?_
            refine zr_61 hw rfl ?_
            refine zq_6_0 ?_
            refine zr_61 hw rfl ?_
            refine zq_4_1 ?_
            refine zr_65 hw rfl rfl rfl ?_
            refine zr_65 hw rfl rfl rfl ?_
            refine zq_56 ?_
            exact zq_95 rfl
          · refine zq_6_0 ?_
            refine zr_61 hw rfl ?_
            refine zq_4_1 ?_
            refine zr_65 hw rfl rfl rfl ?_
            refine zq_57 ?_
            exact zq_95 rfl
        refine zq_sw ?_ ?_
        · refine zq_4_2 ?_
          refine zq_1 ?_
          refine zq_47 ?_ ?_
          · refine zq_6_0 ?_
            refine zr_61 hw rfl ?_
            refine zq_4_1 ?_
            refine zr_65 hw rfl rfl rfl ?_
            refine zq_56 ?_
            exact zq_95 rfl
          · refine zq_6_0 ?_
            refine zq_4_1 ?_
            refine zq_92_2i (zR_is hw) rfl rfl (gM_errataOf_ok (E := E) hw _ _ _) fun v9 s10 => ?_
            refine zq_57 ?_
            exact zq_95 rfl
        refine zq_4_2 ?_
        refine zq_1 ?_
        refine zq_47 ?_ ?_
        · refine zq_6_0 ?_
          refine zr_61 hw rfl ?_
          refine zq_4_1 ?_
          refine zr_65 hw rfl rfl rfl ?_
          refine zq_56 ?_
          exact zq_95 rfl
        · refine zq_6_0 ?_
          refine zr_61 hw rfl ?_
          refine zq_4_1 ?_
          refine zr_65 hw rfl rfl rfl ?_
          refine zq_57 ?_
          exact zq_95 rfl
/-! 223: EngraversHouseModel.bars:(II)I -/
noncomputable def gM_bars (a1 : Int) (a2 : Int) (s : zSg) : Option (Int × zSg) :=
  ybd (gM_isThing a1 s) fun v1 s2 =>
  if v1 = 0 then
    (some ((-1), s2))
  else
    (ybd (gM_isMusic a1 s2) fun v3 s4 =>
    if v3 = 0 then
      (some ((-12), s4))
    else
      (yrd 60 6 a1 s4 fun v5 =>
      ybd (gM_in a2 0 (zsub v5 1) s4) fun v6 s7 =>
      if v6 = 0 then
        (some ((-1), s7))
      else
      ybd (gM_whole a1 a2 s7) fun v8 s9 =>
      some (v8, s9)))
theorem gM_bars_ok {E : Nat → Nat} {R : Nat} {h0 : zHp} (hw : zRg R h0) (d : Nat) (a1 : Int) (a2 : Int) (s : zSg) : zE (zov R h0) Ji E (d + 2) 223 (zB 223 0) (zent 3 [.inr (.inr R), .inl a1, .inl a2]) [] s (gM_bars a1 a2 s) := by
  show zE _ _ _ _ _ _ [some (.inr (.inr R)), some (.inl a1), some (.inl a2)] _ _ _
  unfold gM_bars
  refine zq_6_0 ?_
  refine zq_4_1 ?_
  refine zq_92_2i (zR_is hw) rfl rfl (gM_isThing_ok (E := E) hw _ _ _) fun v1 s2 => ?_
  refine zq_41 ?_ ?_
  · refine zq_1 ?_
    exact zq_95 rfl
  · refine zq_6_0 ?_
    refine zq_4_1 ?_
    refine zq_92_2i (zR_is hw) rfl rfl (gM_isMusic_ok (E := E) hw _ _ _) fun v3 s4 => ?_
    refine zq_41 ?_ ?_
    · refine zq_1 ?_
      exact zq_95 rfl
    · refine zq_4_2 ?_
      refine zq_1 ?_
      refine zq_6_0 ?_
      refine zr_61 hw rfl ?_
      refine zq_4_1 ?_
      refine zr_65 hw rfl rfl rfl ?_
      refine zq_1 ?_
      refine zq_12 ?_
      refine zq_90_3i rfl rfl (gM_in_ok (E := E) hw _ _ _ _ _) fun v6 s7 => ?_
      refine zq_40 ?_ ?_
      · refine zq_1 ?_
        refine zq_57 ?_
        exact zq_95 rfl
      refine zq_6_0 ?_
      refine zq_4_1 ?_
      refine zq_4_2 ?_
      refine zq_92_3i (zR_is hw) rfl rfl (gM_whole_ok (E := E) hw _ _ _ _) fun v8 s9 => ?_
      refine zq_56 ?_
      exact zq_95 rfl
/-! 224: EngraversHouseModel.readBar:(II)V -/
noncomputable def gM_readBar_l1 : Nat → Int → Int → Int → zSg → Option (Unit × zSg)
  | 0, _, _, _, _ => none
  | n + 1, x6, x7, x8, s9 =>
   yjn (fun (x10 : Int) (x11 : Int) (x12 : Int) (x13 : Int) (x14 : Int) (s15 : zSg) =>
    yjn (fun (x17 : Int) (x18 : Int) (x19 : Int) (s20 : zSg) =>
     yvl (zadd x19 1) fun v22 =>
     gM_readBar_l1 n x17 x18 v22 s20) fun q21 =>
     yjn (fun (x23 : Int) (x24 : Int) (x25 : Int) (x26 : Int) (x27 : Int) (s28 : zSg) =>
     ywi 8 17 (s28 0 16) x27 s28 fun s30 =>
     yrd 38400 11 x26 s30 fun v31 =>
     ywi 8 18 (s30 0 16) v31 s30 fun s32 =>
     yrd 38400 12 x26 s32 fun v33 =>
     ywi 8 19 (s32 0 16) v33 s32 fun s34 =>
     yvl (zup s34 0 16 (zadd (s34 0 16) 1)) fun s35 =>
     q21 x23 x24 x25 s35) fun q29 =>
     yjn (fun (x36 : Int) (x37 : Int) (x38 : Int) (x39 : Int) (x40 : Int) (s41 : zSg) =>
     yrd 8 18 x40 s41 fun v43 =>
     yrd 38400 11 x39 s41 fun v44 =>
     ywi 8 18 x40 (zadd v43 v44) s41 fun s45 =>
     yrd 38400 12 x39 s45 fun v46 =>
     ywi 8 19 x40 v46 s45 fun s47 =>
     q21 x36 x37 x38 s47) fun q42 =>
     yvl (zsub (s15 0 16) 1) fun v48 =>
    if v48 < 0 then
      (q29 x10 x11 x12 x13 x14 s15)
    else
    yrd 8 17 v48 s15 fun v49 =>
    if v49 = x14 then
      (if x14 = (-1000) then
        (q42 x10 x11 x12 x13 v48 s15)
      else
      yrd 8 19 v48 s15 fun v50 =>
      if v50 = 1 then
        (q42 x10 x11 x12 x13 v48 s15)
      else
        (q29 x10 x11 x12 x13 x14 s15))
    else
      (q29 x10 x11 x12 x13 x14 s15)) fun q16 =>
    yrd 4800 13 x7 s9 fun v51 =>
   if x8 < v51 then
     (yvl (zadd (zmul 8 x7) x8) fun v52 =>
     yrd 38400 10 v52 s9 fun v53 =>
     if v53 = (-1000) then
       (q16 x6 x7 x8 v52 (-1000) s9)
     else
       (yrd 38400 10 v52 s9 fun v54 =>
       yrd 60 6 x6 s9 fun v55 =>
       q16 x6 x7 x8 v52 (zadd v54 v55) s9))
   else
     (some ((), s9))
theorem gM_readBar_l1_ok {E : Nat → Nat} {R : Nat} {h0 : zHp} (hw : zRg R h0) (d : Nat) : ∀ (n : Nat) (x6 : Int) (x7 : Int) (x8 : Int) (s9 : zSg), zE (zov R h0) Jv E (d + 1) 224 (zB 224 1) ([some (.inr (.inr R)), some (.inl x6), none, some (.inl x7), some (.inl x8), none, none, none]) ([]) s9 (gM_readBar_l1 n x6 x7 x8 s9) := by
  intro n
  induction n with
  | zero => intro x6 x7 x8 s9; exact zE_none
  | succ n ih =>
    intro x6 x7 x8 s9
    unfold gM_readBar_l1
    refine zE_jn (fun q16 => ∀ (y0 : Int) (y1 : Int) (y2 : Int) (y3 : Int) (y4 : Int) (s : zSg), zE (zov R h0) Jv E (d + 1) 224 (zB 224 3) ([some (.inr (.inr R)), some (.inl y0), none, some (.inl y1), some (.inl y2), some (.inl y3), none, none]) ([.inl y4]) s (q16 y0 y1 y2 y3 y4 s)) (fun x10 x11 x12 x13 x14 s15 => ?_) (fun q16 hq16 => ?_)
    · refine zE_jn (fun q21 => ∀ (y0 : Int) (y1 : Int) (y2 : Int) (s : zSg), zE (zov R h0) Jv E (d + 1) 224 (zB 224 6) ([some (.inr (.inr R)), some (.inl y0), none, some (.inl y1), some (.inl y2), none, none, none]) ([]) s (q21 y0 y1 y2 s)) (fun x17 x18 x19 s20 => ?_) (fun q21 hq21 => ?_)
      · refine zE_vl ?_
        refine zq_10_4 rfl ?_
        refine zq_56 ?_
        exact zE_w [true, true, false, true, true, false, false, false] (ih _ _ _ _)
      refine zE_jn (fun q29 => ∀ (y0 : Int) (y1 : Int) (y2 : Int) (y3 : Int) (y4 : Int) (s : zSg), zE (zov R h0) Jv E (d + 1) 224 (zB 224 5) ([some (.inr (.inr R)), some (.inl y0), none, some (.inl y1), some (.inl y2), some (.inl y3), some (.inl y4), none]) ([]) s (q29 y0 y1 y2 y3 y4 s)) (fun x23 x24 x25 x26 x27 s28 => ?_) (fun q29 hq29 => ?_)
      · refine zq_6_0 ?_
        refine zr_61 hw rfl ?_
        refine zq_6_0 ?_
        refine zr_60 hw rfl ?_
        refine zq_4_6 ?_
        refine zr_68 hw rfl rfl rfl ?_
        refine zq_6_0 ?_
        refine zr_61 hw rfl ?_
        refine zq_6_0 ?_
        refine zr_60 hw rfl ?_
        refine zq_6_0 ?_
        refine zr_61 hw rfl ?_
        refine zq_4_5 ?_
        refine zr_65 hw rfl rfl rfl ?_
        refine zr_68 hw rfl rfl rfl ?_
        refine zq_6_0 ?_
        refine zr_61 hw rfl ?_
        refine zq_6_0 ?_
        refine zr_60 hw rfl ?_
        refine zq_6_0 ?_
        refine zr_61 hw rfl ?_
        refine zq_4_5 ?_
        refine zr_65 hw rfl rfl rfl ?_
        refine zr_68 hw rfl rfl rfl ?_
        refine zq_6_0 ?_
        refine zq_33 ?_
        refine zr_60 hw rfl ?_
        refine zq_1 ?_
        refine zq_11 ?_
        refine zE_vl ?_
        refine zr_62 hw rfl ?_
        refine zq_57 ?_
        exact zE_w [true, true, false, true, true, false, false, false] (hq21 _ _ _ _)
      refine zE_jn (fun q42 => ∀ (y0 : Int) (y1 : Int) (y2 : Int) (y3 : Int) (y4 : Int) (s : zSg), zE (zov R h0) Jv E (d + 1) 224 (zB 224 4) ([some (.inr (.inr R)), some (.inl y0), none, some (.inl y1), some (.inl y2), some (.inl y3), none, some (.inl y4)]) ([]) s (q42 y0 y1 y2 y3 y4 s)) (fun x36 x37 x38 x39 x40 s41 => ?_) (fun q42 hq42 => ?_)
      · refine zq_6_0 ?_
        refine zr_61 hw rfl ?_
        refine zq_4_7 ?_
        refine zq_34 ?_
        refine zr_65 hw rfl rfl rfl ?_
        refine zq_6_0 ?_
        refine zr_61 hw rfl ?_
        refine zq_4_5 ?_
        refine zr_65 hw rfl rfl rfl ?_
        refine zq_11 ?_
        refine zr_68 hw rfl rfl rfl ?_
        refine zq_6_0 ?_
        refine zr_61 hw rfl ?_
        refine zq_4_7 ?_
        refine zq_6_0 ?_
        refine zr_61 hw rfl ?_
        refine zq_4_5 ?_
        refine zr_65 hw rfl rfl rfl ?_
        refine zr_68 hw rfl rfl rfl ?_
        refine zq_56 ?_
        exact zE_w [true, true, false, true, true, false, false, false] (hq21 _ _ _ _)
      refine zq_7_6 rfl ?_
      refine zq_6_0 ?_
      refine zr_60 hw rfl ?_
      refine zq_1 ?_
      refine zq_12 ?_
      refine zE_vl ?_
      refine zq_7_7 rfl ?_
      refine zq_4_7 ?_
      refine zq_42 ?_ ?_
      · exact zE_w [true, true, false, true, true, true, true, false] (hq29 _ _ _ _ _ _)
      refine zq_6_0 ?_
      refine zr_61 hw rfl ?_
      refine zq_4_7 ?_
      refine zr_65 hw rfl rfl rfl ?_
      refine zq_4_6 ?_
      refine zq_47 ?_ ?_
      · refine zq_4_6 ?_
        refine zq_1 ?_
        refine zq_46 ?_ ?_
        · exact zE_w [true, true, false, true, true, true, false, true] (hq42 _ _ _ _ _ _)
        refine zq_6_0 ?_
        refine zr_61 hw rfl ?_
        refine zq_4_7 ?_
        refine zr_65 hw rfl rfl rfl ?_
        refine zq_1 ?_
        refine zq_47 ?_ ?_
        · refine zq_57 ?_
          exact zE_w [true, true, false, true, true, true, false, true] (hq42 _ _ _ _ _ _)
        · exact zE_w [true, true, false, true, true, true, true, false] (hq29 _ _ _ _ _ _)
      · exact zE_w [true, true, false, true, true, true, true, false] (hq29 _ _ _ _ _ _)
    refine zq_4_4 ?_
    refine zq_6_0 ?_
    refine zr_61 hw rfl ?_
    refine zq_4_3 ?_
    refine zr_65 hw rfl rfl rfl ?_
    refine zq_49 ?_ ?_
    · refine zq_1 ?_
      refine zq_4_3 ?_
      refine zq_13 ?_
      refine zq_4_4 ?_
      refine zq_11 ?_
      refine zE_vl ?_
      refine zq_7_5 rfl ?_
      refine zq_6_0 ?_
      refine zr_61 hw rfl ?_
      refine zq_4_5 ?_
      refine zr_65 hw rfl rfl rfl ?_
      refine zq_1 ?_
      refine zq_47 ?_ ?_
      · refine zq_1 ?_
        refine zq_56 ?_
        exact zE_w [true, true, false, true, true, true, false, false] (hq16 _ _ _ _ _ _)
      · refine zq_6_0 ?_
        refine zr_61 hw rfl ?_
        refine zq_4_5 ?_
        refine zr_65 hw rfl rfl rfl ?_
        refine zq_6_0 ?_
        refine zr_61 hw rfl ?_
        refine zq_4_1 ?_
        refine zr_65 hw rfl rfl rfl ?_
        refine zq_11 ?_
        refine zq_57 ?_
        exact zE_w [true, true, false, true, true, true, false, false] (hq16 _ _ _ _ _ _)
    · exact zq_101
noncomputable def gM_readBar (a1 : Int) (a2 : Int) (s : zSg) : Option (Unit × zSg) :=
  yrd 60 4 a1 s fun v1 =>
  yrd 60 5 a1 s fun v2 =>
  ybd (gM_barAt v1 v2 a2 s) fun v3 s4 =>
  yvl (zup s4 0 16 0) fun s5 =>
  gM_readBar_l1 zFU a1 v3 0 s5
theorem gM_readBar_ok {E : Nat → Nat} {R : Nat} {h0 : zHp} (hw : zRg R h0) (d : Nat) (a1 : Int) (a2 : Int) (s : zSg) : zE (zov R h0) Jv E (d + 1) 224 (zB 224 0) (zent 8 [.inr (.inr R), .inl a1, .inl a2]) [] s (gM_readBar a1 a2 s) := by
  show zE _ _ _ _ _ _ [some (.inr (.inr R)), some (.inl a1), some (.inl a2), none, none, none, none, none] _ _ _
  unfold gM_readBar
  refine zq_6_0 ?_
  refine zq_6_0 ?_
  refine zr_61 hw rfl ?_
  refine zq_4_1 ?_
  refine zr_65 hw rfl rfl rfl ?_
  refine zq_6_0 ?_
  refine zr_61 hw rfl ?_
  refine zq_4_1 ?_
  refine zr_65 hw rfl rfl rfl ?_
  refine zq_4_2 ?_
  refine zq_92_4i (zR_is hw) rfl rfl (gM_barAt_ok (E := E) hw _ _ _ _ _) fun v3 s4 => ?_
  refine zq_7_3 rfl ?_
  refine zq_6_0 ?_
  refine zq_1 ?_
  refine zE_vl ?_
  refine zr_62 hw rfl ?_
  refine zq_1 ?_
  refine zq_7_4 rfl ?_
  refine zq_57 ?_
  exact zE_w [true, true, false, true, true, false, false, false] (gM_readBar_l1_ok (E := E) hw d zFU _ _ _ _)
/-! 225: EngraversHouseModel.told:(III)I -/
noncomputable def gM_told (a0 : Int) (a1 : Int) (a2 : Int) (s : zSg) : Option (Int × zSg) :=
  yjn (fun (x1 : Int) (x2 : Int) (x3 : Int) (s4 : zSg) =>
   some (zadd (zadd x3 (zmul 2 x1)) x2, s4)) fun q5 =>
   if a0 = (-1000) then
    (q5 a1 a2 0 s)
  else
    (q5 a1 a2 (zmul 1000 (zadd a0 100)) s)
theorem gM_told_ok {E : Nat → Nat} {R : Nat} {h0 : zHp} (hw : zRg R h0) (d : Nat) (a0 : Int) (a1 : Int) (a2 : Int) (s : zSg) : zE (zov R h0) Ji E (d + 0) 225 (zB 225 0) (zent 3 [.inl a0, .inl a1, .inl a2]) [] s (gM_told a0 a1 a2 s) := by
  show zE _ _ _ _ _ _ [some (.inl a0), some (.inl a1), some (.inl a2)] _ _ _
  unfold gM_told
  refine zE_jn (fun q5 => ∀ (y0 : Int) (y1 : Int) (y2 : Int) (s : zSg), zE (zov R h0) Ji E (d + 0) 225 (zB 225 2) ([none, some (.inl y0), some (.inl y1)]) ([.inl y2]) s (q5 y0 y1 y2 s)) (fun x1 x2 x3 s4 => ?_) (fun q5 hq5 => ?_)
  · refine zq_1 ?_
    refine zq_4_1 ?_
    refine zq_13 ?_
    refine zq_11 ?_
    refine zq_4_2 ?_
    refine zq_11 ?_
    exact zq_95 rfl
  refine zq_4_0 ?_
  refine zq_1 ?_
  refine zq_47 ?_ ?_
  · refine zq_1 ?_
    refine zq_56 ?_
    exact zE_w [false, true, true] (hq5 _ _ _ _)
  · refine zq_1 ?_
    refine zq_4_0 ?_
    refine zq_1 ?_
    refine zq_11 ?_
    refine zq_13 ?_
    refine zq_57 ?_
    exact zE_w [false, true, true] (hq5 _ _ _ _)
/-! 226: EngraversHouseModel.part:(III)I -/
noncomputable def gM_part (a1 : Int) (a2 : Int) (a3 : Int) (s : zSg) : Option (Int × zSg) :=
  ybd (gM_isThing a1 s) fun v1 s2 =>
  if v1 = 0 then
    (some ((-1), s2))
  else
    (ybd (gM_isMusic a1 s2) fun v3 s4 =>
    if v3 = 0 then
      (some ((-12), s4))
    else
      (yrd 60 6 a1 s4 fun v5 =>
      ybd (gM_in a2 0 (zsub v5 1) s4) fun v6 s7 =>
      if v6 = 0 then
        (some ((-1), s7))
      else
        (ybd (gM_in a3 (-12) 12 s7) fun v8 s9 =>
        if v8 = 0 then
          (some ((-2), s9))
        else
          (if (s9 0 2) = 60 then
            (some ((-4), s9))
          else
            (ybd (gM_add 2 a1 a2 a3 s9) fun v10 s11 =>
            some (v10, s11))))))
theorem gM_part_ok {E : Nat → Nat} {R : Nat} {h0 : zHp} (hw : zRg R h0) (d : Nat) (a1 : Int) (a2 : Int) (a3 : Int) (s : zSg) : zE (zov R h0) Ji E (d + 2) 226 (zB 226 0) (zent 4 [.inr (.inr R), .inl a1, .inl a2, .inl a3]) [] s (gM_part a1 a2 a3 s) := by
  show zE _ _ _ _ _ _ [some (.inr (.inr R)), some (.inl a1), some (.inl a2), some (.inl a3)] _ _ _
  unfold gM_part
  refine zq_6_0 ?_
  refine zq_4_1 ?_
  refine zq_92_2i (zR_is hw) rfl rfl (gM_isThing_ok (E := E) hw _ _ _) fun v1 s2 => ?_
  refine zq_41 ?_ ?_
  · refine zq_1 ?_
    exact zq_95 rfl
  · refine zq_6_0 ?_
    refine zq_4_1 ?_
    refine zq_92_2i (zR_is hw) rfl rfl (gM_isMusic_ok (E := E) hw _ _ _) fun v3 s4 => ?_
    refine zq_41 ?_ ?_
    · refine zq_1 ?_
      exact zq_95 rfl
    · refine zq_4_2 ?_
      refine zq_1 ?_
      refine zq_6_0 ?_
      refine zr_61 hw rfl ?_
      refine zq_4_1 ?_
      refine zr_65 hw rfl rfl rfl ?_
      refine zq_1 ?_
      refine zq_12 ?_
      refine zq_90_3i rfl rfl (gM_in_ok (E := E) hw _ _ _ _ _) fun v6 s7 => ?_
      refine zq_41 ?_ ?_
      · refine zq_1 ?_
        exact zq_95 rfl
      · refine zq_4_3 ?_
        refine zq_1 ?_
        refine zq_1 ?_
        refine zq_90_3i rfl rfl (gM_in_ok (E := E) hw _ _ _ _ _) fun v8 s9 => ?_
        refine zq_41 ?_ ?_
        · refine zq_1 ?_
          exact zq_95 rfl
        · refine zq_6_0 ?_
          refine zr_60 hw rfl ?_
          refine zq_1 ?_
          refine zq_47 ?_ ?_
          · refine zq_1 ?_
            exact zq_95 rfl
          · refine zq_6_0 ?_
            refine zq_1 ?_
            refine zq_4_1 ?_
            refine zq_4_2 ?_
            refine zq_4_3 ?_
            refine zq_92_5i (zR_is hw) rfl rfl (gM_add_ok (E := E) hw _ _ _ _ _ _) fun v10 s11 => ?_
            exact zq_95 rfl
/-! 227: EngraversHouseModel.barsOf:(I)I -/
noncomputable def gM_barsOf (a1 : Int) (s : zSg) : Option (Int × zSg) :=
  yrd 60 4 a1 s fun v1 =>
  yrd 60 5 a1 s fun v2 =>
  ybd (gM_whole v1 v2 s) fun v3 s4 =>
  some (v3, s4)
theorem gM_barsOf_ok {E : Nat → Nat} {R : Nat} {h0 : zHp} (hw : zRg R h0) (d : Nat) (a1 : Int) (s : zSg) : zE (zov R h0) Ji E (d + 2) 227 (zB 227 0) (zent 2 [.inr (.inr R), .inl a1]) [] s (gM_barsOf a1 s) := by
  show zE _ _ _ _ _ _ [some (.inr (.inr R)), some (.inl a1)] _ _ _
  unfold gM_barsOf
  refine zq_6_0 ?_
  refine zq_6_0 ?_
  refine zr_61 hw rfl ?_
  refine zq_4_1 ?_
  refine zr_65 hw rfl rfl rfl ?_
  refine zq_6_0 ?_
  refine zr_61 hw rfl ?_
  refine zq_4_1 ?_
  refine zr_65 hw rfl rfl rfl ?_
  refine zq_92_3i (zR_is hw) rfl rfl (gM_whole_ok (E := E) hw _ _ _ _) fun v3 s4 => ?_
  exact zq_95 rfl
/-! 228: EngraversHouseModel.heard:(III)I -/
noncomputable def gM_heard (a1 : Int) (a2 : Int) (a3 : Int) (s : zSg) : Option (Int × zSg) :=
  ybd (gM_isThing a1 s) fun v1 s2 =>
  if v1 = 0 then
    (some ((-5), s2))
  else
  ybd (gM_isPart a1 s2) fun v3 s4 =>
  if v3 = 0 then
    (some ((-5), s4))
  else
  ybd (gM_barsOf a1 s4) fun v5 s6 =>
  ybd (gM_in a2 0 (zsub v5 1) s6) fun v7 s8 =>
  if v7 = 0 then
    (some ((-5), s8))
  else
    (ybd (gM_readBar a1 a2 s8) fun _ s9 =>
    ybd (gM_in a3 (-1) (zsub (s9 0 16) 1) s9) fun v10 s11 =>
    if v10 = 0 then
      (some ((-5), s11))
    else
      (if a3 < 0 then
        (some (s11 0 16, s11))
      else
        (yrd 8 17 a3 s11 fun v12 =>
        yrd 8 18 a3 s11 fun v13 =>
        yrd 8 19 a3 s11 fun v14 =>
        ybd (gM_told v12 v13 v14 s11) fun v15 s16 =>
        some (v15, s16))))
theorem gM_heard_ok {E : Nat → Nat} {R : Nat} {h0 : zHp} (hw : zRg R h0) (d : Nat) (a1 : Int) (a2 : Int) (a3 : Int) (s : zSg) : zE (zov R h0) Ji E (d + 3) 228 (zB 228 0) (zent 4 [.inr (.inr R), .inl a1, .inl a2, .inl a3]) [] s (gM_heard a1 a2 a3 s) := by
  show zE _ _ _ _ _ _ [some (.inr (.inr R)), some (.inl a1), some (.inl a2), some (.inl a3)] _ _ _
  unfold gM_heard
  refine zq_6_0 ?_
  refine zq_4_1 ?_
  refine zq_92_2i (zR_is hw) rfl rfl (gM_isThing_ok (E := E) hw _ _ _) fun v1 s2 => ?_
  refine zq_40 ?_ ?_
  · refine zq_1 ?_
    exact zq_95 rfl
  refine zq_6_0 ?_
  refine zq_4_1 ?_
  refine zq_92_2i (zR_is hw) rfl rfl (gM_isPart_ok (E := E) hw _ _ _) fun v3 s4 => ?_
  refine zq_40 ?_ ?_
  · refine zq_1 ?_
    exact zq_95 rfl
  refine zq_4_2 ?_
  refine zq_1 ?_
  refine zq_6_0 ?_
  refine zq_4_1 ?_
  refine zq_92_2i (zR_is hw) rfl rfl (gM_barsOf_ok (E := E) hw _ _ _) fun v5 s6 => ?_
  refine zq_1 ?_
  refine zq_12 ?_
  refine zq_90_3i rfl rfl (gM_in_ok (E := E) hw _ _ _ _ _) fun v7 s8 => ?_
  refine zq_41 ?_ ?_
  · refine zq_57 ?_
    refine zq_1 ?_
    exact zq_95 rfl
  · refine zq_6_0 ?_
    refine zq_4_1 ?_
    refine zq_4_2 ?_
    refine zq_92_3v (zR_is hw) rfl rfl (gM_readBar_ok (E := E) hw _ _ _ _) fun _ s9 => ?_
    refine zq_4_3 ?_
    refine zq_1 ?_
    refine zq_6_0 ?_
    refine zr_60 hw rfl ?_
    refine zq_1 ?_
    refine zq_12 ?_
    refine zq_90_3i rfl rfl (gM_in_ok (E := E) hw _ _ _ _ _) fun v10 s11 => ?_
    refine zq_41 ?_ ?_
    · refine zq_1 ?_
      exact zq_95 rfl
    · refine zq_4_3 ?_
      refine zq_43 ?_ ?_
      · refine zq_6_0 ?_
        refine zr_60 hw rfl ?_
        refine zq_56 ?_
        exact zq_95 rfl
      · refine zq_6_0 ?_
        refine zr_61 hw rfl ?_
        refine zq_4_3 ?_
        refine zr_65 hw rfl rfl rfl ?_
        refine zq_6_0 ?_
        refine zr_61 hw rfl ?_
        refine zq_4_3 ?_
        refine zr_65 hw rfl rfl rfl ?_
        refine zq_6_0 ?_
        refine zr_61 hw rfl ?_
        refine zq_4_3 ?_
        refine zr_65 hw rfl rfl rfl ?_
        refine zq_90_3i rfl rfl (gM_told_ok (E := E) hw _ _ _ _ _) fun v15 s16 => ?_
        refine zq_57 ?_
        exact zq_95 rfl
