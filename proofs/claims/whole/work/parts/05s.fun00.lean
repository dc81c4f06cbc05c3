/-! 0: java/lang/Integer.bitCount:(I)I -/
noncomputable def fJInteger_bitCount (a0 : Int) (s : zHp) : Option (Int × zHp) :=
  yvl (zsub a0 (zand (zushr a0 1) 1431655765)) fun v1 =>
  yvl (zadd (zand v1 858993459) (zand (zushr v1 2) 858993459)) fun v2 =>
  yvl (zand (zadd v2 (zushr v2 4)) 252645135) fun v3 =>
  yvl (zadd v3 (zushr v3 8)) fun v4 =>
  yvl (zadd v4 (zushr v4 16)) fun v5 =>
  some (zand v5 63, s)
theorem fJInteger_bitCount_ok {E : Nat → Nat} (d : Nat) (a0 : Int) (s : zHp) : zE zI Ji E (d + 0) 0 (zB 0 0) (zent 1 [.inl a0]) [] s (fJInteger_bitCount a0 s) := by
  show zE _ _ _ _ _ _ [some (.inl a0)] _ _ _
  unfold fJInteger_bitCount
  refine zq_4_0 ?_
  refine zq_4_0 ?_
  refine zq_1 ?_
  refine zq_19 ?_
  refine zq_1 ?_
  refine zq_20 ?_
  refine zq_12 ?_
  refine zE_vl ?_
  refine zq_7_0 ?_
  refine zq_4_0 ?_
  refine zq_1 ?_
  refine zq_20 ?_
  refine zq_4_0 ?_
  refine zq_1 ?_
  refine zq_19 ?_
  refine zq_1 ?_
  refine zq_20 ?_
  refine zq_11 ?_
  refine zE_vl ?_
  refine zq_7_0 ?_
  refine zq_4_0 ?_
  refine zq_4_0 ?_
  refine zq_1 ?_
  refine zq_19 ?_
  refine zq_11 ?_
  refine zq_1 ?_
  refine zq_20 ?_
  refine zE_vl ?_
  refine zq_7_0 ?_
  refine zq_4_0 ?_
  refine zq_4_0 ?_
  refine zq_1 ?_
  refine zq_19 ?_
  refine zq_11 ?_
  refine zE_vl ?_
  refine zq_7_0 ?_
  refine zq_4_0 ?_
  refine zq_4_0 ?_
  refine zq_1 ?_
  refine zq_19 ?_
  refine zq_11 ?_
  refine zE_vl ?_
  refine zq_7_0 ?_
  refine zq_4_0 ?_
  refine zq_1 ?_
  refine zq_20 ?_
  exact zq_95 rfl
/-! 1: java/lang/Integer.numberOfTrailingZeros:(I)I -/
noncomputable def fJInteger_numberOfTrailingZeros (a0 : Int) (s : zHp) : Option (Int × zHp) :=
  yvl (zand (zxor a0 (-1)) (zsub a0 1)) fun v1 =>
  if 0 < v1 then
    (yjn (fun (x2 : Int) (x3 : Int) (s4 : zHp) =>
     yjn (fun (x6 : Int) (x7 : Int) (s8 : zHp) =>
      yjn (fun (x10 : Int) (x11 : Int) (s12 : zHp) =>
       yjn (fun (x14 : Int) (x15 : Int) (s16 : zHp) =>
        some (zadd x15 (zushr x14 1), s16)) fun q17 =>
        if 4 < x10 then
         (yvl (zadd x11 2) fun v18 =>
         yvl (zushr x10 2) fun v19 =>
         q17 v19 v18 s12)
       else
         (q17 x10 x11 s12)) fun q13 =>
       if 16 < x6 then
        (yvl (zadd x7 4) fun v20 =>
        yvl (zushr x6 4) fun v21 =>
        q13 v21 v20 s8)
      else
        (q13 x6 x7 s8)) fun q9 =>
      if 256 < x2 then
       (yvl (zadd x3 8) fun v22 =>
       yvl (zushr x2 8) fun v23 =>
       q9 v23 v22 s4)
     else
       (q9 x2 x3 s4)) fun q5 =>
     if 65536 < v1 then
      (yvl (zadd 1 16) fun v24 =>
      yvl (zushr v1 16) fun v25 =>
      q5 v25 v24 s)
    else
      (q5 v1 1 s))
  else
  some (zand v1 32, s)
theorem fJInteger_numberOfTrailingZeros_ok {E : Nat → Nat} (d : Nat) (a0 : Int) (s : zHp) : zE zI Ji E (d + 0) 1 (zB 1 0) (zent 2 [.inl a0]) [] s (fJInteger_numberOfTrailingZeros a0 s) := by
  show zE _ _ _ _ _ _ [some (.inl a0), none] _ _ _
  unfold fJInteger_numberOfTrailingZeros
  refine zq_4_0 ?_
  refine zq_1 ?_
  refine zq_22 ?_
  refine zq_4_0 ?_
  refine zq_1 ?_
  refine zq_12 ?_
  refine zq_20 ?_
  refine zE_vl ?_
  refine zq_7_0 ?_
  refine zq_4_0 ?_
  refine zq_44 ?_ ?_
  · refine zE_jn (fun q5 => ∀ (y0 : Int) (y1 : Int) (s : zHp), zE zI Ji E (d + 0) 1 (zB 1 2) ([some (.inl y0), some (.inl y1)]) ([]) s (q5 y0 y1 s)) (fun x2 x3 s4 => ?_) (fun q5 hq5 => ?_)
    · refine zE_jn (fun q9 => ∀ (y0 : Int) (y1 : Int) (s : zHp), zE zI Ji E (d + 0) 1 (zB 1 3) ([some (.inl y0), some (.inl y1)]) ([]) s (q9 y0 y1 s)) (fun x6 x7 s8 => ?_) (fun q9 hq9 => ?_)
      · refine zE_jn (fun q13 => ∀ (y0 : Int) (y1 : Int) (s : zHp), zE zI Ji E (d + 0) 1 (zB 1 4) ([some (.inl y0), some (.inl y1)]) ([]) s (q13 y0 y1 s)) (fun x10 x11 s12 => ?_) (fun q13 hq13 => ?_)
        · refine zE_jn (fun q17 => ∀ (y0 : Int) (y1 : Int) (s : zHp), zE zI Ji E (d + 0) 1 (zB 1 5) ([some (.inl y0), some (.inl y1)]) ([]) s (q17 y0 y1 s)) (fun x14 x15 s16 => ?_) (fun q17 hq17 => ?_)
          · refine zq_4_1 ?_
            refine zq_4_0 ?_
            refine zq_1 ?_
            refine zq_19 ?_
            refine zq_11 ?_
            exact zq_95 rfl
          refine zq_4_0 ?_
          refine zq_1 ?_
          refine zq_51 ?_ ?_
          · refine zE_vl ?_
            refine zq_10_1 rfl ?_
            refine zq_4_0 ?_
            refine zq_1 ?_
            refine zq_19 ?_
            refine zE_vl ?_
            refine zq_7_0 ?_
            refine zq_57 ?_
            exact zE_w [true, true] (hq17 _ _ _)
          · exact zE_w [true, true] (hq17 _ _ _)
        refine zq_4_0 ?_
        refine zq_1 ?_
        refine zq_51 ?_ ?_
        · refine zE_vl ?_
          refine zq_10_1 rfl ?_
          refine zq_4_0 ?_
          refine zq_1 ?_
          refine zq_19 ?_
          refine zE_vl ?_
          refine zq_7_0 ?_
          refine zq_57 ?_
          exact zE_w [true, true] (hq13 _ _ _)
        · exact zE_w [true, true] (hq13 _ _ _)
      refine zq_4_0 ?_
      refine zq_1 ?_
      refine zq_51 ?_ ?_
      · refine zE_vl ?_
        refine zq_10_1 rfl ?_
        refine zq_4_0 ?_
        refine zq_1 ?_
        refine zq_19 ?_
        refine zE_vl ?_
        refine zq_7_0 ?_
        refine zq_57 ?_
        exact zE_w [true, true] (hq9 _ _ _)
      · exact zE_w [true, true] (hq9 _ _ _)
    refine zq_1 ?_
    refine zq_7_1 rfl ?_
    refine zq_4_0 ?_
    refine zq_1 ?_
    refine zq_51 ?_ ?_
    · refine zE_vl ?_
      refine zq_10_1 rfl ?_
      refine zq_4_0 ?_
      refine zq_1 ?_
      refine zq_19 ?_
      refine zE_vl ?_
      refine zq_7_0 ?_
      refine zq_57 ?_
      exact zE_w [true, true] (hq5 _ _ _)
    · exact zE_w [true, true] (hq5 _ _ _)
  refine zq_4_0 ?_
  refine zq_1 ?_
  refine zq_20 ?_
  exact zq_95 rfl
/-! 2: java/util/Arrays.fill:([II)V -/
noncomputable def fJArrays_fill_l1 : Nat → Nat → Int → Int → Int → zHp → Option (Unit × zHp)
  | 0, _, _, _, _, _ => none
  | n + 1, x2, x3, x4, x5, s6 =>
   if x4 < x5 then
     (ysi x2 x4 x3 s6 fun s7 =>
     yvl (zadd x4 1) fun v8 =>
     fJArrays_fill_l1 n x2 x3 v8 x5 s7)
   else
     (some ((), s6))
theorem fJArrays_fill_l1_ok {E : Nat → Nat} (d : Nat) : ∀ (n : Nat) (x2 : Nat) (x3 : Int) (x4 : Int) (x5 : Int) (s6 : zHp), zE zI Jv E (d + 0) 2 (zB 2 1) ([some (.inr (.inr x2)), some (.inl x3), some (.inl x4), some (.inl x5)]) ([]) s6 (fJArrays_fill_l1 n x2 x3 x4 x5 s6) := by
  intro n
  induction n with
  | zero => intro x2 x3 x4 x5 s6; exact zE_none
  | succ n ih =>
    intro x2 x3 x4 x5 s6
    unfold fJArrays_fill_l1
    refine zq_4_2 ?_
    refine zq_4_3 ?_
    refine zq_49 ?_ ?_
    · refine zq_6_0 ?_
      refine zq_4_2 ?_
      refine zq_4_1 ?_
      refine zh_68 ?_
      refine zE_vl ?_
      refine zq_10_2 rfl ?_
      refine zq_56 ?_
      exact zE_w [true, true, true, true] (ih _ _ _ _ _)
    · exact zq_101
noncomputable def fJArrays_fill (a0 : Nat) (a1 : Int) (s : zHp) : Option (Unit × zHp) :=
  yln a0 s fun v1 =>
  fJArrays_fill_l1 zFU a0 a1 0 v1 s
theorem fJArrays_fill_ok {E : Nat → Nat} (d : Nat) (a0 : Nat) (a1 : Int) (s : zHp) : zE zI Jv E (d + 0) 2 (zB 2 0) (zent 4 [.inr (.inr a0), .inl a1]) [] s (fJArrays_fill a0 a1 s) := by
  show zE _ _ _ _ _ _ [some (.inr (.inr a0)), some (.inl a1), none, none] _ _ _
  unfold fJArrays_fill
  refine zq_1 ?_
  refine zq_7_2 rfl ?_
  refine zq_6_0 ?_
  refine zh_72 ?_
  refine zq_7_3 rfl ?_
  refine zq_57 ?_
  exact zE_w [true, true, true, true] (fJArrays_fill_l1_ok (E := E) d zFU _ _ _ _ _)
/-! 3: java/util/Arrays.copyOf:([II)[I -/
noncomputable def fJArrays_copyOf (a0 : Nat) (a1 : Int) (s : zHp) : Option (Nat × zHp) :=
  yln a0 s fun v1 =>
  if a1 = v1 then
    (ycl a0 s fun p6 s7 =>
    yca p6 s7 <|
    some (p6, s7))
  else
    (yna 30 a1 s fun p2 s3 =>
    yln a0 s3 fun v4 =>
    ycp a0 0 p2 0 (zmin v4 a1) s3 fun s5 =>
    some (p2, s5))
theorem fJArrays_copyOf_ok {E : Nat → Nat} (d : Nat) (a0 : Nat) (a1 : Int) (s : zHp) : zE zI Jr E (d + 0) 3 (zB 3 0) (zent 3 [.inr (.inr a0), .inl a1]) [] s (fJArrays_copyOf a0 a1 s) := by
  show zE _ _ _ _ _ _ [some (.inr (.inr a0)), some (.inl a1), none] _ _ _
  unfold fJArrays_copyOf
  refine zq_4_1 ?_
  refine zq_6_0 ?_
  refine zh_72 ?_
  refine zq_47 ?_ ?_
  · refine zq_6_0 ?_
    refine zh_84 rfl ?_
    refine zh_85 ?_
    exact zq_100
  · refine zq_4_1 ?_
    refine zh_74 ?_
    refine zq_9_2 rfl ?_
    refine zq_6_0 ?_
    refine zq_1 ?_
    refine zq_6_2 ?_
    refine zq_1 ?_
    refine zq_6_0 ?_
    refine zh_72 ?_
    refine zq_4_1 ?_
    refine zq_37 rfl ?_
    refine zh_83 rfl ?_
    refine zq_6_2 ?_
    exact zq_100
/-! 4: jdk/internal/util/Preconditions.checkIndex:(IILjava/util/function/BiFunction;)I -/
noncomputable def fJPreconditions_checkIndex (a0 : Int) (a1 : Int) (a2 : Nat) (s : zHp) : Option (Int × zHp) :=
  yjn (fun (x1 : Int) (x2 : Int) (x3 : Nat) (s4 : zHp) =>
   none) fun q5 =>
   if a0 < 0 then
    (q5 a0 a1 a2 s)
  else
  if a0 < a1 then
    (some (a0, s))
  else
  q5 a0 a1 a2 s
theorem fJPreconditions_checkIndex_ok {E : Nat → Nat} (d : Nat) (a0 : Int) (a1 : Int) (a2 : Nat) (s : zHp) : zE zI Ji E (d + 0) 4 (zB 4 0) (zent 3 [.inl a0, .inl a1, .inr (.inr a2)]) [] s (fJPreconditions_checkIndex a0 a1 a2 s) := by
  show zE _ _ _ _ _ _ [some (.inl a0), some (.inl a1), some (.inr (.inr a2))] _ _ _
  unfold fJPreconditions_checkIndex
  refine zE_jn (fun q5 => ∀ (y0 : Int) (y1 : Int) (y2 : Nat) (s : zHp), zE zI Ji E (d + 0) 4 (zB 4 1) ([some (.inl y0), some (.inl y1), some (.inr (.inr y2))]) ([]) s (q5 y0 y1 y2 s)) (fun x1 x2 x3 s4 => ?_) (fun q5 hq5 => ?_)
  · refine zq_6_2 ?_
    refine zq_4_0 ?_
    refine zq_4_1 ?_
    exact zE_none
  refine zq_4_0 ?_
  refine zq_42 ?_ ?_
  · exact zE_w [true, true, true] (hq5 _ _ _ _)
  refine zq_4_0 ?_
  refine zq_4_1 ?_
  refine zq_48 ?_ ?_
  · refine zq_4_0 ?_
    exact zq_95 rfl
  refine zq_57 ?_
  exact zE_w [true, true, true] (hq5 _ _ _ _)
/-! 5: java/lang/String.checkIndex:(II)V -/
noncomputable def fJString_checkIndex (E : Nat → Nat) (a0 : Int) (a1 : Int) (s : zHp) : Option (Unit × zHp) :=
  ybd (fJPreconditions_checkIndex a0 a1 (E 12) s) fun v1 s2 =>
  some ((), s2)
theorem fJString_checkIndex_ok {E : Nat → Nat} (d : Nat) (a0 : Int) (a1 : Int) (s : zHp) : zE zI Jv E (d + 1) 5 (zB 5 0) (zent 2 [.inl a0, .inl a1]) [] s (fJString_checkIndex E a0 a1 s) := by
  show zE _ _ _ _ _ _ [some (.inl a0), some (.inl a1)] _ _ _
  unfold fJString_checkIndex
  refine zq_4_0 ?_
  refine zq_4_1 ?_
  refine zh_80 ?_
  refine zq_90_3i rfl rfl (fJPreconditions_checkIndex_ok (E := E) _ _ _ _ _) fun v1 s2 => ?_
  refine zq_35 ?_
  exact zq_101
/-! 6: java/lang/String.coder:()B -/
noncomputable def fJString_coder (a0 : Nat) (s : zHp) : Option (Int × zHp) :=
  if (1 : Int) = 0 then
    (yry 1 s)
  else
  ysc a0 s fun v1 =>
  yry v1 s
theorem fJString_coder_ok {E : Nat → Nat} (d : Nat) (a0 : Nat) (s : zHp) : zE zI Ji E (d + 0) 6 (zB 6 0) (zent 1 [.inr (.inr a0)]) [] s (fJString_coder a0 s) := by
  show zE _ _ _ _ _ _ [some (.inr (.inr a0))] _ _ _
  unfold fJString_coder
  refine zh_79 ?_
  refine zq_40 ?_ ?_
  · refine zq_1 ?_
    refine zq_57 ?_
    exact zq_98
  refine zq_6_0 ?_
  refine zh_87 ?_
  refine zq_56 ?_
  exact zq_98
/-! 7: java/lang/String.isLatin1:()Z -/
noncomputable def fJString_isLatin1 (a0 : Nat) (s : zHp) : Option (Int × zHp) :=
  if (1 : Int) = 0 then
    (some (0, s))
  else
  ysc a0 s fun v1 =>
  if v1 = 0 then
    (some (1, s))
  else
    (some (0, s))
theorem fJString_isLatin1_ok {E : Nat → Nat} (d : Nat) (a0 : Nat) (s : zHp) : zE zI Ji E (d + 0) 7 (zB 7 0) (zent 1 [.inr (.inr a0)]) [] s (fJString_isLatin1 a0 s) := by
  show zE _ _ _ _ _ _ [some (.inr (.inr a0))] _ _ _
  unfold fJString_isLatin1
  refine zh_79 ?_
  refine zq_40 ?_ ?_
  · refine zq_1 ?_
    refine zq_57 ?_
    exact zq_96c (by decide)
  refine zq_6_0 ?_
  refine zh_87 ?_
  refine zq_41 ?_ ?_
  · refine zq_1 ?_
    refine zq_56 ?_
    exact zq_96c (by decide)
  · refine zq_1 ?_
    refine zq_57 ?_
    exact zq_96c (by decide)
/-! 8: java/lang/String.length:()I -/
noncomputable def fJString_length (a0 : Nat) (s : zHp) : Option (Int × zHp) :=
  ysv a0 s fun p1 =>
  yln p1 s fun v2 =>
  yck 49 a0 s <| ybd (fJString_coder a0 s) fun v3 s4 =>
  some (zshr v2 v3, s4)
theorem fJString_length_ok {E : Nat → Nat} (d : Nat) (a0 : Nat) (s : zHp) : zE zI Ji E (d + 1) 8 (zB 8 0) (zent 1 [.inr (.inr a0)]) [] s (fJString_length a0 s) := by
  show zE _ _ _ _ _ _ [some (.inr (.inr a0))] _ _ _
  unfold fJString_length
  refine zq_6_0 ?_
  refine zh_86 ?_
  refine zh_72 ?_
  refine zq_6_0 ?_
  refine zE_g fun hg => ?_
  refine zq_92_1i hg rfl rfl (fJString_coder_ok (E := E) _ _ _) fun v3 s4 => ?_
  refine zq_18 ?_
  exact zq_95 rfl
/-! 9: java/lang/StringLatin1.charAt:([BI)C -/
noncomputable def fJStringLatin1_charAt (E : Nat → Nat) (a0 : Nat) (a1 : Int) (s : zHp) : Option (Int × zHp) :=
  yln a0 s fun v1 =>
  ybd (fJString_checkIndex E a1 v1 s) fun _ s2 =>
  yab a0 a1 s2 fun v3 =>
  yrc (zi2c (zand v3 255)) s2
theorem fJStringLatin1_charAt_ok {E : Nat → Nat} (d : Nat) (a0 : Nat) (a1 : Int) (s : zHp) : zE zI Ji E (d + 2) 9 (zB 9 0) (zent 2 [.inr (.inr a0), .inl a1]) [] s (fJStringLatin1_charAt E a0 a1 s) := by
  show zE _ _ _ _ _ _ [some (.inr (.inr a0)), some (.inl a1)] _ _ _
  unfold fJStringLatin1_charAt
  refine zq_4_1 ?_
  refine zq_6_0 ?_
  refine zh_72 ?_
  refine zq_90_2v rfl rfl (fJString_checkIndex_ok (E := E) _ _ _ _) fun _ s2 => ?_
  refine zq_6_0 ?_
  refine zq_4_1 ?_
  refine zh_66 ?_
  refine zq_1 ?_
  refine zq_20 ?_
  refine zq_27 ?_
  exact zq_97
/-! 10: java/lang/String.charAt:(I)C -/
noncomputable def fJString_charAt (E : Nat → Nat) (a0 : Nat) (a1 : Int) (s : zHp) : Option (Int × zHp) :=
  yck 49 a0 s <| ybd (fJString_isLatin1 a0 s) fun v1 s2 =>
  if v1 = 0 then
    (ysv a0 s2 fun p3 =>
    none)
  else
  ysv a0 s2 fun p4 =>
  ybd (fJStringLatin1_charAt E p4 a1 s2) fun v5 s6 =>
  yrc v5 s6
theorem fJString_charAt_ok {E : Nat → Nat} (d : Nat) (a0 : Nat) (a1 : Int) (s : zHp) : zE zI Ji E (d + 3) 10 (zB 10 0) (zent 2 [.inr (.inr a0), .inl a1]) [] s (fJString_charAt E a0 a1 s) := by
  show zE _ _ _ _ _ _ [some (.inr (.inr a0)), some (.inl a1)] _ _ _
  unfold fJString_charAt
  refine zq_6_0 ?_
  refine zE_g fun hg => ?_
  refine zq_92_1i hg rfl rfl (fJString_isLatin1_ok (E := E) _ _ _) fun v1 s2 => ?_
  refine zq_40 ?_ ?_
  · refine zq_6_0 ?_
    refine zh_86 ?_
    refine zq_4_1 ?_
    exact zE_none
  refine zq_6_0 ?_
  refine zh_86 ?_
  refine zq_4_1 ?_
  refine zq_90_2i rfl rfl (fJStringLatin1_charAt_ok (E := E) _ _ _ _) fun v5 s6 => ?_
  exact zq_97
/-! 11: java/lang/StringLatin1.canEncode:(I)Z -/
noncomputable def fJStringLatin1_canEncode (a0 : Int) (s : zHp) : Option (Int × zHp) :=
  if a0 < 0 then
    (some (0, s))
  else
  if 255 < a0 then
    (some (0, s))
  else
  some (1, s)
theorem fJStringLatin1_canEncode_ok {E : Nat → Nat} (d : Nat) (a0 : Int) (s : zHp) : zE zI Ji E (d + 0) 11 (zB 11 0) (zent 1 [.inl a0]) [] s (fJStringLatin1_canEncode a0 s) := by
  show zE _ _ _ _ _ _ [some (.inl a0)] _ _ _
  unfold fJStringLatin1_canEncode
  refine zq_4_0 ?_
  refine zq_42 ?_ ?_
  · refine zq_1 ?_
    refine zq_57 ?_
    exact zq_96c (by decide)
  refine zq_4_0 ?_
  refine zq_1 ?_
  refine zq_50 ?_ ?_
  · refine zq_1 ?_
    refine zq_57 ?_
    exact zq_96c (by decide)
  refine zq_1 ?_
  refine zq_56 ?_
  exact zq_96c (by decide)
/-! 12: java/lang/StringLatin1.indexOfChar:([BIII)I -/
noncomputable def fJStringLatin1_indexOfChar_l1 : Nat → Nat → Int → Int → Int → zHp → Option (Int × zHp)
  | 0, _, _, _, _, _ => none
  | n + 1, x2, x3, x4, x5, s6 =>
   if x5 < x3 then
     (yab x2 x5 s6 fun v7 =>
     if v7 = x4 then
       (some (x5, s6))
     else
       (yvl (zadd x5 1) fun v8 =>
       fJStringLatin1_indexOfChar_l1 n x2 x3 x4 v8 s6))
   else
     (some ((-1), s6))
theorem fJStringLatin1_indexOfChar_l1_ok {E : Nat → Nat} (d : Nat) : ∀ (n : Nat) (x2 : Nat) (x3 : Int) (x4 : Int) (x5 : Int) (s6 : zHp), zE zI Ji E (d + 0) 12 (zB 12 1) ([some (.inr (.inr x2)), none, none, some (.inl x3), some (.inl x4), some (.inl x5)]) ([]) s6 (fJStringLatin1_indexOfChar_l1 n x2 x3 x4 x5 s6) := by
  intro n
  induction n with
  | zero => intro x2 x3 x4 x5 s6; exact zE_none
  | succ n ih =>
    intro x2 x3 x4 x5 s6
    unfold fJStringLatin1_indexOfChar_l1
    refine zq_4_5 ?_
    refine zq_4_3 ?_
    refine zq_49 ?_ ?_
    · refine zq_6_0 ?_
      refine zq_4_5 ?_
      refine zh_66 ?_
      refine zq_4_4 ?_
      refine zq_47 ?_ ?_
      · refine zq_4_5 ?_
        exact zq_95 rfl
      · refine zE_vl ?_
        refine zq_10_5 rfl ?_
        refine zq_56 ?_
        exact zE_w [true, false, false, true, true, true] (ih _ _ _ _ _)
    · refine zq_1 ?_
      exact zq_95 rfl
noncomputable def fJStringLatin1_indexOfChar (a0 : Nat) (a1 : Int) (a2 : Int) (a3 : Int) (s : zHp) : Option (Int × zHp) :=
  yvl (zi2b a1) fun v1 =>
  fJStringLatin1_indexOfChar_l1 zFU a0 a3 v1 a2 s
theorem fJStringLatin1_indexOfChar_ok {E : Nat → Nat} (d : Nat) (a0 : Nat) (a1 : Int) (a2 : Int) (a3 : Int) (s : zHp) : zE zI Ji E (d + 0) 12 (zB 12 0) (zent 6 [.inr (.inr a0), .inl a1, .inl a2, .inl a3]) [] s (fJStringLatin1_indexOfChar a0 a1 a2 a3 s) := by
  show zE _ _ _ _ _ _ [some (.inr (.inr a0)), some (.inl a1), some (.inl a2), some (.inl a3), none, none] _ _ _
  unfold fJStringLatin1_indexOfChar
  refine zq_4_1 ?_
  refine zq_25 ?_
  refine zE_vl ?_
  refine zq_7_4 rfl ?_
  refine zq_4_2 ?_
  refine zq_7_5 rfl ?_
  refine zq_57 ?_
  exact zE_w [true, false, false, true, true, true] (fJStringLatin1_indexOfChar_l1_ok (E := E) d zFU _ _ _ _ _)
/-! 13: java/lang/StringLatin1.indexOf:([BIII)I -/
noncomputable def fJStringLatin1_indexOf (a0 : Nat) (a1 : Int) (a2 : Int) (a3 : Int) (s : zHp) : Option (Int × zHp) :=
  ybd (fJStringLatin1_canEncode a1 s) fun v1 s2 =>
  if v1 = 0 then
    (some ((-1), s2))
  else
    (yvl (zmax a2 0) fun v3 =>
    yln a0 s2 fun v4 =>
    yvl (zmin a3 v4) fun v5 =>
    if v3 < v5 then
      (ybd (fJStringLatin1_indexOfChar a0 a1 v3 v5 s2) fun v6 s7 =>
      some (v6, s7))
    else
    some ((-1), s2))
theorem fJStringLatin1_indexOf_ok {E : Nat → Nat} (d : Nat) (a0 : Nat) (a1 : Int) (a2 : Int) (a3 : Int) (s : zHp) : zE zI Ji E (d + 1) 13 (zB 13 0) (zent 4 [.inr (.inr a0), .inl a1, .inl a2, .inl a3]) [] s (fJStringLatin1_indexOf a0 a1 a2 a3 s) := by
  show zE _ _ _ _ _ _ [some (.inr (.inr a0)), some (.inl a1), some (.inl a2), some (.inl a3)] _ _ _
  unfold fJStringLatin1_indexOf
  refine zq_4_1 ?_
  refine zq_90_1i rfl rfl (fJStringLatin1_canEncode_ok (E := E) _ _ _) fun v1 s2 => ?_
  refine zq_41 ?_ ?_
  · refine zq_1 ?_
    exact zq_95 rfl
  · refine zq_4_2 ?_
    refine zq_1 ?_
    refine zq_36 rfl ?_
    refine zE_vl ?_
    refine zq_7_2 rfl ?_
    refine zq_4_3 ?_
    refine zq_6_0 ?_
    refine zh_72 ?_
    refine zq_37 rfl ?_
    refine zE_vl ?_
    refine zq_7_3 rfl ?_
    refine zq_4_2 ?_
    refine zq_4_3 ?_
    refine zq_48 ?_ ?_
    · refine zq_6_0 ?_
      refine zq_4_1 ?_
      refine zq_4_2 ?_
      refine zq_4_3 ?_
      refine zq_90_4i rfl rfl (fJStringLatin1_indexOfChar_ok (E := E) _ _ _ _ _ _) fun v6 s7 => ?_
      exact zq_95 rfl
    refine zq_1 ?_
    exact zq_95 rfl
/-! 14: java/lang/String.indexOf:(II)I -/
noncomputable def fJString_indexOf (a0 : Nat) (a1 : Int) (a2 : Int) (s : zHp) : Option (Int × zHp) :=
  yck 49 a0 s <| ybd (fJString_isLatin1 a0 s) fun v1 s2 =>
  if v1 = 0 then
    (ysv a0 s2 fun p3 =>
    yck 49 a0 s2 <| ybd (fJString_length a0 s2) fun v4 s5 =>
    none)
  else
  ysv a0 s2 fun p6 =>
  yck 49 a0 s2 <| ybd (fJString_length a0 s2) fun v7 s8 =>
  ybd (fJStringLatin1_indexOf p6 a1 a2 v7 s8) fun v9 s10 =>
  some (v9, s10)
theorem fJString_indexOf_ok {E : Nat → Nat} (d : Nat) (a0 : Nat) (a1 : Int) (a2 : Int) (s : zHp) : zE zI Ji E (d + 2) 14 (zB 14 0) (zent 3 [.inr (.inr a0), .inl a1, .inl a2]) [] s (fJString_indexOf a0 a1 a2 s) := by
  show zE _ _ _ _ _ _ [some (.inr (.inr a0)), some (.inl a1), some (.inl a2)] _ _ _
  unfold fJString_indexOf
  refine zq_6_0 ?_
  refine zE_g fun hg => ?_
  refine zq_92_1i hg rfl rfl (fJString_isLatin1_ok (E := E) _ _ _) fun v1 s2 => ?_
  refine zq_40 ?_ ?_
  · refine zq_6_0 ?_
    refine zh_86 ?_
    refine zq_4_1 ?_
    refine zq_4_2 ?_
    refine zq_6_0 ?_
    refine zE_g fun hg => ?_
    refine zq_92_1i hg rfl rfl (fJString_length_ok (E := E) _ _ _) fun v4 s5 => ?_
    exact zE_none
  refine zq_6_0 ?_
  refine zh_86 ?_
  refine zq_4_1 ?_
  refine zq_4_2 ?_
  refine zq_6_0 ?_
  refine zE_g fun hg => ?_
  refine zq_92_1i hg rfl rfl (fJString_length_ok (E := E) _ _ _) fun v7 s8 => ?_
  refine zq_90_4i rfl rfl (fJStringLatin1_indexOf_ok (E := E) _ _ _ _ _ _) fun v9 s10 => ?_
  refine zq_56 ?_
  exact zq_95 rfl
/-! 15: java/lang/String.indexOf:(I)I -/
noncomputable def fJString_indexOfq (a0 : Nat) (a1 : Int) (s : zHp) : Option (Int × zHp) :=
  yck 49 a0 s <| ybd (fJString_indexOf a0 a1 0 s) fun v1 s2 =>
  some (v1, s2)
theorem fJString_indexOfq_ok {E : Nat → Nat} (d : Nat) (a0 : Nat) (a1 : Int) (s : zHp) : zE zI Ji E (d + 3) 15 (zB 15 0) (zent 2 [.inr (.inr a0), .inl a1]) [] s (fJString_indexOfq a0 a1 s) := by
  show zE _ _ _ _ _ _ [some (.inr (.inr a0)), some (.inl a1)] _ _ _
  unfold fJString_indexOfq
  refine zq_6_0 ?_
  refine zq_4_1 ?_
  refine zq_1 ?_
  refine zE_g fun hg => ?_
  refine zq_92_3i hg rfl rfl (fJString_indexOf_ok (E := E) _ _ _ _ _) fun v1 s2 => ?_
  exact zq_95 rfl
/-! 16: EngraversHouse$Layout.<init>:()V -/
noncomputable def fLayout_init (a0 : Nat) (s : zHp) : Option (Unit × zHp) :=
  yn0 a0 <|
  ypi 4 0 a0 0 s fun s1 =>
  yna 30 20 s1 fun p2 s3 =>
  ypr 4 1 a0 p2 s3 fun s4 =>
  yna 31 20 s4 fun p5 s6 =>
  ypr 4 2 a0 p5 s6 fun s7 =>
  yna 31 20 s7 fun p8 s9 =>
  ypr 4 3 a0 p8 s9 fun s10 =>
  yna 30 84 s10 fun p11 s12 =>
  ypr 4 4 a0 p11 s12 fun s13 =>
  yna 30 84 s13 fun p14 s15 =>
  ypr 4 5 a0 p14 s15 fun s16 =>
  some ((), s16)
set_option maxRecDepth 20000 in
set_option maxHeartbeats 4000000 in
theorem fLayout_init_ok {E : Nat → Nat} (d : Nat) (a0 : Nat) (s : zHp) : zE zI Jv E (d + 0) 16 (zB 16 0) (zent 1 [.inr (.inr a0)]) [] s (fLayout_init a0 s) := by
  show zE _ _ _ _ _ _ [some (.inr (.inr a0))] _ _ _
  unfold fLayout_init
  refine zq_6_0 ?_
  refine zh_82 rfl ?_
  refine zq_6_0 ?_
  refine zq_1 ?_
  refine zh_62 ?_
  refine zq_6_0 ?_
  refine zq_1 ?_
  refine zh_74 ?_
  refine zh_64 ?_
  refine zq_6_0 ?_
  refine zq_1 ?_
  refine zh_74 ?_
  refine zh_64 ?_
  refine zq_6_0 ?_
  refine zq_1 ?_
  refine zh_74 ?_
  refine zh_64 ?_
  refine zq_6_0 ?_
  refine zq_1 ?_
  refine zh_74 ?_
  refine zh_64 ?_
  refine zq_6_0 ?_
  refine zq_1 ?_
  refine zh_74 ?_
  refine zh_64 ?_
  exact zq_101
/-! 17: EngraversHouse$Tour.<init>:()V -/
noncomputable def fTour_init_l1 : Nat → Nat → Int → zHp → Option (Unit × zHp)
  | 0, _, _, _ => none
  | n + 1, x31, x32, s33 =>
   if x32 < 6 then
     (ygr 9 0 x31 s33 fun p34 =>
     ysi p34 (zadd (zmul x32 6) x32) 0 s33 fun s35 =>
     yvl (zadd x32 1) fun v36 =>
     fTour_init_l1 n x31 v36 s35)
   else
     (some ((), s33))
set_option maxRecDepth 20000 in
set_option maxHeartbeats 4000000 in
theorem fTour_init_l1_ok {E : Nat → Nat} (d : Nat) : ∀ (n : Nat) (x31 : Nat) (x32 : Int) (s33 : zHp), zE zI Jv E (d + 1) 17 (zB 17 1) ([some (.inr (.inr x31)), some (.inl x32)]) ([]) s33 (fTour_init_l1 n x31 x32 s33) := by
  intro n
  induction n with
  | zero => intro x31 x32 s33; exact zE_none
  | succ n ih =>
    intro x31 x32 s33
    unfold fTour_init_l1
    refine zq_4_1 ?_
    refine zq_1 ?_
    refine zq_49 ?_ ?_
    · refine zq_6_0 ?_
      refine zh_61 ?_
      refine zq_4_1 ?_
      refine zq_1 ?_
      refine zq_13 ?_
      refine zq_4_1 ?_
      refine zq_11 ?_
      refine zq_1 ?_
      refine zh_68 ?_
      refine zE_vl ?_
      refine zq_10_1 rfl ?_
      refine zq_56 ?_
      exact zE_w [true, true] (ih _ _ _)
    · exact zq_101
noncomputable def fTour_init (a0 : Nat) (s : zHp) : Option (Unit × zHp) :=
  yn0 a0 <|
  yna 30 36 s fun p1 s2 =>
  ypr 9 0 a0 p1 s2 fun s3 =>
  ypi 9 1 a0 0 s3 fun s4 =>
  yna 30 9 s4 fun p5 s6 =>
  ypr 9 2 a0 p5 s6 fun s7 =>
  yna 30 9 s7 fun p8 s9 =>
  ypr 9 3 a0 p8 s9 fun s10 =>
  yna 30 9 s10 fun p11 s12 =>
  ypr 9 4 a0 p11 s12 fun s13 =>
  yna 30 9 s13 fun p14 s15 =>
  ypr 9 5 a0 p14 s15 fun s16 =>
  yna 30 9 s16 fun p17 s18 =>
  ypr 9 6 a0 p17 s18 fun s19 =>
  yna 30 9 s19 fun p20 s21 =>
  ypr 9 7 a0 p20 s21 fun s22 =>
  yna 30 9 s22 fun p23 s24 =>
  ypr 9 8 a0 p23 s24 fun s25 =>
  yna 30 9 s25 fun p26 s27 =>
  ypr 9 9 a0 p26 s27 fun s28 =>
  ygr 9 0 a0 s28 fun p29 =>
  ybd (fJArrays_fill p29 1 s28) fun _ s30 =>
  fTour_init_l1 zFU a0 0 s30
set_option maxRecDepth 20000 in
set_option maxHeartbeats 4000000 in
theorem fTour_init_ok {E : Nat → Nat} (d : Nat) (a0 : Nat) (s : zHp) : zE zI Jv E (d + 1) 17 (zB 17 0) (zent 2 [.inr (.inr a0)]) [] s (fTour_init a0 s) := by
  show zE _ _ _ _ _ _ [some (.inr (.inr a0)), none] _ _ _
  unfold fTour_init
  refine zq_6_0 ?_
  refine zh_82 rfl ?_
  refine zq_6_0 ?_
  refine zq_1 ?_
  refine zh_74 ?_
  refine zh_64 ?_
  refine zq_6_0 ?_
  refine zq_1 ?_
  refine zh_62 ?_
  refine zq_6_0 ?_
  refine zq_1 ?_
  refine zh_74 ?_
  refine zh_64 ?_
  refine zq_6_0 ?_
  refine zq_1 ?_
  refine zh_74 ?_
  refine zh_64 ?_
  refine zq_6_0 ?_
  refine zq_1 ?_
  refine zh_74 ?_
  refine zh_64 ?_
  refine zq_6_0 ?_
  refine zq_1 ?_
  refine zh_74 ?_
  refine zh_64 ?_
  refine zq_6_0 ?_
  refine zq_1 ?_
  refine zh_74 ?_
  refine zh_64 ?_
  refine zq_6_0 ?_
  refine zq_1 ?_
  refine zh_74 ?_
  refine zh_64 ?_
  refine zq_6_0 ?_
  refine zq_1 ?_
  refine zh_74 ?_
  refine zh_64 ?_
  refine zq_6_0 ?_
  refine zq_1 ?_
  refine zh_74 ?_
  refine zh_64 ?_
  refine zq_6_0 ?_
  refine zh_61 ?_
  refine zq_1 ?_
  refine zq_90_2v rfl rfl (fJArrays_fill_ok (E := E) _ _ _ _) fun _ s30 => ?_
  refine zq_1 ?_
  refine zq_7_1 rfl ?_
  refine zq_57 ?_
  exact zE_w [true, true] (fTour_init_l1_ok (E := E) d zFU _ _ _)
/-! 18: EngraversHouse$PrintPlan.<init>:()V -/
noncomputable def fPrintPlan_init (a0 : Nat) (s : zHp) : Option (Unit × zHp) :=
  yn0 a0 <|
  ypi 7 0 a0 0 s fun s1 =>
  ypi 7 1 a0 0 s1 fun s2 =>
  ypi 7 2 a0 9999 s2 fun s3 =>
  ypi 7 3 a0 0 s3 fun s4 =>
  yna 30 10 s4 fun p5 s6 =>
  ypr 7 4 a0 p5 s6 fun s7 =>
  yna 30 11 s7 fun p8 s9 =>
  ypr 7 5 a0 p8 s9 fun s10 =>
  yna 30 11 s10 fun p11 s12 =>
  ypr 7 6 a0 p11 s12 fun s13 =>
  yna 30 11 s13 fun p14 s15 =>
  ypr 7 7 a0 p14 s15 fun s16 =>
  some ((), s16)
set_option maxRecDepth 20000 in
set_option maxHeartbeats 4000000 in
theorem fPrintPlan_init_ok {E : Nat → Nat} (d : Nat) (a0 : Nat) (s : zHp) : zE zI Jv E (d + 0) 18 (zB 18 0) (zent 1 [.inr (.inr a0)]) [] s (fPrintPlan_init a0 s) := by
  show zE _ _ _ _ _ _ [some (.inr (.inr a0))] _ _ _
  unfold fPrintPlan_init
  refine zq_6_0 ?_
  refine zh_82 rfl ?_
  refine zq_6_0 ?_
  refine zq_1 ?_
  refine zh_62 ?_
  refine zq_6_0 ?_
  refine zq_1 ?_
  refine zh_62 ?_
  refine zq_6_0 ?_
  refine zq_1 ?_
  refine zh_62 ?_
  refine zq_6_0 ?_
  refine zq_1 ?_
  refine zh_62 ?_
  refine zq_6_0 ?_
  refine zq_1 ?_
  refine zh_74 ?_
  refine zh_64 ?_
  refine zq_6_0 ?_
  refine zq_1 ?_
  refine zh_74 ?_
  refine zh_64 ?_
  refine zq_6_0 ?_
  refine zq_1 ?_
  refine zh_74 ?_
  refine zh_64 ?_
  refine zq_6_0 ?_
  refine zq_1 ?_
  refine zh_74 ?_
  refine zh_64 ?_
  exact zq_101
/-! 19: EngraversHouse.<init>:()V -/
noncomputable def fH_init (a0 : Nat) (s : zHp) : Option (Unit × zHp) :=
  yn0 a0 <|
  ypi 10 0 a0 0 s fun s1 =>
  yna 30 12 s1 fun p2 s3 =>
  ypr 10 1 a0 p2 s3 fun s4 =>
  ypi 10 2 a0 0 s4 fun s5 =>
  yna 33 60 s5 fun p6 s7 =>
  ypr 10 3 a0 p6 s7 fun s8 =>
  ypi 10 4 a0 0 s8 fun s9 =>
  ypi 10 5 a0 (-1) s9 fun s10 =>
  yna 34 12 s10 fun p11 s12 =>
  ypr 10 6 a0 p11 s12 fun s13 =>
  ypi 10 7 a0 0 s13 fun s14 =>
  ynw 4 6 s14 fun p15 s16 =>
  yn0 p15 <| ybd (fLayout_init p15 s16) fun _ s17 =>
  ypr 10 8 a0 p15 s17 fun s18 =>
  yna 30 120 s18 fun p19 s20 =>
  ypr 10 9 a0 p19 s20 fun s21 =>
  ypi 10 10 a0 0 s21 fun s22 =>
  yna 35 12 s22 fun p23 s24 =>
  ypr 10 11 a0 p23 s24 fun s25 =>
  ypi 10 12 a0 0 s25 fun s26 =>
  ynw 9 10 s26 fun p27 s28 =>
  yn0 p27 <| ybd (fTour_init p27 s28) fun _ s29 =>
  ypr 10 13 a0 p27 s29 fun s30 =>
  ynw 7 8 s30 fun p31 s32 =>
  yn0 p31 <| ybd (fPrintPlan_init p31 s32) fun _ s33 =>
  ypr 10 14 a0 p31 s33 fun s34 =>
  ynm 6 60 s34 fun p35 s36 =>
  ypr 10 15 a0 p35 s36 fun s37 =>
  yna 30 6 s37 fun p38 s39 =>
  ypr 10 16 a0 p38 s39 fun s40 =>
  yna 30 6 s40 fun p41 s42 =>
  ypr 10 17 a0 p41 s42 fun s43 =>
  yna 30 20 s43 fun p44 s45 =>
  ypr 10 18 a0 p44 s45 fun s46 =>
  ypi 10 19 a0 0 s46 fun s47 =>
  ygr 10 16 a0 s47 fun p48 =>
  ybd (fJArrays_fill p48 (-1) s47) fun _ s49 =>
  some ((), s49)
set_option maxRecDepth 20000 in
set_option maxHeartbeats 4000000 in
theorem fH_init_ok {E : Nat → Nat} (d : Nat) (a0 : Nat) (s : zHp) : zE zI Jv E (d + 2) 19 (zB 19 0) (zent 1 [.inr (.inr a0)]) [] s (fH_init a0 s) := by
  show zE _ _ _ _ _ _ [some (.inr (.inr a0))] _ _ _
  unfold fH_init
  refine zq_6_0 ?_
  refine zh_82 rfl ?_
  refine zq_6_0 ?_
  refine zq_1 ?_
  refine zh_62 ?_
  refine zq_6_0 ?_
  refine zq_1 ?_
  refine zh_74 ?_
  refine zh_64 ?_
  refine zq_6_0 ?_
  refine zq_1 ?_
  refine zh_62 ?_
  refine zq_6_0 ?_
  refine zq_1 ?_
  refine zh_75 ?_
  refine zh_64 ?_
  refine zq_6_0 ?_
  refine zq_1 ?_
  refine zh_62 ?_
  refine zq_6_0 ?_
  refine zq_1 ?_
  refine zh_62 ?_
  refine zq_6_0 ?_
  refine zq_1 ?_
  refine zh_75 ?_
  refine zh_64 ?_
  refine zq_6_0 ?_
  refine zq_1 ?_
  refine zh_62 ?_
  refine zq_6_0 ?_
  refine zh_73 ?_
  refine zq_33 ?_
  refine zq_91_1v rfl rfl (fLayout_init_ok (E := E) _ _ _) fun _ s17 => ?_
  refine zh_64 ?_
  refine zq_6_0 ?_
  refine zq_1 ?_
  refine zh_74 ?_
  refine zh_64 ?_
  refine zq_6_0 ?_
  refine zq_1 ?_
  refine zh_62 ?_
  refine zq_6_0 ?_
  refine zq_1 ?_
  refine zh_75 ?_
  refine zh_64 ?_
  refine zq_6_0 ?_
  refine zq_1 ?_
  refine zh_62 ?_
  refine zq_6_0 ?_
  refine zh_73 ?_
  refine zq_33 ?_
  refine zq_91_1v rfl rfl (fTour_init_ok (E := E) _ _ _) fun _ s29 => ?_
  refine zh_64 ?_
  refine zq_6_0 ?_
  refine zh_73 ?_
  refine zq_33 ?_
  refine zq_91_1v rfl rfl (fPrintPlan_init_ok (E := E) _ _ _) fun _ s33 => ?_
  refine zh_64 ?_
  refine zq_6_0 ?_
  refine zq_1 ?_
  refine zq_1 ?_
  refine zh_76 ?_
  refine zh_64 ?_
  refine zq_6_0 ?_
  refine zq_1 ?_
  refine zh_74 ?_
  refine zh_64 ?_
  refine zq_6_0 ?_
  refine zq_1 ?_
  refine zh_74 ?_
  refine zh_64 ?_
  refine zq_6_0 ?_
  refine zq_1 ?_
  refine zh_74 ?_
  refine zh_64 ?_
  refine zq_6_0 ?_
  refine zq_1 ?_
  refine zh_62 ?_
  refine zq_6_0 ?_
  refine zh_61 ?_
  refine zq_1 ?_
  refine zq_90_2v rfl rfl (fJArrays_fill_ok (E := E) _ _ _ _) fun _ s49 => ?_
  exact zq_101
/-! 20: EngraversHouse.within:(III)Z -/
noncomputable def fH_within (a0 : Int) (a1 : Int) (a2 : Int) (s : zHp) : Option (Int × zHp) :=
  if a0 < a1 then
    (some (0, s))
  else
  if a2 < a0 then
    (some (0, s))
  else
  some (1, s)
theorem fH_within_ok {E : Nat → Nat} (d : Nat) (a0 : Int) (a1 : Int) (a2 : Int) (s : zHp) : zE zI Ji E (d + 0) 20 (zB 20 0) (zent 3 [.inl a0, .inl a1, .inl a2]) [] s (fH_within a0 a1 a2 s) := by
  show zE _ _ _ _ _ _ [some (.inl a0), some (.inl a1), some (.inl a2)] _ _ _
  unfold fH_within
  refine zq_4_1 ?_
  refine zq_4_0 ?_
  refine zq_50 ?_ ?_
  · refine zq_1 ?_
    refine zq_57 ?_
    exact zq_96c (by decide)
  refine zq_4_0 ?_
  refine zq_4_2 ?_
  refine zq_50 ?_ ?_
  · refine zq_1 ?_
    refine zq_57 ?_
    exact zq_96c (by decide)
  refine zq_1 ?_
  refine zq_56 ?_
  exact zq_96c (by decide)
/-! 21: EngraversHouse.pass:(I)I -/
noncomputable def fH_pass (a0 : Nat) (a1 : Int) (s : zHp) : Option (Int × zHp) :=
  ybd (fH_within a1 1 400 s) fun v1 s2 =>
  if v1 = 0 then
    (some ((-2), s2))
  else
  ygi 10 0 a0 s2 fun v3 =>
  if 9999 < (zadd v3 a1) then
    (some ((-2), s2))
  else
    (ygi 10 0 a0 s2 fun v4 =>
    ypi 10 0 a0 (zadd v4 a1) s2 fun s5 =>
    ygi 10 0 a0 s5 fun v6 =>
    some (v6, s5))
theorem fH_pass_ok {E : Nat → Nat} (d : Nat) (a0 : Nat) (a1 : Int) (s : zHp) : zE zI Ji E (d + 1) 21 (zB 21 0) (zent 2 [.inr (.inr a0), .inl a1]) [] s (fH_pass a0 a1 s) := by
  show zE _ _ _ _ _ _ [some (.inr (.inr a0)), some (.inl a1)] _ _ _
  unfold fH_pass
  refine zq_4_1 ?_
  refine zq_1 ?_
  refine zq_1 ?_
  refine zq_90_3i rfl rfl (fH_within_ok (E := E) _ _ _ _ _) fun v1 s2 => ?_
  refine zq_40 ?_ ?_
  · refine zq_1 ?_
    exact zq_95 rfl
  refine zq_6_0 ?_
  refine zh_60 ?_
  refine zq_4_1 ?_
  refine zq_11 ?_
  refine zq_1 ?_
  refine zq_51 ?_ ?_
  · refine zq_57 ?_
    refine zq_1 ?_
    exact zq_95 rfl
  · refine zq_6_0 ?_
    refine zq_33 ?_
    refine zh_60 ?_
    refine zq_4_1 ?_
    refine zq_11 ?_
    refine zh_62 ?_
    refine zq_6_0 ?_
    refine zh_60 ?_
    exact zq_95 rfl
/-! 22: EngraversHouse.author:()I -/
noncomputable def fH_author (a0 : Nat) (s : zHp) : Option (Int × zHp) :=
  ygi 10 2 a0 s fun v1 =>
  if v1 < 12 then
    (ygr 10 1 a0 s fun p2 =>
    ygi 10 2 a0 s fun v3 =>
    ysi p2 v3 (-1) s fun s4 =>
    ygi 10 2 a0 s4 fun v5 =>
    ypi 10 2 a0 (zadd v5 1) s4 fun s6 =>
    ygi 10 2 a0 s6 fun v7 =>
    some (zsub v7 1, s6))
  else
  some ((-4), s)
theorem fH_author_ok {E : Nat → Nat} (d : Nat) (a0 : Nat) (s : zHp) : zE zI Ji E (d + 0) 22 (zB 22 0) (zent 1 [.inr (.inr a0)]) [] s (fH_author a0 s) := by
  show zE _ _ _ _ _ _ [some (.inr (.inr a0))] _ _ _
  unfold fH_author
  refine zq_6_0 ?_
  refine zh_60 ?_
  refine zq_1 ?_
  refine zq_48 ?_ ?_
  · refine zq_6_0 ?_
    refine zh_61 ?_
    refine zq_6_0 ?_
    refine zh_60 ?_
    refine zq_1 ?_
    refine zh_68 ?_
    refine zq_6_0 ?_
    refine zq_33 ?_
    refine zh_60 ?_
    refine zq_1 ?_
    refine zq_11 ?_
    refine zh_62 ?_
    refine zq_6_0 ?_
    refine zh_60 ?_
    refine zq_1 ?_
    refine zq_12 ?_
    exact zq_95 rfl
  refine zq_1 ?_
  exact zq_95 rfl
/-! 23: EngraversHouse.isAuthor:(I)Z -/
noncomputable def fH_isAuthor (a0 : Nat) (a1 : Int) (s : zHp) : Option (Int × zHp) :=
  if a1 < (0 : Int) then
    (some (0, s))
  else
  ygi 10 2 a0 s fun v1 =>
  if a1 < v1 then
    (if a1 < 12 then
      (some (1, s))
    else
      (some (0, s)))
  else
    (some (0, s))
theorem fH_isAuthor_ok {E : Nat → Nat} (d : Nat) (a0 : Nat) (a1 : Int) (s : zHp) : zE zI Ji E (d + 0) 23 (zB 23 0) (zent 2 [.inr (.inr a0), .inl a1]) [] s (fH_isAuthor a0 a1 s) := by
  show zE _ _ _ _ _ _ [some (.inr (.inr a0)), some (.inl a1)] _ _ _
  unfold fH_isAuthor
  refine zq_1 ?_
  refine zq_4_1 ?_
  refine zq_50 ?_ ?_
  · refine zq_1 ?_
    refine zq_57 ?_
    exact zq_96c (by decide)
  refine zq_4_1 ?_
  refine zq_6_0 ?_
  refine zh_60 ?_
  refine zq_49 ?_ ?_
  · refine zq_4_1 ?_
    refine zq_1 ?_
    refine zq_49 ?_ ?_
    · refine zq_1 ?_
      refine zq_56 ?_
      exact zq_96c (by decide)
    · refine zq_1 ?_
      refine zq_57 ?_
      exact zq_96c (by decide)
  · refine zq_1 ?_
    refine zq_57 ?_
    exact zq_96c (by decide)
/-! 24: EngraversHouse.died:(II)I -/
noncomputable def fH_died (a0 : Nat) (a1 : Int) (a2 : Int) (s : zHp) : Option (Int × zHp) :=
  yck 10 a0 s <| ybd (fH_isAuthor a0 a1 s) fun v1 s2 =>
  if v1 = 0 then
    (some ((-1), s2))
  else
    (ygi 10 0 a0 s2 fun v3 =>
    ybd (fH_within a2 0 v3 s2) fun v4 s5 =>
    if v4 = 0 then
      (some ((-2), s5))
    else
      (ygr 10 1 a0 s5 fun p6 =>
      yai p6 a1 s5 fun v7 =>
      if v7 = (-1) then
        (ygr 10 1 a0 s5 fun p8 =>
        ysi p8 a1 a2 s5 fun s9 =>
        some (1, s9))
      else
      some ((-3), s5)))
theorem fH_died_ok {E : Nat → Nat} (d : Nat) (a0 : Nat) (a1 : Int) (a2 : Int) (s : zHp) : zE zI Ji E (d + 1) 24 (zB 24 0) (zent 3 [.inr (.inr a0), .inl a1, .inl a2]) [] s (fH_died a0 a1 a2 s) := by
  show zE _ _ _ _ _ _ [some (.inr (.inr a0)), some (.inl a1), some (.inl a2)] _ _ _
  unfold fH_died
  refine zq_6_0 ?_
  refine zq_4_1 ?_
  refine zE_g fun hg => ?_
  refine zq_92_2i hg rfl rfl (fH_isAuthor_ok (E := E) _ _ _ _) fun v1 s2 => ?_
  refine zq_41 ?_ ?_
  · refine zq_1 ?_
    exact zq_95 rfl
  · refine zq_4_2 ?_
    refine zq_1 ?_
    refine zq_6_0 ?_
    refine zh_60 ?_
    refine zq_90_3i rfl rfl (fH_within_ok (E := E) _ _ _ _ _) fun v4 s5 => ?_
    refine zq_41 ?_ ?_
    · refine zq_1 ?_
      exact zq_95 rfl
    · refine zq_6_0 ?_
      refine zh_61 ?_
      refine zq_4_1 ?_
      refine zh_65 ?_
      refine zq_1 ?_
      refine zq_46 ?_ ?_
      · refine zq_6_0 ?_
        refine zh_61 ?_
        refine zq_4_1 ?_
        refine zq_4_2 ?_
        refine zh_68 ?_
        refine zq_1 ?_
        exact zq_95 rfl
      refine zq_1 ?_
      exact zq_95 rfl
/-! 25: EngraversHouse.isMeter:(I)Z -/
noncomputable def fH_isMeter (a0 : Int) (s : zHp) : Option (Int × zHp) :=
  ybd (fH_within a0 2 12 s) fun v1 s2 =>
  yrb v1 s2
theorem fH_isMeter_ok {E : Nat → Nat} (d : Nat) (a0 : Int) (s : zHp) : zE zI Ji E (d + 1) 25 (zB 25 0) (zent 1 [.inl a0]) [] s (fH_isMeter a0 s) := by
  show zE _ _ _ _ _ _ [some (.inl a0)] _ _ _
  unfold fH_isMeter
  refine zq_4_0 ?_
  refine zq_1 ?_
  refine zq_1 ?_
  refine zq_90_3i rfl rfl (fH_within_ok (E := E) _ _ _ _ _) fun v1 s2 => ?_
  exact zq_96
/-! 26: EngraversHouse$Thing.<init>:(II)V -/
noncomputable def fThing_init (a0 : Nat) (a1 : Int) (a2 : Int) (s : zHp) : Option (Unit × zHp) :=
  yn0 a0 <|
  ypi 20 0 a0 a1 s fun s1 =>
  ypi 20 1 a0 a2 s1 fun s2 =>
  some ((), s2)
set_option maxRecDepth 20000 in
set_option maxHeartbeats 4000000 in
theorem fThing_init_ok {E : Nat → Nat} (d : Nat) (a0 : Nat) (a1 : Int) (a2 : Int) (s : zHp) : zE zI Jv E (d + 0) 26 (zB 26 0) (zent 3 [.inr (.inr a0), .inl a1, .inl a2]) [] s (fThing_init a0 a1 a2 s) := by
  show zE _ _ _ _ _ _ [some (.inr (.inr a0)), some (.inl a1), some (.inl a2)] _ _ _
  unfold fThing_init
  refine zq_6_0 ?_
  refine zh_82 rfl ?_
  refine zq_6_0 ?_
  refine zq_4_1 ?_
  refine zh_62 ?_
  refine zq_6_0 ?_
  refine zq_4_2 ?_
  refine zh_62 ?_
  exact zq_101
/-! 27: EngraversHouse$Score.<init>:(ILEngraversHouse$Score;III)V -/
noncomputable def fScore_init (a0 : Nat) (a1 : Int) (a2 : Nat) (a3 : Int) (a4 : Int) (a5 : Int) (s : zHp) : Option (Unit × zHp) :=
  yjn (fun (x1 : Nat) (x2 : Int) (x3 : Nat) (x4 : Int) (x5 : Int) (x6 : Int) (x7 : Nat) (x8 : Int) (s9 : zHp) =>
   yn0 x7 <| ybd (fThing_init x7 x8 x2 s9) fun _ s11 =>
   yna 36 80 s11 fun p12 s13 =>
   ypr 8 6 x1 p12 s13 fun s14 =>
   yna 30 4 s14 fun p15 s16 =>
   ypr 8 7 x1 p15 s16 fun s17 =>
   ypr 8 2 x1 x3 s17 fun s18 =>
   ypi 8 3 x1 x4 s18 fun s19 =>
   ypi 8 4 x1 x5 s19 fun s20 =>
   ypi 8 5 x1 x6 s20 fun s21 =>
   some ((), s21)) fun q10 =>
   if a2 = 0 then
    (q10 a0 a1 a2 a3 a4 a5 a0 1 s)
  else
    (q10 a0 a1 a2 a3 a4 a5 a0 6 s)
set_option maxRecDepth 20000 in
set_option maxHeartbeats 4000000 in
theorem fScore_init_ok {E : Nat → Nat} (d : Nat) (a0 : Nat) (a1 : Int) (a2 : Nat) (a3 : Int) (a4 : Int) (a5 : Int) (s : zHp) : zE zI Jv E (d + 1) 27 (zB 27 0) (zent 6 [.inr (.inr a0), .inl a1, .inr (.inr a2), .inl a3, .inl a4, .inl a5]) [] s (fScore_init a0 a1 a2 a3 a4 a5 s) := by
  show zE _ _ _ _ _ _ [some (.inr (.inr a0)), some (.inl a1), some (.inr (.inr a2)), some (.inl a3), some (.inl a4), some (.inl a5)] _ _ _
  unfold fScore_init
  refine zE_jn (fun q10 => ∀ (y0 : Nat) (y1 : Int) (y2 : Nat) (y3 : Int) (y4 : Int) (y5 : Int) (y6 : Nat) (y7 : Int) (s : zHp), zE zI Jv E (d + 1) 27 (zB 27 2) ([some (.inr (.inr y0)), some (.inl y1), some (.inr (.inr y2)), some (.inl y3), some (.inl y4), some (.inl y5)]) ([.inl y7, .inr (.inr y6)]) s (q10 y0 y1 y2 y3 y4 y5 y6 y7 s)) (fun x1 x2 x3 x4 x5 x6 x7 x8 s9 => ?_) (fun q10 hq10 => ?_)
  · refine zq_4_1 ?_
    refine zq_91_3v rfl rfl (fThing_init_ok (E := E) _ _ _ _ _) fun _ s11 => ?_
    refine zq_6_0 ?_
    refine zq_1 ?_
    refine zh_75 ?_
    refine zh_64 ?_
    refine zq_6_0 ?_
    refine zq_1 ?_
    refine zh_74 ?_
    refine zh_64 ?_
    refine zq_6_0 ?_
    refine zq_6_2 ?_
    refine zh_64 ?_
    refine zq_6_0 ?_
    refine zq_4_3 ?_
    refine zh_62 ?_
    refine zq_6_0 ?_
    refine zq_4_4 ?_
    refine zh_62 ?_
    refine zq_6_0 ?_
    refine zq_4_5 ?_
    refine zh_62 ?_
    exact zq_101
  refine zq_6_0 ?_
  refine zq_6_2 ?_
  refine zq_55 ?_ ?_
  · refine zq_1 ?_
    refine zq_56 ?_
    exact zE_w [true, true, true, true, true, true] (hq10 _ _ _ _ _ _ _ _ _)
  · refine zq_1 ?_
    refine zq_57 ?_
    exact zE_w [true, true, true, true, true, true] (hq10 _ _ _ _ _ _ _ _ _)
/-! 28: EngraversHouse.keep:(LEngraversHouse$Thing;)I -/
noncomputable def fH_keep (a0 : Nat) (a1 : Nat) (s : zHp) : Option (Int × zHp) :=
  ygi 10 4 a0 s fun v1 =>
  if v1 < 60 then
    (ygr 10 3 a0 s fun p2 =>
    ygi 10 4 a0 s fun v3 =>
    ysr p2 v3 a1 s fun s4 =>
    ygi 10 4 a0 s4 fun v5 =>
    ypi 10 4 a0 (zadd v5 1) s4 fun s6 =>
    ygi 20 1 a1 s6 fun v7 =>
    some (v7, s6))
  else
  some ((-4), s)
theorem fH_keep_ok {E : Nat → Nat} (d : Nat) (a0 : Nat) (a1 : Nat) (s : zHp) : zE zI Ji E (d + 0) 28 (zB 28 0) (zent 2 [.inr (.inr a0), .inr (.inr a1)]) [] s (fH_keep a0 a1 s) := by
  show zE _ _ _ _ _ _ [some (.inr (.inr a0)), some (.inr (.inr a1))] _ _ _
  unfold fH_keep
  refine zq_6_0 ?_
  refine zh_60 ?_
  refine zq_1 ?_
  refine zq_48 ?_ ?_
  · refine zq_6_0 ?_
    refine zh_61 ?_
    refine zq_6_0 ?_
    refine zh_60 ?_
    refine zq_6_1 ?_
    refine zh_71 ?_
    refine zq_6_0 ?_
    refine zq_33 ?_
    refine zh_60 ?_
    refine zq_1 ?_
    refine zq_11 ?_
    refine zh_62 ?_
    refine zq_6_1 ?_
    refine zh_60 ?_
    exact zq_95 rfl
  refine zq_1 ?_
  exact zq_95 rfl
/-! 29: EngraversHouse.score:(III)I -/
noncomputable def fH_score (a0 : Nat) (a1 : Int) (a2 : Int) (a3 : Int) (s : zHp) : Option (Int × zHp) :=
  yck 10 a0 s <| ybd (fH_isAuthor a0 a1 s) fun v1 s2 =>
  if v1 = 0 then
    (some ((-1), s2))
  else
    (ybd (fH_isMeter a2 s2) fun v3 s4 =>
    if v3 = 0 then
      (some ((-2), s4))
    else
    ybd (fH_within a3 1 4 s4) fun v5 s6 =>
    if v5 = 0 then
      (some ((-2), s6))
    else
      (ygi 10 4 a0 s6 fun v7 =>
      if v7 < 60 then
        (ynw 8 8 s6 fun p8 s9 =>
        ygi 10 4 a0 s9 fun v10 =>
        yn0 p8 <| ybd (fScore_init p8 v10 0 a1 a2 a3 s9) fun _ s11 =>
        yck 10 a0 s11 <| ybd (fH_keep a0 p8 s11) fun v12 s13 =>
        some (v12, s13))
      else
      some ((-4), s6)))
theorem fH_score_ok {E : Nat → Nat} (d : Nat) (a0 : Nat) (a1 : Int) (a2 : Int) (a3 : Int) (s : zHp) : zE zI Ji E (d + 2) 29 (zB 29 0) (zent 4 [.inr (.inr a0), .inl a1, .inl a2, .inl a3]) [] s (fH_score a0 a1 a2 a3 s) := by
  show zE _ _ _ _ _ _ [some (.inr (.inr a0)), some (.inl a1), some (.inl a2), some (.inl a3)] _ _ _
  unfold fH_score
  refine zq_6_0 ?_
  refine zq_4_1 ?_
  refine zE_g fun hg => ?_
  refine zq_92_2i hg rfl rfl (fH_isAuthor_ok (E := E) _ _ _ _) fun v1 s2 => ?_
  refine zq_41 ?_ ?_
  · refine zq_1 ?_
    exact zq_95 rfl
  · refine zq_4_2 ?_
    refine zq_90_1i rfl rfl (fH_isMeter_ok (E := E) _ _ _) fun v3 s4 => ?_
    refine zq_40 ?_ ?_
    · refine zq_1 ?_
      exact zq_95 rfl
    refine zq_4_3 ?_
    refine zq_1 ?_
    refine zq_1 ?_
    refine zq_90_3i rfl rfl (fH_within_ok (E := E) _ _ _ _ _) fun v5 s6 => ?_
    refine zq_41 ?_ ?_
    · refine zq_57 ?_
      refine zq_1 ?_
      exact zq_95 rfl
    · refine zq_6_0 ?_
      refine zh_60 ?_
      refine zq_1 ?_
      refine zq_48 ?_ ?_
      · refine zq_6_0 ?_
        refine zh_73 ?_
        refine zq_33 ?_
        refine zq_6_0 ?_
        refine zh_60 ?_
        refine zq_3 ?_
        refine zq_4_1 ?_
        refine zq_4_2 ?_
        refine zq_4_3 ?_
        refine zq_91_6v rfl rfl (fScore_init_ok (E := E) _ _ _ _ _ _ _ _) fun _ s11 => ?_
        refine zE_g fun hg => ?_
        refine zq_92_2i hg rfl rfl (fH_keep_ok (E := E) _ _ _ _) fun v12 s13 => ?_
        exact zq_95 rfl
      refine zq_1 ?_
      exact zq_95 rfl
/-! 30: EngraversHouse.thingAt:(I)LEngraversHouse$Thing; -/
noncomputable def fH_thingAt (a0 : Nat) (a1 : Int) (s : zHp) : Option (Nat × zHp) :=
  if a1 < (0 : Int) then
    (some (0, s))
  else
  ygi 10 4 a0 s fun v1 =>
  if a1 < v1 then
    (if a1 < 60 then
      (ygr 10 3 a0 s fun p2 =>
      yar p2 a1 s fun p3 =>
      some (p3, s))
    else
      (some (0, s)))
  else
    (some (0, s))
theorem fH_thingAt_ok {E : Nat → Nat} (d : Nat) (a0 : Nat) (a1 : Int) (s : zHp) : zE zI Jr E (d + 0) 30 (zB 30 0) (zent 2 [.inr (.inr a0), .inl a1]) [] s (fH_thingAt a0 a1 s) := by
  show zE _ _ _ _ _ _ [some (.inr (.inr a0)), some (.inl a1)] _ _ _
  unfold fH_thingAt
  refine zq_1 ?_
  refine zq_4_1 ?_
  refine zq_50 ?_ ?_
  · refine zq_3 ?_
    refine zq_57 ?_
    exact zq_100
  refine zq_4_1 ?_
  refine zq_6_0 ?_
  refine zh_60 ?_
  refine zq_49 ?_ ?_
  · refine zq_4_1 ?_
    refine zq_1 ?_
    refine zq_49 ?_ ?_
    · refine zq_6_0 ?_
      refine zh_61 ?_
      refine zq_4_1 ?_
      refine zh_67 ?_
      refine zq_56 ?_
      exact zq_100
    · refine zq_3 ?_
      refine zq_57 ?_
      exact zq_100
  · refine zq_3 ?_
    refine zq_57 ?_
    exact zq_100
/-! 31: EngraversHouse.scoreAt:(I)LEngraversHouse$Score; -/
noncomputable def fH_scoreAt (a0 : Nat) (a1 : Int) (s : zHp) : Option (Nat × zHp) :=
  yck 10 a0 s <| ybd (fH_thingAt a0 a1 s) fun p1 s2 =>
  yio 8 p1 s2 fun v3 =>
  if v3 = 0 then
    (some (0, s2))
  else
  yck 8 p1 s2 <|
  some (p1, s2)
theorem fH_scoreAt_ok {E : Nat → Nat} (d : Nat) (a0 : Nat) (a1 : Int) (s : zHp) : zE zI Jr E (d + 1) 31 (zB 31 0) (zent 4 [.inr (.inr a0), .inl a1]) [] s (fH_scoreAt a0 a1 s) := by
  show zE _ _ _ _ _ _ [some (.inr (.inr a0)), some (.inl a1), none, none] _ _ _
  unfold fH_scoreAt
  refine zq_6_0 ?_
  refine zq_4_1 ?_
  refine zE_g fun hg => ?_
  refine zq_92_2r hg rfl rfl (fH_thingAt_ok (E := E) _ _ _ _) fun p1 s2 => ?_
  refine zq_9_3 rfl ?_
  refine zq_6_3 ?_
  refine zh_77 ?_
  refine zq_40 ?_ ?_
  · refine zq_3 ?_
    refine zq_57 ?_
    exact zq_100
  refine zq_6_3 ?_
  refine zh_78 ?_
  refine zq_9_2 rfl ?_
  refine zq_6_2 ?_
  refine zq_56 ?_
  exact zq_100
/-! 32: EngraversHouse$Score.rootScore:()LEngraversHouse$Score; -/
noncomputable def fScore_rootScore (a0 : Nat) (s : zHp) : Option (Nat × zHp) :=
  ygr 8 2 a0 s fun p1 =>
  if p1 = 0 then
    (some (a0, s))
  else
    (ygr 8 2 a0 s fun p2 =>
    some (p2, s))
theorem fScore_rootScore_ok {E : Nat → Nat} (d : Nat) (a0 : Nat) (s : zHp) : zE zI Jr E (d + 0) 32 (zB 32 0) (zent 1 [.inr (.inr a0)]) [] s (fScore_rootScore a0 s) := by
  show zE _ _ _ _ _ _ [some (.inr (.inr a0))] _ _ _
  unfold fScore_rootScore
  refine zq_6_0 ?_
  refine zh_61 ?_
  refine zq_55 ?_ ?_
  · refine zq_6_0 ?_
    refine zq_56 ?_
    exact zq_100
  · refine zq_6_0 ?_
    refine zh_61 ?_
    refine zq_57 ?_
    exact zq_100
/-! 33: EngraversHouse.derive:(IIII)I -/
noncomputable def fH_derive (a0 : Nat) (a1 : Int) (a2 : Int) (a3 : Int) (a4 : Int) (s : zHp) : Option (Int × zHp) :=
  yck 10 a0 s <| ybd (fH_thingAt a0 a1 s) fun p1 s2 =>
  if p1 = 0 then
    (some ((-1), s2))
  else
  yck 10 a0 s2 <| ybd (fH_isAuthor a0 a2 s2) fun v3 s4 =>
  if v3 = 0 then
    (some ((-1), s4))
  else
    (yck 10 a0 s4 <| ybd (fH_scoreAt a0 a1 s4) fun p5 s6 =>
    if p5 = 0 then
      (some ((-12), s6))
    else
      (ybd (fH_isMeter a3 s6) fun v7 s8 =>
      if v7 = 0 then
        (some ((-2), s8))
      else
      ybd (fH_within a4 1 4 s8) fun v9 s10 =>
      if v9 = 0 then
        (some ((-2), s10))
      else
        (ygi 10 4 a0 s10 fun v11 =>
        if v11 < 60 then
          (ynw 8 8 s10 fun p12 s13 =>
          ygi 10 4 a0 s13 fun v14 =>
          yck 8 p5 s13 <| ybd (fScore_rootScore p5 s13) fun p15 s16 =>
          yn0 p12 <| ybd (fScore_init p12 v14 p15 a2 a3 a4 s16) fun _ s17 =>
          yck 10 a0 s17 <| ybd (fH_keep a0 p12 s17) fun v18 s19 =>
          some (v18, s19))
        else
        some ((-4), s10))))
theorem fH_derive_ok {E : Nat → Nat} (d : Nat) (a0 : Nat) (a1 : Int) (a2 : Int) (a3 : Int) (a4 : Int) (s : zHp) : zE zI Ji E (d + 2) 33 (zB 33 0) (zent 6 [.inr (.inr a0), .inl a1, .inl a2, .inl a3, .inl a4]) [] s (fH_derive a0 a1 a2 a3 a4 s) := by
  show zE _ _ _ _ _ _ [some (.inr (.inr a0)), some (.inl a1), some (.inl a2), some (.inl a3), some (.inl a4), none] _ _ _
  unfold fH_derive
  refine zq_6_0 ?_
  refine zq_4_1 ?_
  refine zE_g fun hg => ?_
  refine zq_92_2r hg rfl rfl (fH_thingAt_ok (E := E) _ _ _ _) fun p1 s2 => ?_
  refine zq_54 ?_ ?_
  · refine zq_1 ?_
    exact zq_95 rfl
  refine zq_6_0 ?_
  refine zq_4_2 ?_
  refine zE_g fun hg => ?_
  refine zq_92_2i hg rfl rfl (fH_isAuthor_ok (E := E) _ _ _ _) fun v3 s4 => ?_
  refine zq_41 ?_ ?_
  · refine zq_57 ?_
    refine zq_1 ?_
    exact zq_95 rfl
  · refine zq_6_0 ?_
    refine zq_4_1 ?_
    refine zE_g fun hg => ?_
    refine zq_92_2r hg rfl rfl (fH_scoreAt_ok (E := E) _ _ _ _) fun p5 s6 => ?_
    refine zq_9_5 rfl ?_
    refine zq_6_5 ?_
    refine zq_55 ?_ ?_
    · refine zq_1 ?_
      exact zq_95 rfl
    · refine zq_4_3 ?_
      refine zq_90_1i rfl rfl (fH_isMeter_ok (E := E) _ _ _) fun v7 s8 => ?_
      refine zq_40 ?_ ?_
      · refine zq_1 ?_
        exact zq_95 rfl
      refine zq_4_4 ?_
      refine zq_1 ?_
      refine zq_1 ?_
      refine zq_90_3i rfl rfl (fH_within_ok (E := E) _ _ _ _ _) fun v9 s10 => ?_
      refine zq_41 ?_ ?_
      · refine zq_57 ?_
        refine zq_1 ?_
        exact zq_95 rfl
      · refine zq_6_0 ?_
        refine zh_60 ?_
        refine zq_1 ?_
        refine zq_48 ?_ ?_
        · refine zq_6_0 ?_
          refine zh_73 ?_
          refine zq_33 ?_
          refine zq_6_0 ?_
          refine zh_60 ?_
          refine zq_6_5 ?_
          refine zE_g fun hg => ?_
          refine zq_92_1r hg rfl rfl (fScore_rootScore_ok (E := E) _ _ _) fun p15 s16 => ?_
          refine zq_4_2 ?_
          refine zq_4_3 ?_
          refine zq_4_4 ?_
          refine zq_91_6v rfl rfl (fScore_init_ok (E := E) _ _ _ _ _ _ _ _) fun _ s17 => ?_
          refine zE_g fun hg => ?_
          refine zq_92_2i hg rfl rfl (fH_keep_ok (E := E) _ _ _ _) fun v18 s19 => ?_
          exact zq_95 rfl
        refine zq_1 ?_
        exact zq_95 rfl
/-! 34: EngraversHouse.lacking:(I)I -/
noncomputable def fH_lacking (a0 : Nat) (a1 : Int) (s : zHp) : Option (Int × zHp) :=
  yck 10 a0 s <| ybd (fH_thingAt a0 a1 s) fun p1 s2 =>
  if p1 = 0 then
    (some ((-1), s2))
  else
    (some ((-12), s2))
theorem fH_lacking_ok {E : Nat → Nat} (d : Nat) (a0 : Nat) (a1 : Int) (s : zHp) : zE zI Ji E (d + 1) 34 (zB 34 0) (zent 2 [.inr (.inr a0), .inl a1]) [] s (fH_lacking a0 a1 s) := by
  show zE _ _ _ _ _ _ [some (.inr (.inr a0)), some (.inl a1)] _ _ _
  unfold fH_lacking
  refine zq_6_0 ?_
  refine zq_4_1 ?_
  refine zE_g fun hg => ?_
  refine zq_92_2r hg rfl rfl (fH_thingAt_ok (E := E) _ _ _ _) fun p1 s2 => ?_
  refine zq_55 ?_ ?_
  · refine zq_1 ?_
    refine zq_56 ?_
    exact zq_95 rfl
  · refine zq_1 ?_
    refine zq_57 ?_
    exact zq_95 rfl
/-! 35: EngraversHouse$Score.hasVoice:(I)Z -/
noncomputable def fScore_hasVoice (a0 : Nat) (a1 : Int) (s : zHp) : Option (Int × zHp) :=
  if a1 < (0 : Int) then
    (some (0, s))
  else
  ygi 8 5 a0 s fun v1 =>
  if a1 < v1 then
    (if a1 < 4 then
      (some (1, s))
    else
      (some (0, s)))
  else
    (some (0, s))
theorem fScore_hasVoice_ok {E : Nat → Nat} (d : Nat) (a0 : Nat) (a1 : Int) (s : zHp) : zE zI Ji E (d + 0) 35 (zB 35 0) (zent 2 [.inr (.inr a0), .inl a1]) [] s (fScore_hasVoice a0 a1 s) := by
  show zE _ _ _ _ _ _ [some (.inr (.inr a0)), some (.inl a1)] _ _ _
  unfold fScore_hasVoice
  refine zq_1 ?_
  refine zq_4_1 ?_
  refine zq_50 ?_ ?_
  · refine zq_1 ?_
    refine zq_57 ?_
    exact zq_96c (by decide)
  refine zq_4_1 ?_
  refine zq_6_0 ?_
  refine zh_60 ?_
  refine zq_49 ?_ ?_
  · refine zq_4_1 ?_
    refine zq_1 ?_
    refine zq_49 ?_ ?_
    · refine zq_1 ?_
      refine zq_56 ?_
      exact zq_96c (by decide)
    · refine zq_1 ?_
      refine zq_57 ?_
      exact zq_96c (by decide)
  · refine zq_1 ?_
    refine zq_57 ?_
    exact zq_96c (by decide)
/-! 36: EngraversHouse.isNote:(III)Z -/
noncomputable def fH_isNote (a0 : Int) (a1 : Int) (a2 : Int) (s : zHp) : Option (Int × zHp) :=
  ybd (fH_within a0 0 60 s) fun v1 s2 =>
  if v1 = 0 then
    (some (0, s2))
  else
  ybd (fH_within a1 1 12 s2) fun v3 s4 =>
  if v3 = 0 then
    (some (0, s4))
  else
  ybd (fH_within a2 0 1 s4) fun v5 s6 =>
  if v5 = 0 then
    (some (0, s6))
  else
  if a0 = 0 then
    (if a2 = 1 then
      (some (0, s6))
    else
    some (1, s6))
  else
    (some (1, s6))
theorem fH_isNote_ok {E : Nat → Nat} (d : Nat) (a0 : Int) (a1 : Int) (a2 : Int) (s : zHp) : zE zI Ji E (d + 1) 36 (zB 36 0) (zent 3 [.inl a0, .inl a1, .inl a2]) [] s (fH_isNote a0 a1 a2 s) := by
  show zE _ _ _ _ _ _ [some (.inl a0), some (.inl a1), some (.inl a2)] _ _ _
  unfold fH_isNote
  refine zq_4_0 ?_
  refine zq_1 ?_
  refine zq_1 ?_
  refine zq_90_3i rfl rfl (fH_within_ok (E := E) _ _ _ _ _) fun v1 s2 => ?_
  refine zq_40 ?_ ?_
  · refine zq_1 ?_
    refine zq_57 ?_
    exact zq_96c (by decide)
  refine zq_4_1 ?_
  refine zq_1 ?_
  refine zq_1 ?_
  refine zq_90_3i rfl rfl (fH_within_ok (E := E) _ _ _ _ _) fun v3 s4 => ?_
  refine zq_40 ?_ ?_
  · refine zq_1 ?_
    refine zq_57 ?_
    exact zq_96c (by decide)
  refine zq_4_2 ?_
  refine zq_1 ?_
  refine zq_1 ?_
  refine zq_90_3i rfl rfl (fH_within_ok (E := E) _ _ _ _ _) fun v5 s6 => ?_
  refine zq_40 ?_ ?_
  · refine zq_1 ?_
    refine zq_57 ?_
    exact zq_96c (by decide)
  refine zq_4_0 ?_
  refine zq_41 ?_ ?_
  · refine zq_4_2 ?_
    refine zq_1 ?_
    refine zq_46 ?_ ?_
    · refine zq_1 ?_
      refine zq_57 ?_
      exact zq_96c (by decide)
    refine zq_57 ?_
    refine zq_1 ?_
    refine zq_56 ?_
    exact zq_96c (by decide)
  · refine zq_1 ?_
    refine zq_56 ?_
    exact zq_96c (by decide)
/-! 37: EngraversHouse.noteCode:(III)I -/
noncomputable def fH_noteCode (a0 : Int) (a1 : Int) (a2 : Int) (s : zHp) : Option (Int × zHp) :=
  yjn (fun (x1 : Int) (x2 : Int) (x3 : Int) (s4 : zHp) =>
   some (zadd (zadd x3 (zmul 2 x1)) x2, s4)) fun q5 =>
   if a0 = 0 then
    (q5 a1 a2 0 s)
  else
    (q5 a1 a2 (zmul 1000 (zadd a0 100)) s)
theorem fH_noteCode_ok {E : Nat → Nat} (d : Nat) (a0 : Int) (a1 : Int) (a2 : Int) (s : zHp) : zE zI Ji E (d + 0) 37 (zB 37 0) (zent 3 [.inl a0, .inl a1, .inl a2]) [] s (fH_noteCode a0 a1 a2 s) := by
  show zE _ _ _ _ _ _ [some (.inl a0), some (.inl a1), some (.inl a2)] _ _ _
  unfold fH_noteCode
  refine zE_jn (fun q5 => ∀ (y0 : Int) (y1 : Int) (y2 : Int) (s : zHp), zE zI Ji E (d + 0) 37 (zB 37 2) ([none, some (.inl y0), some (.inl y1)]) ([.inl y2]) s (q5 y0 y1 y2 s)) (fun x1 x2 x3 s4 => ?_) (fun q5 hq5 => ?_)
  · refine zq_1 ?_
    refine zq_4_1 ?_
    refine zq_13 ?_
    refine zq_11 ?_
    refine zq_4_2 ?_
    refine zq_11 ?_
    exact zq_95 rfl
  refine zq_4_0 ?_
  refine zq_41 ?_ ?_
  · refine zq_1 ?_
    refine zq_56 ?_
    exact zE_w [false, true, true] (hq5 _ _ _ _)
  · refine zq_1 ?_
    refine zq_4_0 ?_
    refine zq_1 ?_
    refine zq_11 ?_
    refine zq_13 ?_
    refine zq_57 ?_
    exact zE_w [false, true, true] (hq5 _ _ _ _)
/-! 38: EngraversHouse$Score.begunBar:(II)LEngraversHouse$Bar; -/
noncomputable def fScore_begunBar (a0 : Nat) (a1 : Int) (a2 : Int) (s : zHp) : Option (Nat × zHp) :=
  yck 8 a0 s <| ybd (fScore_hasVoice a0 a1 s) fun v1 s2 =>
  if v1 = 0 then
    (some (0, s2))
  else
  if a2 < (0 : Int) then
    (some (0, s2))
  else
  if a2 < 20 then
    (ygr 8 7 a0 s2 fun p3 =>
    yai p3 a1 s2 fun v4 =>
    if a2 < v4 then
      (ygr 8 6 a0 s2 fun p5 =>
      yar p5 (zadd (zmul a1 20) a2) s2 fun p6 =>
      some (p6, s2))
    else
      (some (0, s2)))
  else
    (some (0, s2))
theorem fScore_begunBar_ok {E : Nat → Nat} (d : Nat) (a0 : Nat) (a1 : Int) (a2 : Int) (s : zHp) : zE zI Jr E (d + 1) 38 (zB 38 0) (zent 3 [.inr (.inr a0), .inl a1, .inl a2]) [] s (fScore_begunBar a0 a1 a2 s) := by
  show zE _ _ _ _ _ _ [some (.inr (.inr a0)), some (.inl a1), some (.inl a2)] _ _ _
  unfold fScore_begunBar
  refine zq_6_0 ?_
  refine zq_4_1 ?_
  refine zE_g fun hg => ?_
  refine zq_92_2i hg rfl rfl (fScore_hasVoice_ok (E := E) _ _ _ _) fun v1 s2 => ?_
  refine zq_40 ?_ ?_
  · refine zq_3 ?_
    refine zq_57 ?_
    exact zq_100
  refine zq_1 ?_
  refine zq_4_2 ?_
  refine zq_50 ?_ ?_
  · refine zq_3 ?_
    refine zq_57 ?_
    exact zq_100
  refine zq_4_2 ?_
  refine zq_1 ?_
  refine zq_49 ?_ ?_
  · refine zq_4_2 ?_
    refine zq_6_0 ?_
    refine zh_61 ?_
    refine zq_4_1 ?_
    refine zh_65 ?_
    refine zq_49 ?_ ?_
    · refine zq_6_0 ?_
      refine zh_61 ?_
      refine zq_4_1 ?_
      refine zq_1 ?_
      refine zq_13 ?_
      refine zq_4_2 ?_
      refine zq_11 ?_
      refine zh_67 ?_
      refine zq_56 ?_
      exact zq_100
    · refine zq_3 ?_
      refine zq_57 ?_
      exact zq_100
  · refine zq_3 ?_
    refine zq_57 ?_
    exact zq_100
/-! 39: EngraversHouse$Score.op_enBar:(I)LEngraversHouse$Bar; -/
noncomputable def fScore_openBar (a0 : Nat) (a1 : Int) (s : zHp) : Option (Nat × zHp) :=
  yjn (fun (x1 : Nat) (x2 : Nat) (s3 : zHp) =>
   if x2 = 0 then
     (some (0, s3))
   else
   ygi 0 2 x2 s3 fun v5 =>
   ygi 8 4 x1 s3 fun v6 =>
   if v5 = v6 then
     (some (0, s3))
   else
     (some (x2, s3))) fun q4 =>
   yck 8 a0 s <| ybd (fScore_hasVoice a0 a1 s) fun v7 s8 =>
  if v7 = 0 then
    (q4 a0 0 s8)
  else
  ygr 8 7 a0 s8 fun p9 =>
  yai p9 a1 s8 fun v10 =>
  yck 8 a0 s8 <| ybd (fScore_begunBar a0 a1 (zsub v10 1) s8) fun p11 s12 =>
  q4 a0 p11 s12
theorem fScore_openBar_ok {E : Nat → Nat} (d : Nat) (a0 : Nat) (a1 : Int) (s : zHp) : zE zI Jr E (d + 2) 39 (zB 39 0) (zent 3 [.inr (.inr a0), .inl a1]) [] s (fScore_openBar a0 a1 s) := by
  show zE _ _ _ _ _ _ [some (.inr (.inr a0)), some (.inl a1), none] _ _ _
  unfold fScore_openBar
  refine zE_jn (fun q4 => ∀ (y0 : Nat) (y1 : Nat) (s : zHp), zE zI Jr E (d + 2) 39 (zB 39 2) ([some (.inr (.inr y0)), none, none]) ([.inr (.inr y1)]) s (q4 y0 y1 s)) (fun x1 x2 s3 => ?_) (fun q4 hq4 => ?_)
  · refine zq_9_2 rfl ?_
    refine zq_6_2 ?_
    refine zq_54 ?_ ?_
    · refine zq_3 ?_
      refine zq_56 ?_
      exact zq_100
    refine zq_6_2 ?_
    refine zh_60 ?_
    refine zq_6_0 ?_
    refine zh_60 ?_
    refine zq_47 ?_ ?_
    · refine zq_57 ?_
      refine zq_3 ?_
      refine zq_56 ?_
      exact zq_100
    · refine zq_6_2 ?_
      refine zq_57 ?_
      exact zq_100
  refine zq_6_0 ?_
  refine zq_4_1 ?_
  refine zE_g fun hg => ?_
  refine zq_92_2i hg rfl rfl (fScore_hasVoice_ok (E := E) _ _ _ _) fun v7 s8 => ?_
  refine zq_40 ?_ ?_
  · refine zq_3 ?_
    refine zq_57 ?_
    exact zE_w [true, false, false] (hq4 _ _ _)
  refine zq_6_0 ?_
  refine zq_4_1 ?_
  refine zq_6_0 ?_
  refine zh_61 ?_
  refine zq_4_1 ?_
  refine zh_65 ?_
  refine zq_1 ?_
  refine zq_12 ?_
  refine zE_g fun hg => ?_
  refine zq_92_3r hg rfl rfl (fScore_begunBar_ok (E := E) _ _ _ _ _) fun p11 s12 => ?_
  refine zq_56 ?_
  exact zE_w [true, false, false] (hq4 _ _ _)
/-! 40: EngraversHouse.lengthOf:(I)I -/
noncomputable def fH_lengthOf (a0 : Int) (s : zHp) : Option (Int × zHp) :=
  some (zdiv (zrem a0 1000) 2, s)
theorem fH_lengthOf_ok {E : Nat → Nat} (d : Nat) (a0 : Int) (s : zHp) : zE zI Ji E (d + 0) 40 (zB 40 0) (zent 1 [.inl a0]) [] s (fH_lengthOf a0 s) := by
  show zE _ _ _ _ _ _ [some (.inl a0)] _ _ _
  unfold fH_lengthOf
  refine zq_4_0 ?_
  refine zq_1 ?_
  refine zq_15c (by decide) ?_
  refine zq_1 ?_
  refine zq_14c (by decide) ?_
  exact zq_95 rfl
/-! 41: EngraversHouse$Bar.<init>:()V -/
noncomputable def fBar_init (a0 : Nat) (s : zHp) : Option (Unit × zHp) :=
  yn0 a0 <|
  yna 30 8 s fun p1 s2 =>
  ypr 0 0 a0 p1 s2 fun s3 =>
  ypi 0 1 a0 0 s3 fun s4 =>
  ypi 0 2 a0 0 s4 fun s5 =>
  some ((), s5)
set_option maxRecDepth 20000 in
set_option maxHeartbeats 4000000 in
theorem fBar_init_ok {E : Nat → Nat} (d : Nat) (a0 : Nat) (s : zHp) : zE zI Jv E (d + 0) 41 (zB 41 0) (zent 1 [.inr (.inr a0)]) [] s (fBar_init a0 s) := by
  show zE _ _ _ _ _ _ [some (.inr (.inr a0))] _ _ _
  unfold fBar_init
  refine zq_6_0 ?_
  refine zh_82 rfl ?_
  refine zq_6_0 ?_
  refine zq_1 ?_
  refine zh_74 ?_
  refine zh_64 ?_
  refine zq_6_0 ?_
  refine zq_1 ?_
  refine zh_62 ?_
  refine zq_6_0 ?_
  refine zq_1 ?_
  refine zh_62 ?_
  exact zq_101
/-! 42: EngraversHouse$Bar.addNote:(I)V -/
noncomputable def fBar_addNote (a0 : Nat) (a1 : Int) (s : zHp) : Option (Unit × zHp) :=
  ygi 0 1 a0 s fun v1 =>
  if v1 < 8 then
    (ygr 0 0 a0 s fun p2 =>
    ygi 0 1 a0 s fun v3 =>
    ysi p2 v3 a1 s fun s4 =>
    ygi 0 1 a0 s4 fun v5 =>
    ypi 0 1 a0 (zadd v5 1) s4 fun s6 =>
    ygi 0 2 a0 s6 fun v7 =>
    ybd (fH_lengthOf a1 s6) fun v8 s9 =>
    ypi 0 2 a0 (zadd v7 v8) s9 fun s10 =>
    some ((), s10))
  else
    (some ((), s))
theorem fBar_addNote_ok {E : Nat → Nat} (d : Nat) (a0 : Nat) (a1 : Int) (s : zHp) : zE zI Jv E (d + 1) 42 (zB 42 0) (zent 2 [.inr (.inr a0), .inl a1]) [] s (fBar_addNote a0 a1 s) := by
  show zE _ _ _ _ _ _ [some (.inr (.inr a0)), some (.inl a1)] _ _ _
  unfold fBar_addNote
  refine zq_6_0 ?_
  refine zh_60 ?_
  refine zq_1 ?_
  refine zq_49 ?_ ?_
  · refine zq_6_0 ?_
    refine zh_61 ?_
    refine zq_6_0 ?_
    refine zh_60 ?_
    refine zq_4_1 ?_
    refine zh_68 ?_
    refine zq_6_0 ?_
    refine zq_33 ?_
    refine zh_60 ?_
    refine zq_1 ?_
    refine zq_11 ?_
    refine zh_62 ?_
    refine zq_6_0 ?_
    refine zq_33 ?_
    refine zh_60 ?_
    refine zq_4_1 ?_
    refine zq_90_1i rfl rfl (fH_lengthOf_ok (E := E) _ _ _) fun v8 s9 => ?_
    refine zq_11 ?_
    refine zh_62 ?_
    refine zq_57 ?_
    exact zq_101
  · exact zq_101
/-! 43: EngraversHouse$Score.takeNote:(II)I -/
noncomputable def fScore_takeNote (a0 : Nat) (a1 : Int) (a2 : Int) (s : zHp) : Option (Int × zHp) :=
  yck 8 a0 s <| ybd (fScore_hasVoice a0 a1 s) fun v1 s2 =>
  if v1 = 0 then
    (some ((-3), s2))
  else
    (yjn (fun (x3 : Nat) (x4 : Int) (x5 : Int) (x6 : Nat) (x7 : Int) (s8 : zHp) =>
     yjn (fun (x10 : Nat) (x11 : Int) (x12 : Int) (x13 : Nat) (s14 : zHp) =>
      yjn (fun (x16 : Int) (x17 : Nat) (s18 : zHp) =>
       yck 0 x17 s18 <| ybd (fBar_addNote x17 x16 s18) fun _ s20 =>
       some (0, s20)) fun q19 =>
       if x13 = 0 then
        (ygr 8 7 x10 s14 fun p21 =>
        yai p21 x11 s14 fun v22 =>
        if v22 < 20 then
          (ynw 0 3 s14 fun p23 s24 =>
          yn0 p23 <| ybd (fBar_init p23 s24) fun _ s25 =>
          ygr 8 6 x10 s25 fun p26 =>
          ygr 8 7 x10 s25 fun p27 =>
          yai p27 x11 s25 fun v28 =>
          ysr p26 (zadd (zmul x11 20) v28) p23 s25 fun s29 =>
          ygr 8 7 x10 s29 fun p30 =>
          yai p30 x11 s29 fun v31 =>
          ysi p30 x11 (zadd v31 1) s29 fun s32 =>
          q19 x12 p23 s32)
        else
        some ((-4), s14))
      else
        (q19 x12 x13 s14)) fun q15 =>
      ybd (fH_lengthOf x5 s8) fun v33 s34 =>
     if x7 < v33 then
       (some ((-3), s34))
     else
     if x6 = 0 then
       (q15 x3 x4 x5 x6 s34)
     else
     ygi 0 1 x6 s34 fun v35 =>
     if v35 < 7 then
       (q15 x3 x4 x5 x6 s34)
     else
     if v33 < x7 then
       (some ((-3), s34))
     else
       (q15 x3 x4 x5 x6 s34)) fun q9 =>
     yck 8 a0 s2 <| ybd (fScore_openBar a0 a1 s2) fun p36 s37 =>
    if p36 = 0 then
      (ygi 8 4 a0 s37 fun v40 =>
      q9 a0 a1 a2 p36 v40 s37)
    else
      (ygi 8 4 a0 s37 fun v38 =>
      ygi 0 2 p36 s37 fun v39 =>
      q9 a0 a1 a2 p36 (zsub v38 v39) s37))
theorem fScore_takeNote_ok {E : Nat → Nat} (d : Nat) (a0 : Nat) (a1 : Int) (a2 : Int) (s : zHp) : zE zI Ji E (d + 3) 43 (zB 43 0) (zent 6 [.inr (.inr a0), .inl a1, .inl a2]) [] s (fScore_takeNote a0 a1 a2 s) := by
  show zE _ _ _ _ _ _ [some (.inr (.inr a0)), some (.inl a1), some (.inl a2), none, none, none] _ _ _
  unfold fScore_takeNote
  refine zq_6_0 ?_
  refine zq_4_1 ?_
  refine zE_g fun hg => ?_
  refine zq_92_2i hg rfl rfl (fScore_hasVoice_ok (E := E) _ _ _ _) fun v1 s2 => ?_
  refine zq_41 ?_ ?_
  · refine zq_1 ?_
    exact zq_95 rfl
  · refine zE_jn (fun q9 => ∀ (y0 : Nat) (y1 : Int) (y2 : Int) (y3 : Nat) (y4 : Int) (s : zHp), zE zI Ji E (d + 3) 43 (zB 43 3) ([some (.inr (.inr y0)), some (.inl y1), some (.inl y2), some (.inr (.inr y3)), none, none]) ([.inl y4]) s (q9 y0 y1 y2 y3 y4 s)) (fun x3 x4 x5 x6 x7 s8 => ?_) (fun q9 hq9 => ?_)
    · refine zE_jn (fun q15 => ∀ (y0 : Nat) (y1 : Int) (y2 : Int) (y3 : Nat) (s : zHp), zE zI Ji E (d + 3) 43 (zB 43 5) ([some (.inr (.inr y0)), some (.inl y1), some (.inl y2), some (.inr (.inr y3)), none, none]) ([]) s (q15 y0 y1 y2 y3 s)) (fun x10 x11 x12 x13 s14 => ?_) (fun q15 hq15 => ?_)
      · refine zE_jn (fun q19 => ∀ (y0 : Int) (y1 : Nat) (s : zHp), zE zI Ji E (d + 3) 43 (zB 43 7) ([none, none, some (.inl y0), some (.inr (.inr y1)), none, none]) ([]) s (q19 y0 y1 s)) (fun x16 x17 s18 => ?_) (fun q19 hq19 => ?_)
        · refine zq_6_3 ?_
          refine zq_4_2 ?_
          refine zE_g fun hg => ?_
          refine zq_92_2v hg rfl rfl (fBar_addNote_ok (E := E) _ _ _ _) fun _ s20 => ?_
          refine zq_1 ?_
          exact zq_95 rfl
        refine zq_6_3 ?_
        refine zq_55 ?_ ?_
        · refine zq_6_0 ?_
          refine zh_61 ?_
          refine zq_4_1 ?_
          refine zh_65 ?_
          refine zq_1 ?_
          refine zq_48 ?_ ?_
          · refine zh_73 ?_
            refine zq_33 ?_
            refine zq_91_1v rfl rfl (fBar_init_ok (E := E) _ _ _) fun _ s25 => ?_
            refine zq_9_3 rfl ?_
            refine zq_6_0 ?_
            refine zh_61 ?_
            refine zq_4_1 ?_
            refine zq_1 ?_
            refine zq_13 ?_
            refine zq_6_0 ?_
            refine zh_61 ?_
            refine zq_4_1 ?_
            refine zh_65 ?_
            refine zq_11 ?_
            refine zq_6_3 ?_
            refine zh_71 ?_
            refine zq_6_0 ?_
            refine zh_61 ?_
            refine zq_4_1 ?_
            refine zq_34 ?_
            refine zh_65 ?_
            refine zq_1 ?_
            refine zq_11 ?_
            refine zh_68 ?_
            refine zq_57 ?_
            exact zE_w [false, false, true, true, false, false] (hq19 _ _ _)
          refine zq_1 ?_
          exact zq_95 rfl
        · exact zE_w [false, false, true, true, false, false] (hq19 _ _ _)
      refine zq_7_4 rfl ?_
      refine zq_4_2 ?_
      refine zq_90_1i rfl rfl (fH_lengthOf_ok (E := E) _ _ _) fun v33 s34 => ?_
      refine zq_7_5 rfl ?_
      refine zq_4_5 ?_
      refine zq_4_4 ?_
      refine zq_50 ?_ ?_
      · refine zq_1 ?_
        exact zq_95 rfl
      refine zq_6_3 ?_
      refine zq_54 ?_ ?_
      · exact zE_w [true, true, true, true, false, false] (hq15 _ _ _ _ _)
      refine zq_6_3 ?_
      refine zh_60 ?_
      refine zq_1 ?_
      refine zq_48 ?_ ?_
      · exact zE_w [true, true, true, true, false, false] (hq15 _ _ _ _ _)
      refine zq_4_5 ?_
      refine zq_4_4 ?_
      refine zq_49 ?_ ?_
      · refine zq_57 ?_
        refine zq_1 ?_
        exact zq_95 rfl
      · exact zE_w [true, true, true, true, false, false] (hq15 _ _ _ _ _)
    refine zq_6_0 ?_
    refine zq_4_1 ?_
    refine zE_g fun hg => ?_
    refine zq_92_2r hg rfl rfl (fScore_openBar_ok (E := E) _ _ _ _) fun p36 s37 => ?_
    refine zq_9_3 rfl ?_
    refine zq_6_3 ?_
    refine zq_55 ?_ ?_
    · refine zq_6_0 ?_
      refine zh_60 ?_
      refine zq_56 ?_
      exact zE_w [true, true, true, true, false, false] (hq9 _ _ _ _ _ _)
    · refine zq_6_0 ?_
      refine zh_60 ?_
      refine zq_6_3 ?_
      refine zh_60 ?_
      refine zq_12 ?_
      refine zq_57 ?_
      exact zE_w [true, true, true, true, false, false] (hq9 _ _ _ _ _ _)
/-! 44: EngraversHouse$Score.wholeBars:(I)I -/
noncomputable def fScore_wholeBars (a0 : Nat) (a1 : Int) (s : zHp) : Option (Int × zHp) :=
  yck 8 a0 s <| ybd (fScore_hasVoice a0 a1 s) fun v1 s2 =>
  if v1 = 0 then
    (some (0, s2))
  else
    (yck 8 a0 s2 <| ybd (fScore_openBar a0 a1 s2) fun p3 s4 =>
    if p3 = 0 then
      (ygr 8 7 a0 s4 fun p7 =>
      yai p7 a1 s4 fun v8 =>
      some (v8, s4))
    else
      (ygr 8 7 a0 s4 fun p5 =>
      yai p5 a1 s4 fun v6 =>
      some (zsub v6 1, s4)))
theorem fScore_wholeBars_ok {E : Nat → Nat} (d : Nat) (a0 : Nat) (a1 : Int) (s : zHp) : zE zI Ji E (d + 3) 44 (zB 44 0) (zent 2 [.inr (.inr a0), .inl a1]) [] s (fScore_wholeBars a0 a1 s) := by
  show zE _ _ _ _ _ _ [some (.inr (.inr a0)), some (.inl a1)] _ _ _
  unfold fScore_wholeBars
  refine zq_6_0 ?_
  refine zq_4_1 ?_
  refine zE_g fun hg => ?_
  refine zq_92_2i hg rfl rfl (fScore_hasVoice_ok (E := E) _ _ _ _) fun v1 s2 => ?_
  refine zq_41 ?_ ?_
  · refine zq_1 ?_
    exact zq_95 rfl
  · refine zq_6_0 ?_
    refine zq_4_1 ?_
    refine zE_g fun hg => ?_
    refine zq_92_2r hg rfl rfl (fScore_openBar_ok (E := E) _ _ _ _) fun p3 s4 => ?_
    refine zq_55 ?_ ?_
    · refine zq_6_0 ?_
      refine zh_61 ?_
      refine zq_4_1 ?_
      refine zh_65 ?_
      refine zq_56 ?_
      exact zq_95 rfl
    · refine zq_6_0 ?_
      refine zh_61 ?_
      refine zq_4_1 ?_
      refine zh_65 ?_
      refine zq_1 ?_
      refine zq_12 ?_
      refine zq_57 ?_
      exact zq_95 rfl
/-! 45: EngraversHouse.note:(IIIII)I -/
noncomputable def fH_note (a0 : Nat) (a1 : Int) (a2 : Int) (a3 : Int) (a4 : Int) (a5 : Int) (s : zHp) : Option (Int × zHp) :=
  yck 10 a0 s <| ybd (fH_scoreAt a0 a1 s) fun p1 s2 =>
  if p1 = 0 then
    (yck 10 a0 s2 <| ybd (fH_lacking a0 a1 s2) fun v13 s14 =>
    some (v13, s14))
  else
    (yck 8 p1 s2 <| ybd (fScore_hasVoice p1 a2 s2) fun v3 s4 =>
    if v3 = 0 then
      (some ((-1), s4))
    else
      (ybd (fH_isNote a3 a4 a5 s4) fun v5 s6 =>
      if v5 = 0 then
        (some ((-2), s6))
      else
        (ybd (fH_noteCode a3 a4 a5 s6) fun v7 s8 =>
        yck 8 p1 s8 <| ybd (fScore_takeNote p1 a2 v7 s8) fun v9 s10 =>
        if v9 = 0 then
          (yck 8 p1 s10 <| ybd (fScore_wholeBars p1 a2 s10) fun v11 s12 =>
          some (v11, s12))
        else
        some (v9, s10))))
theorem fH_note_ok {E : Nat → Nat} (d : Nat) (a0 : Nat) (a1 : Int) (a2 : Int) (a3 : Int) (a4 : Int) (a5 : Int) (s : zHp) : zE zI Ji E (d + 4) 45 (zB 45 0) (zent 8 [.inr (.inr a0), .inl a1, .inl a2, .inl a3, .inl a4, .inl a5]) [] s (fH_note a0 a1 a2 a3 a4 a5 s) := by
  show zE _ _ _ _ _ _ [some (.inr (.inr a0)), some (.inl a1), some (.inl a2), some (.inl a3), some (.inl a4), some (.inl a5), none, none] _ _ _
  unfold fH_note
  refine zq_6_0 ?_
  refine zq_4_1 ?_
  refine zE_g fun hg => ?_
  refine zq_92_2r hg rfl rfl (fH_scoreAt_ok (E := E) _ _ _ _) fun p1 s2 => ?_
  refine zq_9_6 rfl ?_
  refine zq_6_6 ?_
  refine zq_55 ?_ ?_
  · refine zq_6_0 ?_
    refine zq_4_1 ?_
    refine zE_g fun hg => ?_
    refine zq_92_2i hg rfl rfl (fH_lacking_ok (E := E) _ _ _ _) fun v13 s14 => ?_
    exact zq_95 rfl
  · refine zq_6_6 ?_
    refine zq_4_2 ?_
    refine zE_g fun hg => ?_
    refine zq_92_2i hg rfl rfl (fScore_hasVoice_ok (E := E) _ _ _ _) fun v3 s4 => ?_
    refine zq_41 ?_ ?_
    · refine zq_1 ?_
      exact zq_95 rfl
    · refine zq_4_3 ?_
      refine zq_4_4 ?_
      refine zq_4_5 ?_
      refine zq_90_3i rfl rfl (fH_isNote_ok (E := E) _ _ _ _ _) fun v5 s6 => ?_
      refine zq_41 ?_ ?_
      · refine zq_1 ?_
        exact zq_95 rfl
      · refine zq_6_6 ?_
        refine zq_4_2 ?_
        refine zq_4_3 ?_
        refine zq_4_4 ?_
        refine zq_4_5 ?_
        refine zq_90_3i rfl rfl (fH_noteCode_ok (E := E) _ _ _ _ _) fun v7 s8 => ?_
        refine zE_g fun hg => ?_
        refine zq_92_3i hg rfl rfl (fScore_takeNote_ok (E := E) _ _ _ _ _) fun v9 s10 => ?_
        refine zq_7_7 rfl ?_
        refine zq_4_7 ?_
        refine zq_40 ?_ ?_
        · refine zq_6_6 ?_
          refine zq_4_2 ?_
          refine zE_g fun hg => ?_
          refine zq_92_2i hg rfl rfl (fScore_wholeBars_ok (E := E) _ _ _ _) fun v11 s12 => ?_
          refine zq_57 ?_
          exact zq_95 rfl
        refine zq_4_7 ?_
        refine zq_56 ?_
        exact zq_95 rfl
/-! 46: EngraversHouse$Score.wholeBar:(II)LEngraversHouse$Bar; -/
noncomputable def fScore_wholeBar (a0 : Nat) (a1 : Int) (a2 : Int) (s : zHp) : Option (Nat × zHp) :=
  yck 8 a0 s <| ybd (fScore_begunBar a0 a1 a2 s) fun p1 s2 =>
  if p1 = 0 then
    (some (0, s2))
  else
  ygi 0 2 p1 s2 fun v3 =>
  ygi 8 4 a0 s2 fun v4 =>
  if v3 = v4 then
    (some (p1, s2))
  else
    (some (0, s2))
theorem fScore_wholeBar_ok {E : Nat → Nat} (d : Nat) (a0 : Nat) (a1 : Int) (a2 : Int) (s : zHp) : zE zI Jr E (d + 2) 46 (zB 46 0) (zent 4 [.inr (.inr a0), .inl a1, .inl a2]) [] s (fScore_wholeBar a0 a1 a2 s) := by
  show zE _ _ _ _ _ _ [some (.inr (.inr a0)), some (.inl a1), some (.inl a2), none] _ _ _
  unfold fScore_wholeBar
  refine zq_6_0 ?_
  refine zq_4_1 ?_
  refine zq_4_2 ?_
  refine zE_g fun hg => ?_
  refine zq_92_3r hg rfl rfl (fScore_begunBar_ok (E := E) _ _ _ _ _) fun p1 s2 => ?_
  refine zq_9_3 rfl ?_
  refine zq_6_3 ?_
  refine zq_54 ?_ ?_
  · refine zq_3 ?_
    refine zq_57 ?_
    exact zq_100
  refine zq_6_3 ?_
  refine zh_60 ?_
  refine zq_6_0 ?_
  refine zh_60 ?_
  refine zq_47 ?_ ?_
  · refine zq_6_3 ?_
    refine zq_56 ?_
    exact zq_100
  · refine zq_3 ?_
    refine zq_57 ?_
    exact zq_100
/-! 47: EngraversHouse$Bar.hasNote:(I)Z -/
noncomputable def fBar_hasNote (a0 : Nat) (a1 : Int) (s : zHp) : Option (Int × zHp) :=
  if a1 < (0 : Int) then
    (some (0, s))
  else
  ygi 0 1 a0 s fun v1 =>
  if a1 < v1 then
    (if a1 < 8 then
      (some (1, s))
    else
      (some (0, s)))
  else
    (some (0, s))
theorem fBar_hasNote_ok {E : Nat → Nat} (d : Nat) (a0 : Nat) (a1 : Int) (s : zHp) : zE zI Ji E (d + 0) 47 (zB 47 0) (zent 2 [.inr (.inr a0), .inl a1]) [] s (fBar_hasNote a0 a1 s) := by
  show zE _ _ _ _ _ _ [some (.inr (.inr a0)), some (.inl a1)] _ _ _
  unfold fBar_hasNote
  refine zq_1 ?_
  refine zq_4_1 ?_
  refine zq_50 ?_ ?_
  · refine zq_1 ?_
    refine zq_57 ?_
    exact zq_96c (by decide)
  refine zq_4_1 ?_
  refine zq_6_0 ?_
  refine zh_60 ?_
  refine zq_49 ?_ ?_
  · refine zq_4_1 ?_
    refine zq_1 ?_
    refine zq_49 ?_ ?_
    · refine zq_1 ?_
      refine zq_56 ?_
      exact zq_96c (by decide)
    · refine zq_1 ?_
      refine zq_57 ?_
      exact zq_96c (by decide)
  · refine zq_1 ?_
    refine zq_57 ?_
    exact zq_96c (by decide)
/-! 48: EngraversHouse.isRest:(I)Z -/
noncomputable def fH_isRest (a0 : Int) (s : zHp) : Option (Int × zHp) :=
  if a0 < 1000 then
    (some (1, s))
  else
    (some (0, s))
theorem fH_isRest_ok {E : Nat → Nat} (d : Nat) (a0 : Int) (s : zHp) : zE zI Ji E (d + 0) 48 (zB 48 0) (zent 1 [.inl a0]) [] s (fH_isRest a0 s) := by
  show zE _ _ _ _ _ _ [some (.inl a0)] _ _ _
  unfold fH_isRest
  refine zq_4_0 ?_
  refine zq_1 ?_
  refine zq_49 ?_ ?_
  · refine zq_1 ?_
    refine zq_56 ?_
    exact zq_96c (by decide)
  · refine zq_1 ?_
    refine zq_57 ?_
    exact zq_96c (by decide)
/-! 49: EngraversHouse.pitchOf:(I)I -/
noncomputable def fH_pitchOf (a0 : Int) (s : zHp) : Option (Int × zHp) :=
  ybd (fH_isRest a0 s) fun v1 s2 =>
  if v1 = 0 then
    (some (zsub (zdiv a0 1000) 100, s2))
  else
  some (0, s2)
theorem fH_pitchOf_ok {E : Nat → Nat} (d : Nat) (a0 : Int) (s : zHp) : zE zI Ji E (d + 1) 49 (zB 49 0) (zent 1 [.inl a0]) [] s (fH_pitchOf a0 s) := by
  show zE _ _ _ _ _ _ [some (.inl a0)] _ _ _
  unfold fH_pitchOf
  refine zq_4_0 ?_
  refine zq_90_1i rfl rfl (fH_isRest_ok (E := E) _ _ _) fun v1 s2 => ?_
  refine zq_40 ?_ ?_
  · refine zq_4_0 ?_
    refine zq_1 ?_
    refine zq_14c (by decide) ?_
    refine zq_1 ?_
    refine zq_12 ?_
    refine zq_57 ?_
    exact zq_95 rfl
  refine zq_1 ?_
  refine zq_56 ?_
  exact zq_95 rfl
/-! 50: EngraversHouse.withPitch:(II)I -/
noncomputable def fH_withPitch (a0 : Int) (a1 : Int) (s : zHp) : Option (Int × zHp) :=
  some (zadd (zmul 1000 (zadd a1 100)) (zrem a0 1000), s)
theorem fH_withPitch_ok {E : Nat → Nat} (d : Nat) (a0 : Int) (a1 : Int) (s : zHp) : zE zI Ji E (d + 0) 50 (zB 50 0) (zent 2 [.inl a0, .inl a1]) [] s (fH_withPitch a0 a1 s) := by
  show zE _ _ _ _ _ _ [some (.inl a0), some (.inl a1)] _ _ _
  unfold fH_withPitch
  refine zq_1 ?_
  refine zq_4_1 ?_
  refine zq_1 ?_
  refine zq_11 ?_
  refine zq_13 ?_
  refine zq_4_0 ?_
  refine zq_1 ?_
  refine zq_15c (by decide) ?_
  refine zq_11 ?_
  exact zq_95 rfl
/-! 51: EngraversHouse.repitched:(LEngraversHouse$Bar;III)I -/
noncomputable def fH_repitched (a0 : Nat) (a1 : Int) (a2 : Int) (a3 : Int) (s : zHp) : Option (Int × zHp) :=
  ybd (fH_within a2 1 a3 s) fun v1 s2 =>
  if v1 = 0 then
    (some ((-2), s2))
  else
    (yck 0 a0 s2 <| ybd (fBar_hasNote a0 a1 s2) fun v3 s4 =>
    if v3 = 0 then
      (some ((-3), s4))
    else
    ygr 0 0 a0 s4 fun p5 =>
    yai p5 a1 s4 fun v6 =>
    ybd (fH_isRest v6 s4) fun v7 s8 =>
    if v7 = 0 then
      (ygr 0 0 a0 s8 fun p9 =>
      yai p9 a1 s8 fun v10 =>
      ybd (fH_pitchOf v10 s8) fun v11 s12 =>
      ygr 0 0 a0 s12 fun p13 =>
      ygr 0 0 a0 s12 fun p14 =>
      yai p14 a1 s12 fun v15 =>
      ybd (fH_withPitch v15 a2 s12) fun v16 s17 =>
      ysi p13 a1 v16 s17 fun s18 =>
      some (v11, s18))
    else
    some ((-3), s8))
theorem fH_repitched_ok {E : Nat → Nat} (d : Nat) (a0 : Nat) (a1 : Int) (a2 : Int) (a3 : Int) (s : zHp) : zE zI Ji E (d + 2) 51 (zB 51 0) (zent 5 [.inr (.inr a0), .inl a1, .inl a2, .inl a3]) [] s (fH_repitched a0 a1 a2 a3 s) := by
  show zE _ _ _ _ _ _ [some (.inr (.inr a0)), some (.inl a1), some (.inl a2), some (.inl a3), none] _ _ _
  unfold fH_repitched
  refine zq_4_2 ?_
  refine zq_1 ?_
  refine zq_4_3 ?_
  refine zq_90_3i rfl rfl (fH_within_ok (E := E) _ _ _ _ _) fun v1 s2 => ?_
  refine zq_41 ?_ ?_
  · refine zq_1 ?_
    exact zq_95 rfl
  · refine zq_6_0 ?_
    refine zq_4_1 ?_
    refine zE_g fun hg => ?_
    refine zq_92_2i hg rfl rfl (fBar_hasNote_ok (E := E) _ _ _ _) fun v3 s4 => ?_
    refine zq_40 ?_ ?_
    · refine zq_1 ?_
      exact zq_95 rfl
    refine zq_6_0 ?_
    refine zh_61 ?_
    refine zq_4_1 ?_
    refine zh_65 ?_
    refine zq_90_1i rfl rfl (fH_isRest_ok (E := E) _ _ _) fun v7 s8 => ?_
    refine zq_40 ?_ ?_
    · refine zq_6_0 ?_
      refine zh_61 ?_
      refine zq_4_1 ?_
      refine zh_65 ?_
      refine zq_90_1i rfl rfl (fH_pitchOf_ok (E := E) _ _ _) fun v11 s12 => ?_
      refine zq_7_4 rfl ?_
      refine zq_6_0 ?_
      refine zh_61 ?_
      refine zq_4_1 ?_
      refine zq_6_0 ?_
      refine zh_61 ?_
      refine zq_4_1 ?_
      refine zh_65 ?_
      refine zq_4_2 ?_
      refine zq_90_2i rfl rfl (fH_withPitch_ok (E := E) _ _ _ _) fun v16 s17 => ?_
      refine zh_68 ?_
      refine zq_4_4 ?_
      exact zq_95 rfl
    refine zq_57 ?_
    refine zq_1 ?_
    exact zq_95 rfl
/-! 52: EngraversHouse.alter:(IIIII)I -/
noncomputable def fH_alter (a0 : Nat) (a1 : Int) (a2 : Int) (a3 : Int) (a4 : Int) (a5 : Int) (s : zHp) : Option (Int × zHp) :=
  yck 10 a0 s <| ybd (fH_scoreAt a0 a1 s) fun p1 s2 =>
  if p1 = 0 then
    (yck 10 a0 s2 <| ybd (fH_lacking a0 a1 s2) fun v9 s10 =>
    some (v9, s10))
  else
    (yck 8 p1 s2 <| ybd (fScore_wholeBar p1 a2 a3 s2) fun p3 s4 =>
    if p3 = 0 then
      (some ((-1), s4))
    else
    yck 0 p3 s4 <| ybd (fBar_hasNote p3 a4 s4) fun v5 s6 =>
    if v5 = 0 then
      (some ((-1), s6))
    else
      (ybd (fH_repitched p3 a4 a5 60 s6) fun v7 s8 =>
      some (v7, s8)))
theorem fH_alter_ok {E : Nat → Nat} (d : Nat) (a0 : Nat) (a1 : Int) (a2 : Int) (a3 : Int) (a4 : Int) (a5 : Int) (s : zHp) : zE zI Ji E (d + 3) 52 (zB 52 0) (zent 8 [.inr (.inr a0), .inl a1, .inl a2, .inl a3, .inl a4, .inl a5]) [] s (fH_alter a0 a1 a2 a3 a4 a5 s) := by
  show zE _ _ _ _ _ _ [some (.inr (.inr a0)), some (.inl a1), some (.inl a2), some (.inl a3), some (.inl a4), some (.inl a5), none, none] _ _ _
  unfold fH_alter
  refine zq_6_0 ?_
  refine zq_4_1 ?_
  refine zE_g fun hg => ?_
  refine zq_92_2r hg rfl rfl (fH_scoreAt_ok (E := E) _ _ _ _) fun p1 s2 => ?_
  refine zq_9_6 rfl ?_
  refine zq_6_6 ?_
  refine zq_55 ?_ ?_
  · refine zq_6_0 ?_
    refine zq_4_1 ?_
    refine zE_g fun hg => ?_
    refine zq_92_2i hg rfl rfl (fH_lacking_ok (E := E) _ _ _ _) fun v9 s10 => ?_
    exact zq_95 rfl
  · refine zq_6_6 ?_
    refine zq_4_2 ?_
    refine zq_4_3 ?_
    refine zE_g fun hg => ?_
    refine zq_92_3r hg rfl rfl (fScore_wholeBar_ok (E := E) _ _ _ _ _) fun p3 s4 => ?_
    refine zq_9_7 rfl ?_
    refine zq_6_7 ?_
    refine zq_54 ?_ ?_
    · refine zq_1 ?_
      exact zq_95 rfl
    refine zq_6_7 ?_
    refine zq_4_4 ?_
    refine zE_g fun hg => ?_
    refine zq_92_2i hg rfl rfl (fBar_hasNote_ok (E := E) _ _ _ _) fun v5 s6 => ?_
    refine zq_41 ?_ ?_
    · refine zq_57 ?_
      refine zq_1 ?_
      exact zq_95 rfl
    · refine zq_6_7 ?_
      refine zq_4_4 ?_
      refine zq_4_5 ?_
      refine zq_1 ?_
      refine zq_90_4i rfl rfl (fH_repitched_ok (E := E) _ _ _ _ _ _) fun v7 s8 => ?_
      exact zq_95 rfl
