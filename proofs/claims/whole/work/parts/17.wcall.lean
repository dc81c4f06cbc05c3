/-! calls and ends, by the tables -/
def zPs : List Nat := [630, 636, 71, 860, 971, 966, 949, 959, 945, 963, 955, 1010, 1015, 1007, 1002, 998, 38, 67, 108, 26, 212, 208, 215, 224, 219, 231, 239, 236, 288, 227, 296, 300, 303, 291, 312, 315, 319, 322, 335, 331, 338, 342, 363, 325, 368, 307, 376, 380, 387, 390, 393, 384, 372, 400, 408, 404, 396, 411, 422, 425, 428, 431, 434, 441, 447, 444, 451, 454, 457, 463, 469, 466, 473, 476, 479, 415, 482, 492, 486, 529, 537, 541, 544, 532, 551, 524, 558, 577, 564, 554, 611, 614, 606, 626, 622, 618, 640, 650, 696, 644, 708, 711, 719, 723, 716, 703, 732, 727, 761, 755, 779, 773, 769, 765, 793, 799, 790, 785, 813, 817, 806, 821, 833, 830, 825, 836, 840, 844, 802, 848, 856, 874, 933, 942, 995, 1056, 937, 1074, 1069, 1065, 929, 924, 852, 1089, 1085, 1092, 1080, 1104, 1100, 1095, 1113, 1117, 1121, 1107, 1129, 1137, 1141, 1133, 1153, 1148, 1144, 1161, 1157, 1165, 1185, 1182, 1178, 1190, 1173, 1169, 1196, 1200, 1208, 1221, 1217, 1212, 1204, 1228, 1224, 1236, 1231, 1239, 1251, 1256, 1262, 1248, 1243, 1265, 1273, 1269, 1276, 1280, 1288, 1284, 1291, 1295, 1557, 1752, 1302, 1588, 1910, 1592, 1655, 1580, 1553, 1569, 1560, 1564, 1576, 1572, 1583, 1611, 1615, 1607, 1603, 1599, 1595, 1618, 1622, 1626, 1635, 1639, 1630, 1642, 1663, 1666, 1646, 1659, 1650, 1669, 1673, 1686, 1682, 1689, 1677, 1692, 1696, 1709, 1705, 1700, 1712, 1716, 1733, 1729, 1725, 1720, 1736, 1740, 1744, 1760, 1768, 1772, 1792, 1788, 1780, 1776, 1784, 1764, 1756, 1748, 1800, 1795, 1812, 1808, 1803, 1826, 1822, 1816, 1838, 1830, 1834, 1841, 1845, 1849, 1858, 1853, 1861, 1865, 1874, 1869, 1877, 1881, 1886, 1899, 1903, 1907, 1895, 1922, 1918, 1914, 1930, 1926, 1890, 1933, 1937, 1941, 1949, 1945, 1952, 1956, 1960]
def zSe : List Nat := [9999, 9999, 9999, 9999, 9999, 9999, 1036, 1046, 1032, 9999, 1042, 9999, 9999, 9999, 1089, 1085, 9999, 9999, 9999, 9999, 9999, 295, 302, 0, 306, 9999, 9999, 9999, 1, 314, 2, 3, 390, 378, 4, 402, 9999, 9999, 6, 5, 9999, 9999, 450, 412, 455, 394, 463, 467, 9999, 9999, 9999, 9999, 459, 9999, 8, 7, 483, 498, 9999, 9999, 9999, 9999, 9999, 9999, 534, 9999, 9999, 9999, 9999, 9999, 556, 9999, 9999, 9999, 9999, 502, 569, 9999, 573, 9, 624, 9999, 631, 619, 9999, 611, 645, 664, 9999, 641, 10, 701, 693, 713, 709, 705, 727, 9999, 783, 731, 11, 798, 9999, 13, 12, 790, 9999, 814, 848, 842, 14, 860, 856, 852, 880, 16, 15, 872, 900, 904, 893, 908, 9999, 17, 912, 923, 927, 931, 889, 935, 9999, 9999, 19, 21, 22, 23, 20, 26, 25, 24, 18, 1011, 939, 28, 27, 9999, 1167, 30, 29, 1182, 31, 1204, 1208, 1194, 1216, 9999, 32, 1220, 33, 1235, 1231, 1248, 1244, 1252, 1272, 35, 34, 1277, 1260, 1256, 1283, 1287, 1295, 37, 36, 1299, 1291, 9999, 1311, 9999, 1318, 1326, 9999, 9999, 39, 38, 1330, 1352, 9999, 1356, 1363, 1367, 9999, 1371, 1378, 1382, 9999, 9999, 9999, 42, 9999, 43, 50, 41, 1640, 40, 1647, 1651, 9999, 1659, 1670, 46, 47, 45, 44, 9999, 1682, 1705, 1709, 1713, 48, 49, 1717, 1729, 52, 9999, 1733, 51, 1737, 1756, 1760, 54, 53, 9999, 1764, 1779, 1783, 56, 55, 1787, 1799, 1803, 59, 58, 57, 1807, 1823, 1827, 1831, 61, 63, 64, 69, 68, 66, 65, 67, 62, 60, 1835, 70, 1882, 72, 71, 1890, 74, 73, 1903, 9999, 1917, 1921, 1928, 1932, 1936, 75, 1940, 1948, 1952, 76, 1956, 1964, 1968, 1973, 78, 79, 80, 77, 83, 82, 81, 85, 84, 1977, 2020, 2024, 2028, 9999, 2032, 2039, 2043, 2047]
def zAl (i : Nat) (w : Cond) : Bool := decide (lw_tbl[i]? = some w) && goodWord w
theorem zAl_in {i : Nat} {w : Cond} (h : zAl i w = true) : w ∈ zW := by
  simp only [zAl, Bool.and_eq_true, decide_eq_true_eq] at h
  exact List.mem_filter.mpr ⟨List.mem_of_getElem? h.1, h.2⟩
def zIn (w : Cond) : Bool := decide (w ∈ lw_tbl) && goodWord w
theorem zIn_in {w : Cond} (h : zIn w = true) : w ∈ zW := by
  simp only [zIn, Bool.and_eq_true, decide_eq_true_eq] at h
  exact List.mem_filter.mpr h
def zRc (c : Nat) : String := if c = 49 then "java/lang/String" else zRx c
/-- what stands of a method that is called -/
def zcm (m2 np : Nat) (mx : Int) : Bool := decide (m2 < 301) && (mx == (zM m2 : Int)) && decide (zM m2 ≤ 40) && decide ((zY m2).cls ≠ "java/lang/invoke/MethodHandle") && decide ((zY m2).cls ≠ "java/lang/invoke/VarHandle") && decide ((parseMethodDescriptor (zY m2).desc).map (fun d => d.parameters.length) = some np)
def zkd (mm m2 : Nat) (cp : Int) (t : Int) (np : Nat) : Bool := decide (1 ≤ t) && decide (t ≤ 12) && zAt (zPs.getD m2 0) (.instanceMethod (zY m2)) && zIn (.selects (zRx (t.toNat - 1)) ⟨RX9, (zY m2).name, (zY m2).desc⟩ (zY m2)) && zIn (.sameMethod RX9 RX9 (zY m2).name (zY m2).desc) && zIn (.methodLink (zY mm).cls (zix cp) ⟨RX9, (zY m2).name, (zY m2).desc⟩) && decide ((⟨RX9, (zY m2).name, (zY m2).desc⟩ : MethodName) ∈ zXD)
def zk4 (mm : Nat) (i : zMI) (nx : Nat) : Bool := match i with
  | (90, pc, m2, nn, mx, [(v, _)]) => zD mm pc nx (.invokestatic (zix v)) 3 && zcm m2 nn mx && zAt (zPs.getD m2 0) (.static (zY m2)) && (zAt (zpo v) (.methodLink (zY mm).cls (zix v) (zY m2)) || decide (((zY mm).cls, zix v, zY m2, RX11) ∈ zXM))
  | (91, pc, m2, nn + 1, mx, [(v, _)]) => zD mm pc nx (.invokespecial (zix v)) 3 && zcm m2 nn mx && zAt (zPs.getD m2 0) (.instanceMethod (zY m2)) && ((zY m2).name == "<init>") && decide (zT m2 = none) && (zAt (zpo v) (.methodLink (zY mm).cls (zix v) (zY m2)) || decide (((zY mm).cls, zix v, zY m2, RX11) ∈ zXM))
  | (92, pc, m2, nn + 1, mx, [(v, c0)]) => zD mm pc nx (.invokevirtual (zix v)) 3 && zcm m2 nn mx && zAt (zPs.getD m2 0) (.instanceMethod (zY m2)) && (decide (c0 < 12) || c0 == 49) && decide ((zY m2).cls = zRc c0) && zAl (zSe.getD m2 0) (.selects (zRc c0) (zY m2) (zY m2)) && zAt (zpo v) (.methodLink (zY mm).cls (zix v) (zY m2))
  | (93, pc, cp, nn + 1, mx, tb) => zD mm pc nx (.invokevirtual (zix cp)) 3 && tb.all fun q => zcm q.2 nn mx && zkd mm q.2 cp q.1 nn
  | _ => false
def zk5 (mm : Nat) (i : zMI) : Bool := match i with
  | (95, pc, _, _, _, _) => decide (decode (zC mm) pc = .ok (.ireturn, 1)) && decide (zT mm = some .int)
  | (96, pc, _, _, _, _) => decide (decode (zC mm) pc = .ok (.ireturn, 1)) && decide (zT mm = some .boolean)
  | (97, pc, _, _, _, _) => decide (decode (zC mm) pc = .ok (.ireturn, 1)) && decide (zT mm = some .char)
  | (98, pc, _, _, _, _) => decide (decode (zC mm) pc = .ok (.ireturn, 1)) && decide (zT mm = some .byte)
  | (99, pc, _, _, _, _) => decide (decode (zC mm) pc = .ok (.lreturn, 1)) && decide (zT mm = some .long)
  | (100, pc, _, _, _, _) => decide (decode (zC mm) pc = .ok (.areturn, 1)) && (match zT mm with | some t => zrf t | none => false)
  | (101, pc, _, _, _, _) => decide (decode (zC mm) pc = .ok (.return_, 1)) && decide (zT mm = none)
  | _ => false
noncomputable def zokB (mm : Nat) : List zMI → Bool
  | [] => true
  | i :: is => zsc i && zsd i && (if i.1 == 0 then true else if i.1 < 40 then zk1 mm i (zpc is) && zokB mm is else if i.1 < 60 then zk2 mm i (zpc is) && zokB mm is else if i.1 < 90 then zk3 mm i (zpc is) && zokB mm is else if i.1 < 95 then zk4 mm i (zpc is) && zokB mm is else zk5 mm i)
/-- the method's start and end -/
def zPU (E : Nat → Nat) (D : va_G) (dA : Nat → ClassId) (b0 : Nat) (h : zHp) (U : State) : Prop := va_K D vwCl (zTA dA) U ∧ zStm (zA b0) U U.heap E ∧ zHR D dA b0 h U.heap ∧ zCo h (zA b0) U U.heap ∧ b0 ≤ U.heap.size
def zQ (D : va_G) (dA : Nat → ClassId) (b0 : Nat) (r : Option zAV) (h' : zHp) : Array Value → State → Outcome → State → Prop := fun _ st o t => o = .returned (r.map zV) ∧ zHR D dA b0 h' t.heap ∧ va_F (zA b0) st t
abbrev zrm (d mc ms : Nat) : Room := { frames := d + 1, cells := mc, slots := ms, locals := 60 * (d + 1) }
noncomputable abbrev zws2 (mm : Nat) : List Cond := Cond.code (zY mm) (zC mm) (zM mm) (zT mm) :: zW
def zMet (E : Nat → Nat) (D : va_G) (dA : Nat → ClassId) (b0 : Nat) (l : Launch) (d mm : Nat) (as : List zAV) (h : zHp) (r : Option zAV) (h' : zHp) : Prop :=
  Met l (zY mm) (zws2 mm) (zrm d (znx h' - znx h) (zus h' - zus h)) (va_Pc (as.map zV) (zPU E D dA b0 h)) (zQ D dA b0 r h') (znx h' - znx h) (zus h' - zus h) (zA b0)
theorem zPU_of {E : Nat → Nat} {D : va_G} {dA : Nat → ClassId} {b0 mm n : Nat} {p : Program} {R : Room} {s : State} {m : MethodId} {args : Array Value} {meth : Method} {c : Code} {h : zHp} {H : Heap} {locs : List Loc} (X : zCtx E D dA b0 mm n p R s m args meth c) (Y : zDyn D dA b0 s h H locs) (U : State) (hU : U.heap = H) (hW : s.WarmedH U.vm) : zPU E D dA b0 h U := by
  obtain ⟨hx, hb, hml, -, hown, hts, hK, hSt, hb0, hR1, hR2⟩ := X
  obtain ⟨hR, hC, hi, hS⟩ := Y
  have hq : ∀ a : Nat, a < s.heap.size → ¬ zA b0 a → U.heap[a]? = s.heap[a]? := fun a h1 h2 => by rw [hU]; exact hS.2.1 a h1 h2
  exact ⟨hK.moved hW.alike, hSt.warm hW hq, by rw [hU]; exact hR, hC.warm hW.alike hq, by rw [hU]; exact Nat.le_trans hb0 hS.1⟩
theorem zblind {E : Nat → Nat} {D : va_G} {dA : Nat → ClassId} {b0 : Nat} {h : zHp} {as : List Value} : FrameBlind (va_Pc as (zPU E D dA b0 h)) := by
  intro a U g mk ⟨h1, hK, hSt, hR, hC, hb⟩
  have hal : U.vm.Alike (U.calling g mk a).vm := Vm.Alike.refl U.vm
  have hq : ∀ q : Nat, q < U.heap.size → ¬ zA b0 q → (U.calling g mk a).heap[q]? = U.heap[q]? := fun _ _ _ => rfl
  refine ⟨h1, hK.moved hal, ?_, hR, hC.warm hal hq, hb⟩
  obtain ⟨h1, h2, h3, h4, h5, h6, h7, h8, h9, h10⟩ := hSt
  have hvm : U.vm = (U.calling g mk a).vm := rfl
  refine ⟨fun k hk => ?_, va_Z.moved hal (h2.kept hq), va_Z.moved hal (h3.kept hq), va_Z.moved hal (h4.kept hq), va_Z.moved hal (h5.kept hq), fun c hc t ht hn => va_Nc.moved hal (h6 c hc t ht hn), fun q hm => va_Nw.same rfl hvm (h7 q hm), fun q hm => va_Nw.same rfl hvm (h8 q hm), ⟨fun q hm => va_AO.moved hal (h9.1 q hm), zAOA.moved hal h9.2⟩, fun q hm => va_Nw.same rfl hvm (h10 q hm)⟩
  obtain ⟨q, e, hr⟩ := h1 k hk
  exact ⟨q, e, vk_R.same hvm.symm hr⟩
theorem zGood {mm : Nat} (h : mm < 301) {own : Nat} : GoodIn (zws2 own) (zws2 mm) := by
  intro w hw
  rcases List.mem_cons.mp hw with rfl | hw
  · exact ⟨List.mem_cons_of_mem _ (z_code mm h), good_of_word rfl⟩
  · exact ⟨List.mem_cons_of_mem _ hw, good_of_word (zW_good w hw)⟩
section ZC
variable {E : Nat → Nat} {D : va_G} {dA : Nat → ClassId} {b0 mm n : Nat} {p : Program} {l : Launch} {e : Env} {R : Room} {s : State} {m : MethodId} {args : Array Value} {below : List Frame} {meth : Method} {c : Code} {H : Heap} {locs : List Loc} {cells slots : Nat} {Q : State → Prop} {h h1 : zHp} {ls : Array Slot} {pc : Nat}
/-- behind a call -/
theorem z_after (Y : zDyn D dA b0 s h H locs) (hi1 : zinv b0 h1) (hg : zgood h h1) {r : Option zAV} {a : Array Value} {st : List zAV} {g0 : List Value} {mc ms : Nat}
    (hr : va_Run p l e R s m args below meth c H locs cells slots mc ms (F0 m pc ls g0) (st.map zV) (zQ D dA b0 r h1 a) (zA b0))
    (kk : ∀ H1 locs1, zDyn D dA b0 s h1 H1 locs1 → W p l e R s m args below meth c H1 locs1 (cells + mc) (slots + ms) Q (F0 m (pc + 3) ls ((zpush r st).map zV))) : W p l e R s m args below meth c H locs cells slots Q (F0 m pc ls g0) := by
  obtain ⟨-, hC, hi, hS⟩ := Y
  intro T hT X
  obtain ⟨v, st₀, t, T', L, h0, X', hL, e1, e2, ⟨hv, hR, hz, hk⟩, st'⟩ := hr T hT X
  have hv : v = r.map zV := Outcome.returned.inj hv
  subst hv
  rw [h0] at hz hk
  obtain ⟨t2, a1, b1⟩ := kk T'.heap (locs ++ L) ⟨by rw [e1]; exact hR, hC.good hg, hi1, ⟨Nat.le_trans hS.1 (by rw [e1]; exact hz), fun q g1 g2 => by rw [e1, hk q (Nat.lt_of_lt_of_le g1 hS.1) g2]; exact hS.2.1 q g1 g2, fun q hq => by
      rcases List.mem_append.mp hq with z | z
      · exact hS.2.2 q z
      · exact hL q z⟩⟩ T' rfl X'
  refine ⟨t2, st' t2 ?_, b1⟩
  have e9 : (zpush r st).map zV = (r.map zV).toList ++ st.map zV := by cases r <;> rfl
  rw [e9] at a1
  exact a1
theorem z_hts (X : zCtx E D dA b0 mm n p R s m args meth c) (hmm : mm < 301) : ∀ w ∈ zws2 mm, w.before args s = true := by
  intro w hw
  rcases List.mem_cons.mp hw with rfl | hw
  · exact X.2.2.2.2.2.1 _ (z_code mm hmm)
  · exact X.2.2.2.2.2.1 w hw
theorem z_rclt {c0 : Nat} (h : (decide (c0 < 12) || c0 == 49) = true) : c0 < 12 ∨ c0 = 49 := by simpa using h
theorem z_take {k : Nat} {st : List zAV} : st.map zV = ((st.take k).reverse.map zV).reverse ++ (st.drop k).map zV := by
  rw [List.map_reverse, List.reverse_reverse, ← List.map_append, List.take_append_drop]
theorem z_recs {st : List zAV} {nn : Nat} {r0 : zAV} {As : List zAV} (hAs : (st.take (nn + 1)).reverse = r0 :: As) (hk : nn + 1 ≤ st.length) : (As.map zV).length = nn ∧ st.map zV = (As.map zV).reverse ++ zV r0 :: (st.drop (nn + 1)).map zV := by
  have e1 : (st.take (nn + 1)) = As.reverse ++ [r0] := by
    have := congrArg List.reverse hAs
    rw [List.reverse_reverse, List.reverse_cons] at this
    exact this
  have e2 : (st.take (nn + 1)).length = nn + 1 := by rw [List.length_take, Nat.min_eq_left hk]
  refine ⟨?_, ?_⟩
  · rw [e1, List.length_append, List.length_reverse] at e2
    rw [List.length_map]
    simpa using e2
  · rw [← List.map_reverse, ← List.map_cons, ← List.map_append]
    congr 1
    have := List.take_append_drop (nn + 1) st
    rw [e1, List.append_assoc] at this
    exact this.symm
theorem z_rcv (X : zCtx E D dA b0 mm n p R s m args meth c) (Y : zDyn D dA b0 s h H locs) {c0 r : Nat} (hc : c0 < 12 ∨ c0 = 49) (ht : zisA c0 (ztg h r) = true) : 0 < r ∧ ∃ cell : Cell, H[r - 1]? = some cell ∧ cell.vm.isStatics = false ∧ s.vm.findClass (zRc c0) = some cell.cls := by
  have hq : ztg h r = c0 + 1 := by
    unfold zisA at ht
    rw [if_neg (by omega)] at ht
    simpa using ht
  rcases hc with hc | hc
  · have hin := zin_ob (a := r) Y.2.2.1 (by omega) (by omega)
    have := z_recv X Y (r := r) (by omega) (by omega)
    rw [hq, Nat.add_sub_cancel] at this
    refine ⟨by omega, ?_⟩
    unfold zRc
    rw [if_neg (by omega)]
    exact this
  · subst hc
    have h9 : 0 < r := by
      rcases Y.2.2.1.2.1 r with q | q | q
      · omega
      · omega
      · exact q.2.1
    obtain ⟨cell, g1, g2, g3, g4⟩ := ((Y.2.1 r).2.2 hq).1
    exact ⟨h9, cell, by rw [Y.2.2.2.2.1 _ (Array.getElem?_eq_some_iff.mp g1).1 g4]; exact g1, g2, g3⟩
set_option maxHeartbeats 8000000 in
theorem zcall_W (X : zCtx E D dA b0 mm n p R s m args meth c) (Y : zDyn D dA b0 s h H locs) {nx d : Nat} {i : zMI} {st : List zAV} {m2 k mx : Nat} (hls : ls.size = n) (hok : zk4 mm i nx = true) (he : zcall i st h = some (m2, k, mx)) (hk1 : k ≤ st.length) (hk2 : (st.drop k).length ≤ 4) {r : Option zAV} (hi1 : zinv b0 h1) (hg : zgood h h1)
    (hRf : d + 2 ≤ R.frames) (hRl : 60 * (d + 2) ≤ R.locals) (hM : m2 < 301 → mx = zM m2 → zMet E D dA b0 l d m2 (st.take k).reverse h r h1)
    (hcl : cells + (znx h1 - znx h) ≤ R.cells) (hsl : slots + (zus h1 - zus h) ≤ R.slots)
    (kk : ∀ H1 locs1, zDyn D dA b0 s h1 H1 locs1 → W p l e R s m args below meth c H1 locs1 (cells + (znx h1 - znx h)) (slots + (zus h1 - zus h)) Q (F0 m nx ls ((zpush r (st.drop k)).map zV))) : W p l e R s m args below meth c H locs cells slots Q (F0 m i.2.1 ls (st.map zV)) := by
  have hcat := z_stcat hk2
  obtain ⟨hx, hb, hml, hnm, hown, hts, hK, hSt, hb0, hR1, hR2⟩ := id X
  have hfix : CallFix p m c (zC mm) n s args zW (zY mm).cls := ⟨hx, hb, hml, hown, hts⟩
  have hgw : ∀ {q : Nat}, q < 301 → GoodIn zW (zws2 q) := fun hq w hw => by
    rcases List.mem_cons.mp hw with rfl | hw
    · exact ⟨z_code _ hq, good_of_word rfl⟩
    · exact ⟨hw, good_of_word (zW_good w hw)⟩
  have hpre : ∀ as, PreS s H (va_Pc as (zPU E D dA b0 h)) as := fun as => ⟨zblind, fun U hU hW => ⟨rfl, zPU_of X Y U hU hW⟩⟩
  have hlen : ∀ q, q ≤ st.length → ((st.take q).reverse.map zV).length = q := fun q hq => by rw [List.length_map, List.length_reverse, List.length_take, Nat.min_eq_left hq]
  unfold zk4 at hok
  split at hok
  · -- static
    simp only [zcall, Option.some.injEq, Prod.mk.injEq] at he
    obtain ⟨rfl, rfl, rfl⟩ := he
    simp only [Bool.and_eq_true, Bool.or_eq_true, decide_eq_true_eq] at hok
    obtain ⟨⟨⟨k1, k2⟩, k3⟩, k4⟩ := hok
    simp only [zcm, Bool.and_eq_true, decide_eq_true_eq, beq_iff_eq] at k2
    obtain ⟨⟨⟨⟨⟨q1, q2⟩, q3⟩, q4⟩, q5⟩, q6⟩ := k2
    obtain ⟨d1, rfl⟩ := zD_of k1
    have hM2 := hM q1 (by omega)
    have hini := hts _ (zAt_in (z_init0 _ q1))
    rw [z_take]
    rcases k4 with k4 | k4
    · exact z_after Y hi1 hg (va_runS hfix hM2 ⟨callB_of _ hts (hgw q1) rfl rfl rfl hini (hts _ (zAt_in k4)) ⟨q4, q5, q6⟩ ⟨by show d + 1 + 1 ≤ _; omega, by show 8 + (_ + 11) + 60 * (d + 1) ≤ _; omega⟩, hts _ (zAt_in k3)⟩ (hpre _) rfl (hlen _ hk1) hls rfl (by show 2 * 0 + _ ≤ 8; rw [Nat.mul_zero, Nat.zero_add]; exact hcat) d1 ⟨hcl, hsl⟩) kk
    · exact z_after Y hi1 hg (va_runSN hfix hM2 ⟨va_cnB _ hts (hgw q1) rfl rfl rfl (hSt.2.2.2.2.2.2.1 _ k4) hini ⟨q4, q5, q6⟩ ⟨by show d + 1 + 1 ≤ _; omega, by show 8 + (_ + 11) + 60 * (d + 1) ≤ _; omega⟩, hts _ (zAt_in k3), trivial⟩ (hpre _) rfl (hlen _ hk1) hls rfl (by show 2 * 0 + _ ≤ 8; rw [Nat.mul_zero, Nat.zero_add]; exact hcat) d1 ⟨hcl, hsl⟩) kk
  · -- a constructor
    rename_i pc1 m3 nn mx3 v _
    simp only [zcall] at he
    split at he
    · rename_i r0 As hAs
      split at he
      · rename_i hr0
        simp only [Option.some.injEq, Prod.mk.injEq] at he
        obtain ⟨rfl, rfl, rfl⟩ := he
        simp only [Bool.and_eq_true, Bool.or_eq_true, decide_eq_true_eq, beq_iff_eq] at hok
        obtain ⟨⟨⟨⟨⟨k1, k2⟩, k3⟩, k5⟩, k6⟩, k4⟩ := hok
        simp only [zcm, Bool.and_eq_true, decide_eq_true_eq, beq_iff_eq] at k2
        obtain ⟨⟨⟨⟨⟨q1, q2⟩, q3⟩, q4⟩, q5⟩, q6⟩ := k2
        obtain ⟨d1, rfl⟩ := zD_of k1
        have hM2 := hM q1 (by omega)
        have hini := hts _ (zAt_in (z_init0 _ q1))
        obtain ⟨f1, f2⟩ := z_recs hAs hk1
        rw [hAs] at hM2
        rw [f2, zV_ref hr0]
        have hp : PreS s H (va_Pc ((.inr (.inr r0) :: As).map zV) (zPU E D dA b0 h)) (.ref (r0 - 1) :: As.map zV) := by
          have := hpre ((.inr (.inr r0) :: As).map zV)
          rw [List.map_cons, zV_ref hr0] at this ⊢
          exact this
        have hw9 : zws2 m3 = Cond.code (zY m3) (zC m3) (zM m3) none :: zW := by unfold zws2; rw [k6]
        rcases k4 with k4 | k4
        · have hT := callB_of _ hts (hgw q1) hw9 rfl rfl hini (hts _ (zAt_in k4)) ⟨q4, q5, q6⟩ (rm := zrm d (znx h1 - znx h) (zus h1 - zus h)) (R := R) ⟨by show d + 1 + 1 ≤ _; omega, by show 8 + (_ + 11) + 60 * (d + 1) ≤ _; omega⟩
          exact z_after Y hi1 hg (va_runI hfix hM2 ⟨hT, k5, hts _ (zAt_in k3)⟩ hp rfl f1 hls rfl (by show 2 * 0 + _ ≤ 8; rw [Nat.mul_zero, Nat.zero_add]; exact hcat) d1 ⟨hcl, hsl⟩) kk
        · have hT := va_cnB _ hts (hgw q1) hw9 rfl rfl (hSt.2.2.2.2.2.2.1 _ k4) hini ⟨q4, q5, q6⟩ (rm := zrm d (znx h1 - znx h) (zus h1 - zus h)) (R := R) (args := args) ⟨by show d + 1 + 1 ≤ _; omega, by show 8 + (_ + 11) + 60 * (d + 1) ≤ _; omega⟩
          exact z_after Y hi1 hg (va_runIN hfix hM2 ⟨hT, k5, hts _ (zAt_in k3)⟩ hp rfl f1 hls rfl (by show 2 * 0 + _ ≤ 8; rw [Nat.mul_zero, Nat.zero_add]; exact hcat) d1 ⟨hcl, hsl⟩) kk
      · cases he
    · cases he
  · -- a method of a known kind
    rename_i v c0
    simp only [zcall] at he
    split at he
    · rename_i r0 As hAs
      split at he
      · rename_i hr0
        simp only [List.any_cons, List.any_nil, Bool.or_false] at hr0
        simp only [Option.some.injEq, Prod.mk.injEq] at he
        obtain ⟨rfl, rfl, rfl⟩ := he
        simp only [Bool.and_eq_true, decide_eq_true_eq] at hok
        obtain ⟨⟨⟨⟨⟨⟨k1, k2⟩, k3⟩, k5⟩, k6⟩, k7⟩, k4⟩ := hok
        simp only [zcm, Bool.and_eq_true, decide_eq_true_eq, beq_iff_eq] at k2
        obtain ⟨⟨⟨⟨⟨q1, q2⟩, q3⟩, q4⟩, q5⟩, q6⟩ := k2
        obtain ⟨d1, rfl⟩ := zD_of k1
        have hM2 := hM q1 (by omega)
        have hini := hts _ (zAt_in (z_init0 _ q1))
        obtain ⟨f1, f2⟩ := z_recs hAs hk1
        obtain ⟨g1, g2⟩ := z_rcv X Y (z_rclt k5) hr0
        rw [hAs] at hM2
        rw [f2, zV_ref g1]
        have hp : PreV s H (zRc c0) (r0 - 1) (va_Pc ((.inr (.inr r0) :: As).map zV) (zPU E D dA b0 h)) (As.map zV) := by
          refine ⟨zblind, g2, fun U hU hW => ⟨?_, zPU_of X Y U hU hW⟩⟩
          rw [List.map_cons, zV_ref g1]
        have hT := callB_of _ hts (hgw q1) rfl rfl rfl hini (hts _ (zAt_in k4)) ⟨q4, q5, q6⟩ (rm := zrm d (znx h1 - znx h) (zus h1 - zus h)) (R := R) ⟨by show d + 1 + 1 ≤ _; omega, by show 8 + (_ + 11) + 60 * (d + 1) ≤ _; omega⟩
        exact z_after Y hi1 hg (va_runV hfix hM2 ⟨hT, hts _ (zAt_in k3), hts _ (zAl_in k7)⟩ hp rfl f1 hls rfl (by show 2 * 0 + _ ≤ 8; rw [Nat.mul_zero, Nat.zero_add]; exact hcat) d1 ⟨hcl, hsl⟩) kk
      · cases he
    · cases he
  · -- by the cell's own kind
    rename_i cp nn mx tb
    simp only [zcall] at he
    split at he
    · rename_i r0 As hAs
      split at he
      · rename_i q hfind
        simp only [Option.some.injEq, Prod.mk.injEq] at he
        obtain ⟨rfl, rfl, rfl⟩ := he
        simp only [Bool.and_eq_true, List.all_eq_true] at hok
        obtain ⟨k1, k2⟩ := hok
        obtain ⟨d1, rfl⟩ := zD_of k1
        have hqm := List.mem_of_find?_eq_some hfind
        have hqt : q.1 = (ztg h r0 : Int) := by simpa using List.find?_some hfind
        obtain ⟨k2, k3⟩ := k2 q hqm
        simp only [zcm, Bool.and_eq_true, decide_eq_true_eq, beq_iff_eq] at k2
        obtain ⟨⟨⟨⟨⟨q1, q2⟩, q3⟩, q4⟩, q5⟩, q6⟩ := k2
        simp only [zkd, Bool.and_eq_true, decide_eq_true_eq] at k3
        obtain ⟨⟨⟨⟨⟨⟨w1, w2⟩, w3⟩, w4⟩, w5⟩, w6⟩, w7⟩ := k3
        have hM2 := hM q1 (by omega)
        have hini := hts _ (zAt_in (z_init0 _ q1))
        obtain ⟨f1, f2⟩ := z_recs hAs hk1
        obtain ⟨b1, b2⟩ := zin_ob (a := r0) Y.2.2.1 (by omega) (by omega)
        have hrc := z_recv X Y (r := r0) (by omega) (by omega)
        rw [hAs] at hM2
        rw [f2, zV_ref (by omega)]
        have ht : q.1.toNat - 1 = ztg h r0 - 1 := by omega
        rw [ht] at w4
        have hp : PreV s H (zRx (ztg h r0 - 1)) (r0 - 1) (va_Pc ((.inr (.inr r0) :: As).map zV) (zPU E D dA b0 h)) (As.map zV) := by
          refine ⟨zblind, hrc, fun U hU hW => ⟨?_, zPU_of X Y U hU hW⟩⟩
          rw [List.map_cons, zV_ref (by omega)]
        have hcu : va_CU R s args (zY mm).cls (zRx (ztg h r0 - 1)) RX9 (zix cp) ⟨RX9, (zY q.2).name, (zY q.2).desc⟩ (zY q.2) (zC q.2) (zM q.2) (zT q.2) (zws2 q.2) (zrm d (znx h1 - znx h) (zus h1 - zus h)) (znx h1 - znx h) (zus h1 - zus h) nn := by
          refine ⟨⟨rfl, rfl, by show d + 1 + 1 ≤ _; omega, by show 8 + (_ + 11) + 60 * (d + 1) ≤ _; omega, pay_in hts (hgw q1), List.mem_cons_self⟩, hts _ (z_code _ q1), hini, ⟨by decide, by decide⟩, fun sig hs => ?_, hts _ (zIn_in w6), hts _ (zIn_in w5), va_Decl.abs (hSt.2.2.2.2.2.2.2.2.2 _ w7), hts _ (zIn_in w4), hts _ (zAt_in w3)⟩
          have hs : parseMethodDescriptor (zY q.2).desc = some sig := hs
          rw [hs] at q6
          exact (Option.some.inj q6).symm
        exact z_after Y hi1 hg (va_runU hfix hM2 hcu hp rfl f1 hls rfl (by show 2 * 0 + _ ≤ 8; rw [Nat.mul_zero, Nat.zero_add]; exact hcat) d1 ⟨hcl, hsl⟩) kk
      · cases he
    · cases he
  · cases hok
end ZC
