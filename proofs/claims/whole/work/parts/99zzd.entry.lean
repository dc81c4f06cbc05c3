/-! THE MACHINE AT THE LAW'S ENTRY: what stands of the start's own cells -/
def enP1 : List Nat := [37, 107, 337, 341, 366, 496, 540, 548, 574, 581, 699, 700, 1155, 1188]
theorem p_xm : ∀ k : Fin 14, tables_1[enP1.getD k.val 0]? = (zXM[k.val]?).map (fun q => Cond.methodLinkNest q.1 q.2.1 q.2.2.1 q.2.2.2) := by decide +kernel
def enP2 : List Nat := [867, 1963, 1964, 1965, 1966, 1967]
theorem p_xc : ∀ k : Fin 6, tables_1[enP2.getD k.val 0]? = (zXC[k.val]?).map (fun q => Cond.castable q.1 q.2) := by decide +kernel
theorem p_xo : tables_1[32]? = some (Cond.arrayOver (.object "EngraversHouse$Thing")) ∧ tables_1[34]? = some (Cond.arrayOver (.object "EngraversHouse$Plate")) ∧ tables_1[63]? = some (Cond.arrayOver (.object "EngraversHouse$Contract")) ∧ tables_1[243]? = some (Cond.arrayOver (.object "EngraversHouse$Bar")) ∧ tables_1[144]? = some (Cond.arrayOver (.array .int)) := by decide +kernel
theorem p_xd : tables_1[419]? = some (Cond.declares ⟨RX9, "scoreNumber", "()I"⟩) ∧ tables_1[438]? = some (Cond.declares ⟨RX9, "second", "()I"⟩) ∧ tables_1[460]? = some (Cond.declares ⟨RX9, "third", "()I"⟩) := by decide +kernel
def enP3 : List Nat := [939, 992, 1052, 1053, 1058, 1059, 1060, 1061, 1062, 1071, 1076, 1077]
theorem p_sr : ∀ k : Fin 12, tables_1[enP3.getD k.val 0]? = some (Cond.stringRef RX1 (zSi.getD k.val (0, "")).1 (zSi.getD k.val (0, "")).2) := by decide +kernel
theorem p_ls : tables_1[953]? = some (Cond.laysStatic "java/lang/String" "COMPACT_STRINGS" "Z") ∧ tables_1[969]? = some (Cond.laysStatic "jdk/internal/util/Preconditions" "SIOOBE_FORMATTER" "Ljava/util/function/BiFunction;") ∧ tables_1[1254]? = some (Cond.laysStatic RX11 "BODIES" "[I") ∧ tables_1[1259]? = some (Cond.laysStatic RX11 "KIND_ABOVE" "[I") := by decide +kernel
theorem p_in : tables_1[18]? = some (Cond.initialized "java/lang/String") ∧ tables_1[20]? = some (Cond.initialized "jdk/internal/util/Preconditions") ∧ tables_1[1]? = some (Cond.initialized RX11) := by decide +kernel
theorem p_si : ∀ k : Fin 12, (zSi.getD k.val (0, "")).1 = enW.getD k.val 0 := by decide
theorem p_cs : Cond.eq (.static "java/lang/String" "COMPACT_STRINGS" "Z") (.int 1) ∈ flatC (Jvm.Cond.and given_1 narrow_1) ∧ Cond.isRef (.static "jdk/internal/util/Preconditions" "SIOOBE_FORMATTER" "Ljava/util/function/BiFunction;") ∈ flatC (Jvm.Cond.and given_1 narrow_1) := by decide +kernel
theorem p_nc : ∀ c ∈ [2, 3, 5, 6, 8], ∀ t ∈ [2, 3, 5, 6, 8], c ≠ t → Cond.not (.castable (zRx c) (zRx t)) ∈ flatC (Jvm.Cond.and given_1 narrow_1) := by decide +kernel
