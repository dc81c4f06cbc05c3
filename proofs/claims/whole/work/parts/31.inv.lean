/-! WHAT HOLDS BETWEEN CALLS: the class's fixed rows, its things, and what they have to do with the reference's rows -/
def xTab : List (Nat × Nat × Nat) := [(0, 11, 20), (1, 30, 12), (2, 33, 60), (3, 34, 12), (4, 5, 6), (5, 30, 20), (6, 31, 20), (7, 31, 20), (8, 30, 84), (9, 30, 84), (10, 30, 120), (11, 35, 12), (12, 10, 10), (13, 30, 36), (14, 30, 9), (15, 30, 9), (16, 30, 9), (17, 30, 9), (18, 30, 9), (19, 30, 9), (20, 30, 9), (21, 30, 9), (22, 8, 8), (23, 30, 10), (24, 30, 11), (25, 30, 11), (26, 30, 11), (27, 37, 6), (28, 30, 60), (29, 30, 60), (30, 30, 60), (31, 30, 60), (32, 30, 60), (33, 30, 60), (34, 30, 6), (35, 30, 6), (36, 30, 20)]
def xPtr : List (Nat × Nat × Nat) := [(0, 1, 1), (0, 3, 2), (0, 6, 3), (0, 8, 4), (0, 9, 10), (0, 11, 11), (0, 13, 12), (0, 14, 22), (0, 15, 27), (0, 16, 34), (0, 17, 35), (0, 18, 36), (4, 1, 5), (4, 2, 6), (4, 3, 7), (4, 4, 8), (4, 5, 9), (12, 0, 13), (12, 2, 14), (12, 3, 15), (12, 4, 16), (12, 5, 17), (12, 6, 18), (12, 7, 19), (12, 8, 20), (12, 9, 21), (22, 4, 23), (22, 5, 24), (22, 6, 25), (22, 7, 26), (27, 0, 28), (27, 1, 29), (27, 2, 30), (27, 3, 31), (27, 4, 32), (27, 5, 33)]
def xnp (o k : Nat) : Bool := xPtr.all fun q => !(q.1 == o && q.2.1 == k)
/-- the class's fixed rows lie behind X, each in its place -/
def IFx (X : Nat) (H : zHp) : Prop := 0 < X ∧ (X + 99 ≤ znx H ∧ ztg H 0 = 0) ∧ (∀ q ∈ xTab, ztg H (X + q.1) = q.2.1 ∧ zln H (X + q.1) = q.2.2) ∧ ∀ q ∈ xPtr, zct H (X + q.1) q.2.1 = ((X + q.2.2 : Nat) : Int)
section FX
variable {X : Nat} {H : zHp} (F : IFx X H)
theorem ft0 (F : IFx X H) : ztg H X = 11 := (F.2.2.1 (0, 11, 20) (List.mem_of_getElem? (i := 0) rfl)).1
theorem ft1 (F : IFx X H) : ztg H (X + 1) = 30 := (F.2.2.1 (1, 30, 12) (List.mem_of_getElem? (i := 1) rfl)).1
theorem fl1 (F : IFx X H) : zln H (X + 1) = 12 := (F.2.2.1 (1, 30, 12) (List.mem_of_getElem? (i := 1) rfl)).2
theorem ft2 (F : IFx X H) : ztg H (X + 2) = 33 := (F.2.2.1 (2, 33, 60) (List.mem_of_getElem? (i := 2) rfl)).1
theorem fl2 (F : IFx X H) : zln H (X + 2) = 60 := (F.2.2.1 (2, 33, 60) (List.mem_of_getElem? (i := 2) rfl)).2
theorem ft3 (F : IFx X H) : ztg H (X + 3) = 34 := (F.2.2.1 (3, 34, 12) (List.mem_of_getElem? (i := 3) rfl)).1
theorem fl3 (F : IFx X H) : zln H (X + 3) = 12 := (F.2.2.1 (3, 34, 12) (List.mem_of_getElem? (i := 3) rfl)).2
theorem ft4 (F : IFx X H) : ztg H (X + 4) = 5 := (F.2.2.1 (4, 5, 6) (List.mem_of_getElem? (i := 4) rfl)).1
theorem ft5 (F : IFx X H) : ztg H (X + 5) = 30 := (F.2.2.1 (5, 30, 20) (List.mem_of_getElem? (i := 5) rfl)).1
theorem fl5 (F : IFx X H) : zln H (X + 5) = 20 := (F.2.2.1 (5, 30, 20) (List.mem_of_getElem? (i := 5) rfl)).2
theorem ft6 (F : IFx X H) : ztg H (X + 6) = 31 := (F.2.2.1 (6, 31, 20) (List.mem_of_getElem? (i := 6) rfl)).1
theorem fl6 (F : IFx X H) : zln H (X + 6) = 20 := (F.2.2.1 (6, 31, 20) (List.mem_of_getElem? (i := 6) rfl)).2
theorem ft7 (F : IFx X H) : ztg H (X + 7) = 31 := (F.2.2.1 (7, 31, 20) (List.mem_of_getElem? (i := 7) rfl)).1
theorem fl7 (F : IFx X H) : zln H (X + 7) = 20 := (F.2.2.1 (7, 31, 20) (List.mem_of_getElem? (i := 7) rfl)).2
theorem ft8 (F : IFx X H) : ztg H (X + 8) = 30 := (F.2.2.1 (8, 30, 84) (List.mem_of_getElem? (i := 8) rfl)).1
theorem fl8 (F : IFx X H) : zln H (X + 8) = 84 := (F.2.2.1 (8, 30, 84) (List.mem_of_getElem? (i := 8) rfl)).2
theorem ft9 (F : IFx X H) : ztg H (X + 9) = 30 := (F.2.2.1 (9, 30, 84) (List.mem_of_getElem? (i := 9) rfl)).1
theorem fl9 (F : IFx X H) : zln H (X + 9) = 84 := (F.2.2.1 (9, 30, 84) (List.mem_of_getElem? (i := 9) rfl)).2
theorem ft10 (F : IFx X H) : ztg H (X + 10) = 30 := (F.2.2.1 (10, 30, 120) (List.mem_of_getElem? (i := 10) rfl)).1
theorem fl10 (F : IFx X H) : zln H (X + 10) = 120 := (F.2.2.1 (10, 30, 120) (List.mem_of_getElem? (i := 10) rfl)).2
theorem ft11 (F : IFx X H) : ztg H (X + 11) = 35 := (F.2.2.1 (11, 35, 12) (List.mem_of_getElem? (i := 11) rfl)).1
theorem fl11 (F : IFx X H) : zln H (X + 11) = 12 := (F.2.2.1 (11, 35, 12) (List.mem_of_getElem? (i := 11) rfl)).2
theorem ft12 (F : IFx X H) : ztg H (X + 12) = 10 := (F.2.2.1 (12, 10, 10) (List.mem_of_getElem? (i := 12) rfl)).1
theorem ft13 (F : IFx X H) : ztg H (X + 13) = 30 := (F.2.2.1 (13, 30, 36) (List.mem_of_getElem? (i := 13) rfl)).1
theorem fl13 (F : IFx X H) : zln H (X + 13) = 36 := (F.2.2.1 (13, 30, 36) (List.mem_of_getElem? (i := 13) rfl)).2
theorem ft14 (F : IFx X H) : ztg H (X + 14) = 30 := (F.2.2.1 (14, 30, 9) (List.mem_of_getElem? (i := 14) rfl)).1
theorem fl14 (F : IFx X H) : zln H (X + 14) = 9 := (F.2.2.1 (14, 30, 9) (List.mem_of_getElem? (i := 14) rfl)).2
theorem ft15 (F : IFx X H) : ztg H (X + 15) = 30 := (F.2.2.1 (15, 30, 9) (List.mem_of_getElem? (i := 15) rfl)).1
theorem fl15 (F : IFx X H) : zln H (X + 15) = 9 := (F.2.2.1 (15, 30, 9) (List.mem_of_getElem? (i := 15) rfl)).2
theorem ft16 (F : IFx X H) : ztg H (X + 16) = 30 := (F.2.2.1 (16, 30, 9) (List.mem_of_getElem? (i := 16) rfl)).1
theorem fl16 (F : IFx X H) : zln H (X + 16) = 9 := (F.2.2.1 (16, 30, 9) (List.mem_of_getElem? (i := 16) rfl)).2
theorem ft17 (F : IFx X H) : ztg H (X + 17) = 30 := (F.2.2.1 (17, 30, 9) (List.mem_of_getElem? (i := 17) rfl)).1
theorem fl17 (F : IFx X H) : zln H (X + 17) = 9 := (F.2.2.1 (17, 30, 9) (List.mem_of_getElem? (i := 17) rfl)).2
theorem ft18 (F : IFx X H) : ztg H (X + 18) = 30 := (F.2.2.1 (18, 30, 9) (List.mem_of_getElem? (i := 18) rfl)).1
theorem fl18 (F : IFx X H) : zln H (X + 18) = 9 := (F.2.2.1 (18, 30, 9) (List.mem_of_getElem? (i := 18) rfl)).2
theorem ft19 (F : IFx X H) : ztg H (X + 19) = 30 := (F.2.2.1 (19, 30, 9) (List.mem_of_getElem? (i := 19) rfl)).1
theorem fl19 (F : IFx X H) : zln H (X + 19) = 9 := (F.2.2.1 (19, 30, 9) (List.mem_of_getElem? (i := 19) rfl)).2
theorem ft20 (F : IFx X H) : ztg H (X + 20) = 30 := (F.2.2.1 (20, 30, 9) (List.mem_of_getElem? (i := 20) rfl)).1
theorem fl20 (F : IFx X H) : zln H (X + 20) = 9 := (F.2.2.1 (20, 30, 9) (List.mem_of_getElem? (i := 20) rfl)).2
theorem ft21 (F : IFx X H) : ztg H (X + 21) = 30 := (F.2.2.1 (21, 30, 9) (List.mem_of_getElem? (i := 21) rfl)).1
theorem fl21 (F : IFx X H) : zln H (X + 21) = 9 := (F.2.2.1 (21, 30, 9) (List.mem_of_getElem? (i := 21) rfl)).2
theorem ft22 (F : IFx X H) : ztg H (X + 22) = 8 := (F.2.2.1 (22, 8, 8) (List.mem_of_getElem? (i := 22) rfl)).1
theorem ft23 (F : IFx X H) : ztg H (X + 23) = 30 := (F.2.2.1 (23, 30, 10) (List.mem_of_getElem? (i := 23) rfl)).1
theorem fl23 (F : IFx X H) : zln H (X + 23) = 10 := (F.2.2.1 (23, 30, 10) (List.mem_of_getElem? (i := 23) rfl)).2
theorem ft24 (F : IFx X H) : ztg H (X + 24) = 30 := (F.2.2.1 (24, 30, 11) (List.mem_of_getElem? (i := 24) rfl)).1
theorem fl24 (F : IFx X H) : zln H (X + 24) = 11 := (F.2.2.1 (24, 30, 11) (List.mem_of_getElem? (i := 24) rfl)).2
theorem ft25 (F : IFx X H) : ztg H (X + 25) = 30 := (F.2.2.1 (25, 30, 11) (List.mem_of_getElem? (i := 25) rfl)).1
theorem fl25 (F : IFx X H) : zln H (X + 25) = 11 := (F.2.2.1 (25, 30, 11) (List.mem_of_getElem? (i := 25) rfl)).2
theorem ft26 (F : IFx X H) : ztg H (X + 26) = 30 := (F.2.2.1 (26, 30, 11) (List.mem_of_getElem? (i := 26) rfl)).1
theorem fl26 (F : IFx X H) : zln H (X + 26) = 11 := (F.2.2.1 (26, 30, 11) (List.mem_of_getElem? (i := 26) rfl)).2
theorem ft27 (F : IFx X H) : ztg H (X + 27) = 37 := (F.2.2.1 (27, 37, 6) (List.mem_of_getElem? (i := 27) rfl)).1
theorem fl27 (F : IFx X H) : zln H (X + 27) = 6 := (F.2.2.1 (27, 37, 6) (List.mem_of_getElem? (i := 27) rfl)).2
theorem ft28 (F : IFx X H) : ztg H (X + 28) = 30 := (F.2.2.1 (28, 30, 60) (List.mem_of_getElem? (i := 28) rfl)).1
theorem fl28 (F : IFx X H) : zln H (X + 28) = 60 := (F.2.2.1 (28, 30, 60) (List.mem_of_getElem? (i := 28) rfl)).2
theorem ft29 (F : IFx X H) : ztg H (X + 29) = 30 := (F.2.2.1 (29, 30, 60) (List.mem_of_getElem? (i := 29) rfl)).1
theorem fl29 (F : IFx X H) : zln H (X + 29) = 60 := (F.2.2.1 (29, 30, 60) (List.mem_of_getElem? (i := 29) rfl)).2
theorem ft30 (F : IFx X H) : ztg H (X + 30) = 30 := (F.2.2.1 (30, 30, 60) (List.mem_of_getElem? (i := 30) rfl)).1
theorem fl30 (F : IFx X H) : zln H (X + 30) = 60 := (F.2.2.1 (30, 30, 60) (List.mem_of_getElem? (i := 30) rfl)).2
theorem ft31 (F : IFx X H) : ztg H (X + 31) = 30 := (F.2.2.1 (31, 30, 60) (List.mem_of_getElem? (i := 31) rfl)).1
theorem fl31 (F : IFx X H) : zln H (X + 31) = 60 := (F.2.2.1 (31, 30, 60) (List.mem_of_getElem? (i := 31) rfl)).2
theorem ft32 (F : IFx X H) : ztg H (X + 32) = 30 := (F.2.2.1 (32, 30, 60) (List.mem_of_getElem? (i := 32) rfl)).1
theorem fl32 (F : IFx X H) : zln H (X + 32) = 60 := (F.2.2.1 (32, 30, 60) (List.mem_of_getElem? (i := 32) rfl)).2
theorem ft33 (F : IFx X H) : ztg H (X + 33) = 30 := (F.2.2.1 (33, 30, 60) (List.mem_of_getElem? (i := 33) rfl)).1
theorem fl33 (F : IFx X H) : zln H (X + 33) = 60 := (F.2.2.1 (33, 30, 60) (List.mem_of_getElem? (i := 33) rfl)).2
theorem ft34 (F : IFx X H) : ztg H (X + 34) = 30 := (F.2.2.1 (34, 30, 6) (List.mem_of_getElem? (i := 34) rfl)).1
theorem fl34 (F : IFx X H) : zln H (X + 34) = 6 := (F.2.2.1 (34, 30, 6) (List.mem_of_getElem? (i := 34) rfl)).2
theorem ft35 (F : IFx X H) : ztg H (X + 35) = 30 := (F.2.2.1 (35, 30, 6) (List.mem_of_getElem? (i := 35) rfl)).1
theorem fl35 (F : IFx X H) : zln H (X + 35) = 6 := (F.2.2.1 (35, 30, 6) (List.mem_of_getElem? (i := 35) rfl)).2
theorem ft36 (F : IFx X H) : ztg H (X + 36) = 30 := (F.2.2.1 (36, 30, 20) (List.mem_of_getElem? (i := 36) rfl)).1
theorem fl36 (F : IFx X H) : zln H (X + 36) = 20 := (F.2.2.1 (36, 30, 20) (List.mem_of_getElem? (i := 36) rfl)).2
theorem fp0_1 (F : IFx X H) : (zct H X 1).toNat = X + 1 := by rw [show zct H X 1 = ((X + 1 : Nat) : Int) from F.2.2.2 (0, 1, 1) (List.mem_of_getElem? (i := 0) rfl)]; exact Int.toNat_natCast _
theorem fp0_3 (F : IFx X H) : (zct H X 3).toNat = X + 2 := by rw [show zct H X 3 = ((X + 2 : Nat) : Int) from F.2.2.2 (0, 3, 2) (List.mem_of_getElem? (i := 1) rfl)]; exact Int.toNat_natCast _
theorem fp0_6 (F : IFx X H) : (zct H X 6).toNat = X + 3 := by rw [show zct H X 6 = ((X + 3 : Nat) : Int) from F.2.2.2 (0, 6, 3) (List.mem_of_getElem? (i := 2) rfl)]; exact Int.toNat_natCast _
theorem fp0_8 (F : IFx X H) : (zct H X 8).toNat = X + 4 := by rw [show zct H X 8 = ((X + 4 : Nat) : Int) from F.2.2.2 (0, 8, 4) (List.mem_of_getElem? (i := 3) rfl)]; exact Int.toNat_natCast _
theorem fp0_9 (F : IFx X H) : (zct H X 9).toNat = X + 10 := by rw [show zct H X 9 = ((X + 10 : Nat) : Int) from F.2.2.2 (0, 9, 10) (List.mem_of_getElem? (i := 4) rfl)]; exact Int.toNat_natCast _
theorem fp0_11 (F : IFx X H) : (zct H X 11).toNat = X + 11 := by rw [show zct H X 11 = ((X + 11 : Nat) : Int) from F.2.2.2 (0, 11, 11) (List.mem_of_getElem? (i := 5) rfl)]; exact Int.toNat_natCast _
theorem fp0_13 (F : IFx X H) : (zct H X 13).toNat = X + 12 := by rw [show zct H X 13 = ((X + 12 : Nat) : Int) from F.2.2.2 (0, 13, 12) (List.mem_of_getElem? (i := 6) rfl)]; exact Int.toNat_natCast _
theorem fp0_14 (F : IFx X H) : (zct H X 14).toNat = X + 22 := by rw [show zct H X 14 = ((X + 22 : Nat) : Int) from F.2.2.2 (0, 14, 22) (List.mem_of_getElem? (i := 7) rfl)]; exact Int.toNat_natCast _
theorem fp0_15 (F : IFx X H) : (zct H X 15).toNat = X + 27 := by rw [show zct H X 15 = ((X + 27 : Nat) : Int) from F.2.2.2 (0, 15, 27) (List.mem_of_getElem? (i := 8) rfl)]; exact Int.toNat_natCast _
theorem fp0_16 (F : IFx X H) : (zct H X 16).toNat = X + 34 := by rw [show zct H X 16 = ((X + 34 : Nat) : Int) from F.2.2.2 (0, 16, 34) (List.mem_of_getElem? (i := 9) rfl)]; exact Int.toNat_natCast _
theorem fp0_17 (F : IFx X H) : (zct H X 17).toNat = X + 35 := by rw [show zct H X 17 = ((X + 35 : Nat) : Int) from F.2.2.2 (0, 17, 35) (List.mem_of_getElem? (i := 10) rfl)]; exact Int.toNat_natCast _
theorem fp0_18 (F : IFx X H) : (zct H X 18).toNat = X + 36 := by rw [show zct H X 18 = ((X + 36 : Nat) : Int) from F.2.2.2 (0, 18, 36) (List.mem_of_getElem? (i := 11) rfl)]; exact Int.toNat_natCast _
theorem fp4_1 (F : IFx X H) : (zct H (X + 4) 1).toNat = X + 5 := by rw [show zct H (X + 4) 1 = ((X + 5 : Nat) : Int) from F.2.2.2 (4, 1, 5) (List.mem_of_getElem? (i := 12) rfl)]; exact Int.toNat_natCast _
theorem fp4_2 (F : IFx X H) : (zct H (X + 4) 2).toNat = X + 6 := by rw [show zct H (X + 4) 2 = ((X + 6 : Nat) : Int) from F.2.2.2 (4, 2, 6) (List.mem_of_getElem? (i := 13) rfl)]; exact Int.toNat_natCast _
theorem fp4_3 (F : IFx X H) : (zct H (X + 4) 3).toNat = X + 7 := by rw [show zct H (X + 4) 3 = ((X + 7 : Nat) : Int) from F.2.2.2 (4, 3, 7) (List.mem_of_getElem? (i := 14) rfl)]; exact Int.toNat_natCast _
theorem fp4_4 (F : IFx X H) : (zct H (X + 4) 4).toNat = X + 8 := by rw [show zct H (X + 4) 4 = ((X + 8 : Nat) : Int) from F.2.2.2 (4, 4, 8) (List.mem_of_getElem? (i := 15) rfl)]; exact Int.toNat_natCast _
theorem fp4_5 (F : IFx X H) : (zct H (X + 4) 5).toNat = X + 9 := by rw [show zct H (X + 4) 5 = ((X + 9 : Nat) : Int) from F.2.2.2 (4, 5, 9) (List.mem_of_getElem? (i := 16) rfl)]; exact Int.toNat_natCast _
theorem fp12_0 (F : IFx X H) : (zct H (X + 12) 0).toNat = X + 13 := by rw [show zct H (X + 12) 0 = ((X + 13 : Nat) : Int) from F.2.2.2 (12, 0, 13) (List.mem_of_getElem? (i := 17) rfl)]; exact Int.toNat_natCast _
theorem fp12_2 (F : IFx X H) : (zct H (X + 12) 2).toNat = X + 14 := by rw [show zct H (X + 12) 2 = ((X + 14 : Nat) : Int) from F.2.2.2 (12, 2, 14) (List.mem_of_getElem? (i := 18) rfl)]; exact Int.toNat_natCast _
theorem fp12_3 (F : IFx X H) : (zct H (X + 12) 3).toNat = X + 15 := by rw [show zct H (X + 12) 3 = ((X + 15 : Nat) : Int) from F.2.2.2 (12, 3, 15) (List.mem_of_getElem? (i := 19) rfl)]; exact Int.toNat_natCast _
theorem fp12_4 (F : IFx X H) : (zct H (X + 12) 4).toNat = X + 16 := by rw [show zct H (X + 12) 4 = ((X + 16 : Nat) : Int) from F.2.2.2 (12, 4, 16) (List.mem_of_getElem? (i := 20) rfl)]; exact Int.toNat_natCast _
theorem fp12_5 (F : IFx X H) : (zct H (X + 12) 5).toNat = X + 17 := by rw [show zct H (X + 12) 5 = ((X + 17 : Nat) : Int) from F.2.2.2 (12, 5, 17) (List.mem_of_getElem? (i := 21) rfl)]; exact Int.toNat_natCast _
theorem fp12_6 (F : IFx X H) : (zct H (X + 12) 6).toNat = X + 18 := by rw [show zct H (X + 12) 6 = ((X + 18 : Nat) : Int) from F.2.2.2 (12, 6, 18) (List.mem_of_getElem? (i := 22) rfl)]; exact Int.toNat_natCast _
theorem fp12_7 (F : IFx X H) : (zct H (X + 12) 7).toNat = X + 19 := by rw [show zct H (X + 12) 7 = ((X + 19 : Nat) : Int) from F.2.2.2 (12, 7, 19) (List.mem_of_getElem? (i := 23) rfl)]; exact Int.toNat_natCast _
theorem fp12_8 (F : IFx X H) : (zct H (X + 12) 8).toNat = X + 20 := by rw [show zct H (X + 12) 8 = ((X + 20 : Nat) : Int) from F.2.2.2 (12, 8, 20) (List.mem_of_getElem? (i := 24) rfl)]; exact Int.toNat_natCast _
theorem fp12_9 (F : IFx X H) : (zct H (X + 12) 9).toNat = X + 21 := by rw [show zct H (X + 12) 9 = ((X + 21 : Nat) : Int) from F.2.2.2 (12, 9, 21) (List.mem_of_getElem? (i := 25) rfl)]; exact Int.toNat_natCast _
theorem fp22_4 (F : IFx X H) : (zct H (X + 22) 4).toNat = X + 23 := by rw [show zct H (X + 22) 4 = ((X + 23 : Nat) : Int) from F.2.2.2 (22, 4, 23) (List.mem_of_getElem? (i := 26) rfl)]; exact Int.toNat_natCast _
theorem fp22_5 (F : IFx X H) : (zct H (X + 22) 5).toNat = X + 24 := by rw [show zct H (X + 22) 5 = ((X + 24 : Nat) : Int) from F.2.2.2 (22, 5, 24) (List.mem_of_getElem? (i := 27) rfl)]; exact Int.toNat_natCast _
theorem fp22_6 (F : IFx X H) : (zct H (X + 22) 6).toNat = X + 25 := by rw [show zct H (X + 22) 6 = ((X + 25 : Nat) : Int) from F.2.2.2 (22, 6, 25) (List.mem_of_getElem? (i := 28) rfl)]; exact Int.toNat_natCast _
theorem fp22_7 (F : IFx X H) : (zct H (X + 22) 7).toNat = X + 26 := by rw [show zct H (X + 22) 7 = ((X + 26 : Nat) : Int) from F.2.2.2 (22, 7, 26) (List.mem_of_getElem? (i := 29) rfl)]; exact Int.toNat_natCast _
theorem fp27_0 (F : IFx X H) : (zct H (X + 27) 0).toNat = X + 28 := by rw [show zct H (X + 27) 0 = ((X + 28 : Nat) : Int) from F.2.2.2 (27, 0, 28) (List.mem_of_getElem? (i := 30) rfl)]; exact Int.toNat_natCast _
theorem fp27_1 (F : IFx X H) : (zct H (X + 27) 1).toNat = X + 29 := by rw [show zct H (X + 27) 1 = ((X + 29 : Nat) : Int) from F.2.2.2 (27, 1, 29) (List.mem_of_getElem? (i := 31) rfl)]; exact Int.toNat_natCast _
theorem fp27_2 (F : IFx X H) : (zct H (X + 27) 2).toNat = X + 30 := by rw [show zct H (X + 27) 2 = ((X + 30 : Nat) : Int) from F.2.2.2 (27, 2, 30) (List.mem_of_getElem? (i := 32) rfl)]; exact Int.toNat_natCast _
theorem fp27_3 (F : IFx X H) : (zct H (X + 27) 3).toNat = X + 31 := by rw [show zct H (X + 27) 3 = ((X + 31 : Nat) : Int) from F.2.2.2 (27, 3, 31) (List.mem_of_getElem? (i := 33) rfl)]; exact Int.toNat_natCast _
theorem fp27_4 (F : IFx X H) : (zct H (X + 27) 4).toNat = X + 32 := by rw [show zct H (X + 27) 4 = ((X + 32 : Nat) : Int) from F.2.2.2 (27, 4, 32) (List.mem_of_getElem? (i := 34) rfl)]; exact Int.toNat_natCast _
theorem fp27_5 (F : IFx X H) : (zct H (X + 27) 5).toNat = X + 33 := by rw [show zct H (X + 27) 5 = ((X + 33 : Nat) : Int) from F.2.2.2 (27, 5, 33) (List.mem_of_getElem? (i := 35) rfl)]; exact Int.toNat_natCast _
end FX
def xg0 : List Nat := [1, 0, 1, 0, 10, 9, 0, 2, 0, 0, 3, 0, 4, 0, 0, 0, 0, 0, 0, 8]
def xgo : List Nat := [0, 1, 10, 2, 0, 11, 11, 11, 11, 11, 3, 4, 0, 5, 5, 5, 5, 5, 5, 12, 12, 12, 0, 6, 13, 13, 13, 0, 7, 7, 7, 7, 7, 7, 7, 7, 8]
/-- the group to which a fixed place belongs (0: a place that never changes) -/
def xg (o k : Nat) : Nat := if o = 0 then xg0.getD k 0 else if o = 4 then (if k = 0 then 11 else 0) else if o = 12 then (if k = 1 then 5 else 0) else if o = 22 then (if k < 4 then 6 else 0) else xgo.getD o 0
def rg0 : List Nat := [11, 1, 10, 99, 99, 99, 99, 99, 1, 99, 99, 99, 99, 99, 99, 9, 11, 99, 99, 99, 99, 99, 99, 99, 2, 99, 99, 99, 99, 99, 99, 99, 99, 99, 99, 99, 99, 99, 99, 99, 99, 99, 99, 3, 4, 99, 99, 99, 99, 99, 99, 99, 99, 99, 99, 99, 99, 11, 11, 11, 11, 11, 99, 99, 99, 5, 99, 99, 99, 99, 6, 99, 6, 6, 6, 99, 8, 99, 99, 99, 99, 99]
def rgs : List Nat := [99, 99, 99, 10, 10, 10, 10, 10, 99, 1, 10, 10, 10, 10, 10, 99, 99, 11, 11, 11, 10, 10, 10, 10, 99, 2, 10, 10, 10, 10, 10, 10, 10, 11, 11, 11, 11, 11, 11, 11, 11, 11, 3, 99, 99, 4, 4, 4, 4, 4, 4, 4, 4, 4, 4, 4, 4, 99, 99, 99, 99, 99, 11, 5, 10, 99, 5, 5, 5, 5, 99, 6, 99, 99, 99, 10, 99, 8, 7, 7, 7, 11]
/-- the group of a place of the reference: numbers by their field, rows by theirs (99: no place) -/
def rg (k j : Nat) : Nat := if k = 0 then rg0.getD j 99 else rgs.getD k 99
/-- which cells and rows are there, and of which length, is kept -/
def zst (H H' : zHp) : Prop := znx H ≤ znx H' ∧ zus H ≤ zus H' ∧ ∀ a, a ≤ znx H → ztg H' a = ztg H a ∧ zln H' a = zln H a
theorem zst.rf {H : zHp} : zst H H := ⟨Nat.le_refl _, Nat.le_refl _, fun _ _ => ⟨rfl, rfl⟩⟩
theorem zst.tr {H1 H2 H3 : zHp} (a : zst H1 H2) (b : zst H2 H3) : zst H1 H3 := ⟨Nat.le_trans a.1 b.1, Nat.le_trans a.2.1 b.2.1, fun q hq => by
  obtain ⟨e1, e2⟩ := a.2.2 q hq
  obtain ⟨e3, e4⟩ := b.2.2 q (Nat.le_trans hq a.1)
  exact ⟨e3.trans e1, e4.trans e2⟩⟩
theorem zst.wr {H H1 : zHp} (h : zst H H1) (a k : Nat) (v : Int) : zst H (zwr H1 a k v) := h.tr ⟨Nat.le_refl _, Nat.le_refl _, fun _ _ => ⟨rfl, rfl⟩⟩
theorem zst.cp {H H1 : zHp} (h : zst H H1) (a sp b dp n : Nat) : zst H (zcp H1 a sp b dp n) := h.tr ⟨Nat.le_refl _, Nat.le_refl _, fun _ _ => ⟨rfl, rfl⟩⟩
theorem zst.al {H H1 : zHp} (h : zst H H1) (t n : Nat) (f : Nat → Int) : zst H (zal H1 t n f) := h.tr ⟨by rw [znx_al]; omega, by rw [zus_al]; omega, fun q hq => by
  rw [ztg_al, zln_al, if_neg (by omega), if_neg (by omega)]
  exact ⟨rfl, rfl⟩⟩
/-- the fixed places but those of some groups are kept -/
def zfx (X : Nat) (gs : List Nat) (H H' : zHp) : Prop := ∀ o k, o ≤ 36 → gs.contains (xg o k) = false → zct H' (X + o) k = zct H (X + o) k
theorem zfx.rf {X : Nat} {gs : List Nat} {H : zHp} : zfx X gs H H := fun _ _ _ _ => rfl
theorem zfx.tr {X : Nat} {gs : List Nat} {H1 H2 H3 : zHp} (a : zfx X gs H1 H2) (b : zfx X gs H2 H3) : zfx X gs H1 H3 := fun o k h1 h2 => (b o k h1 h2).trans (a o k h1 h2)
theorem zfx.wr {X : Nat} {gs : List Nat} {H H1 : zHp} (h : zfx X gs H H1) {o k : Nat} {v : Int} (ho : gs.contains (xg o k) = true) : zfx X gs H (zwr H1 (X + o) k v) := h.tr fun o' k' h1 h2 => by
  rw [zct_wr, if_neg]
  rintro ⟨e1, e2⟩
  rw [show o' = o by omega, e2, ho] at h2
  cases h2
theorem zfx.wr0 {X : Nat} {gs : List Nat} {H H1 : zHp} (h : zfx X gs H H1) {k : Nat} {v : Int} (ho : gs.contains (xg 0 k) = true) : zfx X gs H (zwr H1 X k v) := h.wr (o := 0) ho
theorem zfx.wd {X : Nat} {gs : List Nat} {H H1 : zHp} (h : zfx X gs H H1) {a k : Nat} {v : Int} (ha : X + 36 < a) : zfx X gs H (zwr H1 a k v) := h.tr fun o' k' h1 h2 => by
  rw [zct_wr, if_neg (by omega)]
theorem zfx.al {X : Nat} {gs : List Nat} {H H1 : zHp} (h : zfx X gs H H1) {t n : Nat} {f : Nat → Int} (ha : X + 36 ≤ znx H1) : zfx X gs H (zal H1 t n f) := h.tr fun o' k' h1 h2 => by
  rw [zct_al, if_neg (by omega)]
/-- the cells ahead of and behind the fixed ones (the reference's rows too) are kept, but those in P -/
def zfd (X : Nat) (P : Nat → Prop) (H H' : zHp) : Prop := ∀ a, (a < X ∨ X + 36 < a) → a ≤ znx H → ¬ P a → ∀ k, zct H' a k = zct H a k
theorem zfd.rf {X : Nat} {P : Nat → Prop} {H : zHp} : zfd X P H H := fun _ _ _ _ _ => rfl
theorem zfd.tr {X : Nat} {P : Nat → Prop} {H1 H2 H3 : zHp} (a : zfd X P H1 H2) (n : znx H1 ≤ znx H2) (b : zfd X P H2 H3) : zfd X P H1 H3 := fun q h1 h2 h3 k => (b q h1 (Nat.le_trans h2 n) h3 k).trans (a q h1 h2 h3 k)
theorem zfd.wr {X : Nat} {P : Nat → Prop} {H H1 : zHp} (h : zfd X P H H1) {o k : Nat} {v : Int} (ho : o ≤ 36) : zfd X P H (zwr H1 (X + o) k v) := fun q h1 h2 h3 k' => by
  rw [zct_wr, if_neg (by omega)]
  exact h q h1 h2 h3 k'
theorem zfd.wr0 {X : Nat} {P : Nat → Prop} {H H1 : zHp} (h : zfd X P H H1) {k : Nat} {v : Int} : zfd X P H (zwr H1 X k v) := h.wr (o := 0) (by omega)
theorem zfd.wd {X : Nat} {P : Nat → Prop} {H H1 : zHp} (h : zfd X P H H1) {a k : Nat} {v : Int} (ha : P a) : zfd X P H (zwr H1 a k v) := fun q h1 h2 h3 k' => by
  rw [zct_wr, if_neg (show ¬ (q = a ∧ k' = k) from fun e => h3 (by rw [e.1]; exact ha))]
  exact h q h1 h2 h3 k'
theorem zfd.al {X : Nat} {P : Nat → Prop} {H H1 : zHp} (h : zfd X P H H1) (n : znx H ≤ znx H1) {t m : Nat} {f : Nat → Int} : zfd X P H (zal H1 t m f) := fun q h1 h2 h3 k' => by
  rw [zct_al, if_neg (by omega)]
  exact h q h1 h2 h3 k'
/-- the reference's places but those of some groups are kept -/
def zfs (gs : List Nat) (s s' : zSg) : Prop := ∀ k j, gs.contains (rg k j) = false → s' k j = s k j
theorem zfs.rf {gs : List Nat} {s : zSg} : zfs gs s s := fun _ _ _ => rfl
theorem zfs.tr {gs : List Nat} {s1 s2 s3 : zSg} (a : zfs gs s1 s2) (b : zfs gs s2 s3) : zfs gs s1 s3 := fun k j h => (b k j h).trans (a k j h)
theorem zfs.up0 {gs : List Nat} {s s1 : zSg} (h : zfs gs s s1) {j : Nat} {v : Int} (ho : gs.contains (rg 0 j) = true) : zfs gs s (zup s1 0 j v) := fun k' j' h2 => by
  unfold zup
  rw [if_neg]
  · exact h k' j' h2
  · rintro ⟨rfl, rfl⟩
    rw [ho] at h2
    cases h2
theorem zfs.up {gs : List Nat} {s s1 : zSg} (h : zfs gs s s1) {k j : Nat} {v : Int} (hk : k ≠ 0) (ho : gs.contains (rgs.getD k 99) = true) : zfs gs s (zup s1 k j v) := fun k' j' h2 => by
  unfold zup
  rw [if_neg]
  · exact h k' j' h2
  · rintro ⟨rfl, rfl⟩
    unfold rg at h2
    rw [if_neg hk, ho] at h2
    cases h2
theorem xPtr_0 : xPtr.all (fun q => xg q.1 q.2.1 == 0 && Nat.ble q.1 36) = true := by decide +kernel
theorem xTab_36 : xTab.all (fun q => Nat.ble q.1 36) = true := by decide +kernel
theorem IFx.fr {X : Nat} {H H' : zHp} {gs : List Nat} (F : IFx X H) (h1 : zst H H') (h2 : zfx X gs H H') (h0 : gs.contains 0 = false) : IFx X H' := by
  refine ⟨F.1, ⟨Nat.le_trans F.2.1.1 h1.1, by rw [(h1.2.2 0 (Nat.zero_le _)).1]; exact F.2.1.2⟩, fun q hq => ?_, fun q hq => ?_⟩
  · have := Nat.le_of_ble_eq_true (List.all_eq_true.mp xTab_36 q hq)
    have hn := F.2.1.1
    obtain ⟨e1, e2⟩ := h1.2.2 (X + q.1) (by omega)
    rw [e1, e2]
    exact F.2.2.1 q hq
  · have := List.all_eq_true.mp xPtr_0 q hq
    rw [Bool.and_eq_true, beq_iff_eq] at this
    rw [h2 _ _ (Nat.le_of_ble_eq_true this.2) (by rw [this.1]; exact h0)]
    exact F.2.2.2 q hq
def zcx (X : Nat) (H : zHp) : Nat → Nat → Int := fun o k => zct H (X + o) k
def zsum (f : Nat → Int) : Nat → Int
  | 0 => 0
  | n + 1 => zsum f n + f n
/-- a note as the class tells it in one number -/
def ncode (p l t : Int) : Int := (if p = -1000 then 0 else 1000 * (p + 100)) + 2 * l + t
def sh (f : Nat → Int) (o : Nat) : Nat → Int := fun i => f (o + i)
/-! the groups of the fixed places -/
def G1 (c : Nat → Nat → Int) (s : zSg) : Prop := c 0 0 = s 0 1 ∧ 0 ≤ s 0 1 ∧ s 0 1 ≤ 9999 ∧ c 0 2 = s 0 8 ∧ 0 ≤ s 0 8 ∧ s 0 8 ≤ 12 ∧ (∀ a : Nat, (a : Int) < s 0 8 → c 1 a = s 9 a ∧ -1 ≤ s 9 a ∧ s 9 a ≤ 9999) ∧ ∀ a : Nat, s 0 8 ≤ (a : Int) → a < 12 → s 9 a = -1
def G2 (c : Nat → Nat → Int) (s : zSg) (A : Nat → Nat) : Prop := c 0 7 = s 0 24 ∧ 0 ≤ s 0 24 ∧ s 0 24 ≤ 12 ∧ ∀ k : Nat, (k : Int) < s 0 24 → c 3 k = ((A (s 25 k).toNat : Nat) : Int) ∧ 0 ≤ s 25 k
def G3 (c : Nat → Nat → Int) (s : zSg) : Prop := c 0 10 = s 0 43 ∧ 0 ≤ s 0 43 ∧ s 0 43 ≤ 120 ∧ ∀ k : Nat, (k : Int) < s 0 43 → c 10 k = s 42 k % 256 ∧ -128 ≤ s 42 k ∧ s 42 k < 128
def G5 (c : Nat → Nat → Int) (s : zSg) : Prop := (∀ i, i < 36 → c 13 i = s 63 i ∧ 0 ≤ s 63 i ∧ s 63 i ≤ 99) ∧ (∀ i, i < 6 → s 63 (7 * i) = 0) ∧ c 12 1 = s 0 65 ∧ 0 ≤ s 0 65 ∧ s 0 65 ≤ 9 ∧
  (∀ k : Nat, (k : Int) < s 0 65 → (c 14 k = s 66 k ∧ c 15 k = s 67 k ∧ c 16 k = s 68 k ∧ c 17 k = s 69 k) ∧ (0 ≤ s 66 k ∧ s 66 k ≤ 5) ∧ (0 ≤ s 67 k ∧ s 67 k ≤ 9999) ∧ (s 67 k ≤ s 68 k ∧ s 68 k ≤ 9999) ∧ 0 ≤ s 69 k ∧ s 69 k ≤ 999) ∧
  (∀ p : Nat, (p : Int) < s 0 65 → 0 ≤ c 18 p ∧ c 18 p < s 0 65) ∧ ∀ p q : Nat, p < q → (q : Int) < s 0 65 → s 67 (c 18 p).toNat < s 67 (c 18 q).toNat ∨ (s 67 (c 18 p).toNat = s 67 (c 18 q).toNat ∧ c 18 p < c 18 q)
def G6 (c : Nat → Nat → Int) (s : zSg) : Prop := (c 22 0 = s 0 72 ∧ c 22 1 = s 0 73 ∧ c 22 2 = s 0 74 ∧ c 22 3 = s 0 70) ∧ (0 ≤ s 0 72 ∧ s 0 72 ≤ 9999) ∧ (0 ≤ s 0 73 ∧ s 0 73 ≤ 99) ∧ (1 ≤ s 0 74 ∧ s 0 74 ≤ 9999) ∧ (0 ≤ s 0 70 ∧ s 0 70 ≤ 10) ∧ ∀ k : Nat, (k : Int) < s 0 70 → c 23 k = s 71 k ∧ 0 ≤ s 71 k ∧ s 71 k ≤ 999
def G7 (c : Nat → Nat → Int) (s : zSg) : Prop := ∀ t, t < 6 → (c 34 t = s 78 t ∧ -1 ≤ s 78 t ∧ s 78 t ≤ 3) ∧ (c 35 t = s 79 t ∧ 0 ≤ s 79 t ∧ s 79 t ≤ 60 ∧ (s 78 t = -1 → s 79 t = 0)) ∧ ∀ i, i < 60 → c (28 + t) i = s 80 (60 * t + i) ∧ zR32 (s 80 (60 * t + i)) ∧ (s 78 t = 1 → -32768 ≤ s 80 (60 * t + i) ∧ s 80 (60 * t + i) < 32768)
def G8 (c : Nat → Nat → Int) (s : zSg) : Prop := c 0 19 = s 0 76 ∧ 0 ≤ s 0 76 ∧ s 0 76 ≤ 1000 ∧ ∀ i : Nat, i < 20 → (i : Int) < s 0 76 → c 36 i = s 77 i
def G9 (c : Nat → Nat → Int) (s : zSg) : Prop := c 0 5 = s 0 15 ∧ -1 ≤ s 0 15 ∧ s 0 15 ≤ 3
def G10 (c : Nat → Nat → Int) (s : zSg) (A : Nat → Nat) : Prop := c 0 4 = s 0 2 ∧ 0 ≤ s 0 2 ∧ s 0 2 ≤ 60 ∧ ∀ t : Nat, (t : Int) < s 0 2 → c 2 t = ((A t : Nat) : Int)
/-! the things -/
def My (X : Nat) (H : zHp) (ow : Nat → Nat × Nat) (a own sub : Nat) : Prop := X + 99 < a ∧ a ≤ znx H ∧ ow a = (own, sub)
def BarO (X : Nat) (H : zHp) (ow : Nat → Nat × Nat) (b own j : Nat) : Prop := My X H ow b own (10 + 2 * j) ∧ My X H ow (b + 1) own (11 + 2 * j) ∧ ztg H b = 1 ∧ zct H b 0 = ((b + 1 : Nat) : Int) ∧ ztg H (b + 1) = 30 ∧ zln H (b + 1) = 8
def BarV (H : zHp) (b : Nat) (m : Int) (P L T : Nat → Int) : Prop := zct H b 1 = m ∧ zct H b 2 = zsum L m.toNat ∧ m ≤ 8 ∧ ∀ i : Nat, (i : Int) < m → zct H (b + 1) i = ncode (P i) (L i) (T i)
section TO
variable (X : Nat) (H : zHp) (s : zSg) (A : Nat → Nat) (B : Nat → Nat → Nat) (ow : Nat → Nat × Nat) (t : Nat)
def TOs : Prop := (My X H ow (A t) (t + 1) 0 ∧ My X H ow (A t + 1) (t + 1) 1 ∧ My X H ow (A t + 2) (t + 1) 2) ∧
  (ztg H (A t) = 9 ∧ zct H (A t) 0 = s 3 t ∧ zct H (A t) 1 = (t : Int) ∧ zct H (A t) 3 = s 7 t ∧ zct H (A t) 4 = s 5 t ∧ zct H (A t) 5 = s 6 t ∧ zct H (A t) 6 = ((A t + 1 : Nat) : Int) ∧ zct H (A t) 7 = ((A t + 2 : Nat) : Int)) ∧
  zct H (A t) 2 = (if s 3 t = 1 then 0 else ((A (s 4 t).toNat : Nat) : Int)) ∧
  (ztg H (A t + 1) = 36 ∧ zln H (A t + 1) = 80 ∧ ztg H (A t + 2) = 30 ∧ zln H (A t + 2) = 4) ∧
  ∀ v, v < 4 → zct H (A t + 2) v = s 14 (4 * t + v) ∧ ∀ b : Nat, (b : Int) < s 14 (4 * t + v) → zct H (A t + 1) (20 * v + b) = ((B t (20 * v + b) : Nat) : Int) ∧ BarO X H ow (B t (20 * v + b)) (t + 1) (20 * v + b) ∧
    BarV H (B t (20 * v + b)) (s 13 (80 * t + 20 * v + b)) (sh (s 10) (8 * (80 * t + 20 * v + b))) (sh (s 11) (8 * (80 * t + 20 * v + b))) (sh (s 12) (8 * (80 * t + 20 * v + b)))
def TOp : Prop := My X H ow (A t) (t + 1) 0 ∧ (ztg H (A t) = 6 ∧ zct H (A t) 0 = s 3 t ∧ zct H (A t) 1 = (t : Int) ∧ zct H (A t) 2 = ((A (s 4 t).toNat : Nat) : Int) ∧ zct H (A t) 3 = s 5 t ∧ zct H (A t) 4 = s 6 t ∧ zct H (A t) 5 = s 64 t ∧ zct H (A t) 6 = ((B t 0 : Nat) : Int)) ∧ BarO X H ow (B t 0) (t + 1) 0
def TOl : Prop := (My X H ow (A t) (t + 1) 0 ∧ My X H ow (A t + 1) (t + 1) 1 ∧ My X H ow (A t + 2) (t + 1) 2) ∧
  (ztg H (A t) = 7 ∧ zct H (A t) 0 = s 3 t ∧ zct H (A t) 1 = (t : Int) ∧ zct H (A t) 2 = ((A (s 4 t).toNat : Nat) : Int) ∧ zct H (A t) 3 = s 5 t ∧ zct H (A t) 4 = ((A t + 2 : Nat) : Int) ∧ zct H (A t) 5 = ((A t + 1 : Nat) : Int)) ∧
  (ztg H (A t + 1) = 30 ∧ zln H (A t + 1) = 4 ∧ ztg H (A t + 2) = 36 ∧ zln H (A t + 2) = (s 6 t).toNat) ∧
  (∀ k, k < 4 → zct H (A t + 1) k = s 75 (4 * t + k)) ∧
  ∀ k : Nat, (k : Int) < s 6 t → zct H (A t + 2) k = ((B t k : Nat) : Int) ∧ BarO X H ow (B t k) (t + 1) k ∧ BarV H (B t k) (s 23 (8 * t + k)) (sh (s 20) (64 * t + 8 * k)) (sh (s 21) (64 * t + 8 * k)) (sh (s 22) (64 * t + 8 * k))
def TOe : Prop := (My X H ow (A t) (t + 1) 0 ∧ My X H ow (A t + 1) (t + 1) 1 ∧ My X H ow (A t + 2) (t + 1) 2 ∧ My X H ow (A t + 3) (t + 1) 3 ∧ My X H ow (A t + 4) (t + 1) 4) ∧
  (ztg H (A t) = 3 ∧ zct H (A t) 0 = s 3 t ∧ zct H (A t) 1 = (t : Int) ∧ zct H (A t) 2 = ((A (s 4 t).toNat : Nat) : Int) ∧ zct H (A t) 3 = s 5 t ∧ zct H (A t) 5 = ((A t + 1 : Nat) : Int) ∧ zct H (A t) 6 = ((A t + 4 : Nat) : Int)) ∧
  ((zct H (A t) 7 = ((A t + 2 : Nat) : Int) ∧ zct H (A t) 8 = ((A t + 3 : Nat) : Int)) ∨ (zct H (A t) 7 = ((A t + 3 : Nat) : Int) ∧ zct H (A t) 8 = ((A t + 2 : Nat) : Int))) ∧
  (ztg H (A t + 1) = 36 ∧ zln H (A t + 1) = 80 ∧ ztg H (A t + 2) = 30 ∧ zln H (A t + 2) = 21 ∧ ztg H (A t + 3) = 30 ∧ zln H (A t + 3) = 21 ∧ ztg H (A t + 4) = 30 ∧ zln H (A t + 4) = t) ∧
  ∀ j, j < 80 → zct H (A t + 1) j = (if s 29 (80 * t + j) < 0 then 0 else ((B t j : Nat) : Int)) ∧ (0 ≤ s 29 (80 * t + j) → BarO X H ow (B t j) (t + 1) j ∧ BarV H (B t j) (s 29 (80 * t + j)) (sh (s 26) (8 * (80 * t + j))) (sh (s 27) (8 * (80 * t + j))) (sh (s 28) (8 * (80 * t + j))))
def TOr : Prop := My X H ow (A t) (t + 1) 0 ∧ (ztg H (A t) = 4 ∧ zct H (A t) 0 = s 3 t ∧ zct H (A t) 1 = (t : Int) ∧ zct H (A t) 2 = ((A (s 4 t).toNat : Nat) : Int) ∧ zct H (A t) 3 = (s 5 t * 20 + s 6 t) * 8 + s 32 t ∧ zct H (A t) 4 = s 30 t ∧ zct H (A t) 5 = s 31 t)
def TO : Prop := (s 3 t = 1 ∨ s 3 t = 6 → TOs X H s A B ow t) ∧ (s 3 t = 2 ∨ s 3 t = 5 → TOp X H s A B ow t) ∧ (s 3 t = 3 → TOl X H s A B ow t) ∧ (s 3 t = 4 → TOe X H s A B ow t) ∧ (s 3 t = 7 → TOr X H s A ow t)
end TO
/-- the reference's places of thing t are the same -/
def zts (t : Nat) (s s' : zSg) : Prop := (∀ k, k = 3 ∨ k = 4 ∨ k = 5 ∨ k = 6 ∨ k = 7 ∨ k = 30 ∨ k = 31 ∨ k = 32 ∨ k = 64 → s' k t = s k t) ∧ (∀ v, v < 4 → s' 14 (4 * t + v) = s 14 (4 * t + v) ∧ s' 75 (4 * t + v) = s 75 (4 * t + v)) ∧ (∀ j, j < 8 → s' 23 (8 * t + j) = s 23 (8 * t + j)) ∧ (∀ k, k = 20 ∨ k = 21 ∨ k = 22 → ∀ j, j < 64 → s' k (64 * t + j) = s k (64 * t + j)) ∧
  (∀ k, k = 13 ∨ k = 29 → ∀ j, j < 80 → s' k (80 * t + j) = s k (80 * t + j)) ∧ ∀ k, k = 10 ∨ k = 11 ∨ k = 12 ∨ k = 26 ∨ k = 27 ∨ k = 28 → ∀ j, j < 640 → s' k (640 * t + j) = s k (640 * t + j)
theorem zts.rf {t : Nat} {s : zSg} : zts t s s := ⟨fun _ _ => rfl, fun _ _ => ⟨rfl, rfl⟩, fun _ _ => rfl, fun _ _ _ _ => rfl, fun _ _ _ _ => rfl, fun _ _ _ _ => rfl⟩
theorem zts.of {gs : List Nat} {t : Nat} {s s' : zSg} (h : zfs gs s s') (h10 : gs.contains 10 = false) : zts t s s' :=
  ⟨fun k hk => h k t (by rcases hk with w | w | w | w | w | w | w | w | w <;> subst w <;> exact h10), fun v _ => ⟨h 14 _ h10, h 75 _ h10⟩, fun j _ => h 23 _ h10, fun k hk j _ => h k _ (by rcases hk with w | w | w <;> subst w <;> exact h10), fun k hk j _ => h k _ (by rcases hk with w | w <;> subst w <;> exact h10), fun k hk j _ => h k _ (by rcases hk with w | w | w | w | w | w <;> subst w <;> exact h10)⟩
