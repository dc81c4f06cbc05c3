/-! GROUND OF THE MATHEMATICS: what a function comes to, as a formula; whole numbers without a wrap -/
theorem ybd_s {St α β : Type} {v : β} {h : St} {f : β → St → Option (α × St)} : ybd (some (v, h)) f = f v h := rfl
def wX {St α : Type} (o : Option (α × St)) (Q : α → St → Prop) : Prop := ∃ v s, o = some (v, s) ∧ Q v s
section WX
variable {St α β A : Type} {v : α} {s : St} {o : Option (α × St)} {ob : Option (β × St)} {Q : α → St → Prop}
theorem wX_s : wX (some (v, s)) Q ↔ Q v s := ⟨fun ⟨_, _, e, q⟩ => (by cases e; exact q), fun q => ⟨_, _, rfl, q⟩⟩
theorem wX_n : wX (none : Option (α × St)) Q ↔ False := ⟨fun ⟨_, _, e, _⟩ => (by cases e), fun q => q.elim⟩
theorem wX_bd {f : β → St → Option (α × St)} : wX (ybd ob f) Q ↔ wX ob (fun v s => wX (f v s) Q) := by
  cases ob with
  | none => exact ⟨fun ⟨_, _, e, _⟩ => (by cases e), fun ⟨_, _, e, _⟩ => (by cases e)⟩
  | some q => obtain ⟨v, s⟩ := q; exact ⟨fun w => (wX_s (v := v) (s := s)).mpr w, fun w => (wX_s (v := v) (s := s)).mp w⟩
theorem wX_vl {B : Sort _} {a : B} {f : B → Option (α × St)} : wX (yvl a f) Q ↔ wX (f a) Q := Iff.rfl
theorem wX_jn {B : Sort _} {a : B} {f : B → Option (α × St)} : wX (yjn a f) Q ↔ wX (f a) Q := Iff.rfl
theorem wX_ite {c : Prop} [Decidable c] {a b : Option (α × St)} : wX (if c then a else b) Q ↔ if c then wX a Q else wX b Q := by
  by_cases h : c
  · rw [if_pos h, if_pos h]
  · rw [if_neg h, if_neg h]
theorem wX_g {c : Prop} [Decidable c] : wX (if c then o else none) Q ↔ c ∧ wX o Q := by
  by_cases h : c
  · rw [if_pos h]; exact ⟨fun q => ⟨h, q⟩, fun q => q.2⟩
  · rw [if_neg h]; exact ⟨fun q => (wX_n.mp q).elim, fun q => absurd q.1 h⟩
theorem wX_m {P : α → St → Prop} (h : wX o P) (k : ∀ v s, P v s → Q v s) : wX o Q := by
  obtain ⟨v, s, e, q⟩ := h
  exact ⟨v, s, e, k v s q⟩
theorem wX_e {v : α} {s : St} (h : o = some (v, s)) (q : Q v s) : wX o Q := ⟨v, s, h, q⟩
theorem wX_dv {y : Int} : wX (ydv y o) Q ↔ y ≠ 0 ∧ wX o Q := by
  unfold ydv
  by_cases h : y = 0
  · rw [if_pos h]; exact ⟨fun q => (wX_n.mp q).elim, fun q => absurd h q.1⟩
  · rw [if_neg h]; exact ⟨fun q => ⟨h, q⟩, fun q => q.2⟩
theorem wX_n0 {r : Nat} : wX (yn0 r o) Q ↔ 0 < r ∧ wX o Q := wX_g
theorem wX_rb {v : Int} {Q : Int → St → Prop} : wX (yrb v s) Q ↔ (v = 0 ∨ v = 1) ∧ Q v s := wX_g.trans (and_congr Iff.rfl wX_s)
theorem wX_rc {v : Int} {Q : Int → St → Prop} : wX (yrc v s) Q ↔ (0 ≤ v ∧ v < 65536) ∧ Q v s := wX_g.trans (and_congr Iff.rfl wX_s)
theorem wX_ry {v : Int} {Q : Int → St → Prop} : wX (yry v s) Q ↔ (-128 ≤ v ∧ v < 128) ∧ Q v s := wX_g.trans (and_congr Iff.rfl wX_s)
end WX
section WH
variable {α : Type} {c k r n p a b : Nat} {v j x sp dp : Int} {h : zHp} {o : Option (α × zHp)} {Q : α → zHp → Prop} {KI : Int → Option (α × zHp)} {KN : Nat → Option (α × zHp)} {KH : zHp → Option (α × zHp)} {KP : Nat → zHp → Option (α × zHp)}
theorem wX_gi : wX (ygi c k r h KI) Q ↔ zisA c (ztg h r) = true ∧ wX (KI (zct h r k)) Q := wX_g
theorem wX_gr : wX (ygr c k r h KN) Q ↔ zisA c (ztg h r) = true ∧ wX (KN (zct h r k).toNat) Q := wX_g
theorem wX_pi : wX (ypi c k r v h KH) Q ↔ zisA c (ztg h r) = true ∧ wX (KH (zwr h r k v)) Q := wX_g
theorem wX_pz : wX (ypz c k r v h KH) Q ↔ (zisA c (ztg h r) = true ∧ (v = 0 ∨ v = 1)) ∧ wX (KH (zwr h r k v)) Q := wX_g
theorem wX_pr : wX (ypr c k r p h KH) Q ↔ zisA c (ztg h r) = true ∧ wX (KH (zwr h r k (p : Int))) Q := wX_g
theorem wX_ai : wX (yai r j h KI) Q ↔ ((ztg h r = 30 ∨ ztg h r = 40) ∧ 0 ≤ j ∧ j < (zln h r : Int)) ∧ wX (KI (zct h r j.toNat)) Q := wX_g
theorem wX_ab : wX (yab r j h KI) Q ↔ ((ztg h r = 31 ∨ ztg h r = 32 ∨ ztg h r = 41) ∧ 0 ≤ j ∧ j < (zln h r : Int)) ∧ wX (KI (zct h r j.toNat)) Q := wX_g
theorem wX_ar : wX (yar r j h KN) Q ↔ ((33 ≤ ztg h r ∧ ztg h r ≤ 37) ∧ 0 ≤ j ∧ j < (zln h r : Int)) ∧ wX (KN (zct h r j.toNat).toNat) Q := wX_g
theorem wX_si : wX (ysi r j v h KH) Q ↔ (ztg h r = 30 ∧ 0 ≤ j ∧ j < (zln h r : Int)) ∧ wX (KH (zwr h r j.toNat v)) Q := wX_g
theorem wX_sz : wX (ysz r j v h KH) Q ↔ (ztg h r = 31 ∧ (v = 0 ∨ v = 1) ∧ 0 ≤ j ∧ j < (zln h r : Int)) ∧ wX (KH (zwr h r j.toNat v)) Q := wX_g
theorem wX_sb : wX (ysb r j v h KH) Q ↔ (ztg h r = 32 ∧ 0 ≤ j ∧ j < (zln h r : Int)) ∧ wX (KH (zwr h r j.toNat (zi2b v))) Q := wX_g
theorem wX_sr : wX (ysr r j p h KH) Q ↔ ((zmay (ztg h r) (ztg h p) = true) ∧ 0 ≤ j ∧ j < (zln h r : Int)) ∧ wX (KH (zwr h r j.toNat (p : Int))) Q := wX_g
theorem wX_ln : wX (yln r h KI) Q ↔ (30 ≤ ztg h r ∧ ztg h r ≤ 41) ∧ wX (KI (zln h r : Int)) Q := wX_g
theorem wX_nw : wX (ynw c n h KP) Q ↔ wX (KP (znx h + 1) (zal h (c + 1) n (fun _ => 0))) Q := Iff.rfl
theorem wX_na : wX (yna n x h KP) Q ↔ (0 ≤ x ∧ x ≤ 100000) ∧ wX (KP (znx h + 1) (zal h n x.toNat (fun _ => 0))) Q := wX_g
theorem wX_nm : wX (ynm x j h KP) Q ↔ (0 ≤ x ∧ x ≤ 10 ∧ 0 ≤ j ∧ j ≤ 100000) ∧ wX (KP (znx h + 1) (zmul2 h x.toNat j.toNat)) Q := wX_g
theorem wX_io : wX (yio c r h KI) Q ↔ (r = 0 ∨ zisA 20 (ztg h r) = true) ∧ wX (KI (if zisA c (ztg h r) = true then 1 else 0)) Q := wX_g
theorem wX_ck : wX (yck c r h o) Q ↔ zisA c (ztg h r) = true ∧ wX o Q := wX_g
theorem wX_cp : wX (ycp a sp b dp x h KH) Q ↔ (ztg h a = 30 ∧ ztg h b = 30 ∧ 0 ≤ sp ∧ 0 ≤ dp ∧ 0 ≤ x ∧ sp + x ≤ (zln h a : Int) ∧ dp + x ≤ (zln h b : Int)) ∧ wX (KH (zcp h a sp.toNat b dp.toNat x.toNat)) Q := wX_g
theorem wX_cl : wX (ycl r h KP) Q ↔ ztg h r = 30 ∧ wX (KP (znx h + 1) (zal h 30 (zln h r) (fun k => zct h r k))) Q := wX_g
theorem wX_ca : wX (yca r h o) Q ↔ ztg h r = 30 ∧ wX o Q := wX_g
theorem wX_sv : wX (ysv r h KN) Q ↔ ztg h r = 50 ∧ wX (KN (zct h r 0).toNat) Q := wX_g
theorem wX_sc : wX (ysc r h KI) Q ↔ ztg h r = 50 ∧ wX (KI 0) Q := wX_g
end WH
section WR
variable {α : Type} {k n : Nat} {v j : Int} {s : zSg} {Q : α → zSg → Prop} {KI : Int → Option (α × zSg)} {KH : zSg → Option (α × zSg)}
theorem wX_rd : wX (yrd n k j s KI) Q ↔ (0 ≤ j ∧ j < (n : Int)) ∧ wX (KI (s k j.toNat)) Q := wX_g
theorem wX_wi : wX (ywi n k j v s KH) Q ↔ (0 ≤ j ∧ j < (n : Int)) ∧ wX (KH (zup s k j.toNat v)) Q := wX_g
theorem wX_wz : wX (ywz n k j v s KH) Q ↔ ((v = 0 ∨ v = 1) ∧ 0 ≤ j ∧ j < (n : Int)) ∧ wX (KH (zup s k j.toNat v)) Q := wX_g
theorem wX_wb : wX (ywb n k j v s KH) Q ↔ (0 ≤ j ∧ j < (n : Int)) ∧ wX (KH (zup s k j.toNat (zi2b v))) Q := wX_g
end WR
/-! whole numbers -/
theorem zbm {x : Int} (h : zR32 x) : x.bmod 4294967296 = x := Int.bmod_eq_of_le_mul_two (by have := h.1; omega) (by have := h.2; omega)
theorem zof {x : Int} (h : zR32 x) : (Int32.ofInt x).toInt = x := by
  rw [Int32.toInt_ofInt]
  exact zbm h
theorem zadd_w (x y : Int) : zadd x y = (x + y).bmod 4294967296 := by
  unfold zadd
  rw [Int32.toInt_add, Int32.toInt_ofInt, Int32.toInt_ofInt]
  show (x.bmod 4294967296 + y.bmod 4294967296).bmod 4294967296 = _
  rw [Int.bmod_add_bmod, Int.add_bmod_bmod]
theorem zsub_w (x y : Int) : zsub x y = (x - y).bmod 4294967296 := by
  unfold zsub
  rw [Int32.toInt_sub, Int32.toInt_ofInt, Int32.toInt_ofInt]
  show (x.bmod 4294967296 - y.bmod 4294967296).bmod 4294967296 = _
  rw [Int.bmod_sub_bmod, Int.sub_bmod_bmod]
theorem zmul_w (x y : Int) : zmul x y = (x * y).bmod 4294967296 := by
  unfold zmul
  rw [Int32.toInt_mul, Int32.toInt_ofInt, Int32.toInt_ofInt]
  show (x.bmod 4294967296 * y.bmod 4294967296).bmod 4294967296 = _
  rw [Int.bmod_mul_bmod, Int.mul_bmod_bmod]
theorem zneg_w (x : Int) : zneg x = (-x).bmod 4294967296 := by
  unfold zneg
  rw [Int32.toInt_neg, Int32.toInt_ofInt]
  show (- x.bmod 4294967296).bmod 4294967296 = _
  rw [← Int.zero_sub, Int.sub_bmod_bmod, Int.zero_sub]
theorem zadd_e {x y : Int} (h1 : -2147483648 ≤ x + y) (h2 : x + y < 2147483648) : zadd x y = x + y := (zadd_w x y).trans (zbm ⟨h1, h2⟩)
theorem zsub_e {x y : Int} (h1 : -2147483648 ≤ x - y) (h2 : x - y < 2147483648) : zsub x y = x - y := (zsub_w x y).trans (zbm ⟨h1, h2⟩)
theorem zmul_e {x y : Int} (h1 : -2147483648 ≤ x * y) (h2 : x * y < 2147483648) : zmul x y = x * y := (zmul_w x y).trans (zbm ⟨h1, h2⟩)
theorem zneg_e {x : Int} (h1 : -2147483648 ≤ -x) (h2 : -x < 2147483648) : zneg x = -x := (zneg_w x).trans (zbm ⟨h1, h2⟩)
theorem zr_add (x y : Int) : zR32 (zadd x y) := zr_i _
theorem zr_sub (x y : Int) : zR32 (zsub x y) := zr_i _
theorem zr_mul (x y : Int) : zR32 (zmul x y) := zr_i _
theorem zdiv_e {x y : Int} (hx : zR32 x) (h0 : 0 ≤ x) (hy : 0 < y) (hy2 : y < 2147483648) : zdiv x y = x / y := by
  unfold zdiv
  rw [Int32.toInt_div, zof hx, zof ⟨by omega, hy2⟩, Int.tdiv_eq_ediv_of_nonneg h0]
  have h1 : 0 ≤ x / y := Int.ediv_nonneg h0 (by omega)
  have h2 : x / y ≤ x := Int.ediv_le_self _ h0
  exact zbm ⟨by omega, by have := hx.2; omega⟩
theorem zrem_e {x y : Int} (hx : zR32 x) (h0 : 0 ≤ x) (hy : 0 < y) (hy2 : y < 2147483648) : zrem x y = x % y := by
  have hq := zdiv_e hx h0 hy hy2
  unfold zdiv at hq
  unfold zrem
  have h1 : 0 ≤ x / y := Int.ediv_nonneg h0 (by omega)
  have h2 : x / y ≤ x := Int.ediv_le_self _ h0
  have h3 := Int.mul_ediv_add_emod x y
  have h4 := Int.emod_nonneg x (show y ≠ 0 by omega)
  have h5 := Int.emod_lt_of_pos x hy
  have h6 : 0 ≤ x / y * y := Int.mul_nonneg h1 (by omega)
  have h7 : x / y * y = x - x % y := by rw [Int.mul_comm]; omega
  rw [Int32.toInt_sub, Int32.toInt_mul, hq, zof hx, zof ⟨by omega, hy2⟩]
  show (x - (x / y * y).bmod 4294967296).bmod 4294967296 = _
  rw [zbm (x := x / y * y) ⟨by omega, by have := hx.2; omega⟩, h7, show x - (x - x % y) = x % y by omega]
  exact zbm ⟨by omega, by omega⟩
theorem zi2l_e {x : Int} (h : zR32 x) : zi2l x = x := by
  unfold zi2l
  rw [Int32.toInt_toInt64]
  exact zof h
theorem i01 {c : Prop} [Decidable c] : ((if c then (1 : Int) else 0) = 0) ↔ ¬ c := by
  by_cases h : c <;> simp [h]
theorem i10 {c : Prop} [Decidable c] : ((if c then (1 : Int) else 0) = 1) ↔ c := by
  by_cases h : c <;> simp [h]
theorem yrb_i {St : Type} {c : Prop} [Decidable c] {s : St} : yrb (if c then 1 else 0) s = some (if c then 1 else 0, s) := by
  unfold yrb
  by_cases h : c <;> simp [h]
theorem zFU_e : zFU = 1000000 := rfl
theorem zA0 : zisA 0 1 = true := rfl
theorem zA1 : zisA 1 2 = true := rfl
theorem zA2 : zisA 2 3 = true := rfl
theorem zA3 : zisA 3 4 = true := rfl
theorem zA4 : zisA 4 5 = true := rfl
theorem zA5 : zisA 5 6 = true := rfl
theorem zA6 : zisA 6 7 = true := rfl
theorem zA7 : zisA 7 8 = true := rfl
theorem zA8 : zisA 8 9 = true := rfl
theorem zA9 : zisA 9 10 = true := rfl
theorem zA10 : zisA 10 11 = true := rfl
theorem zA11 : zisA 11 12 = true := rfl
/-! what a number may be -/
theorem e_within {v a b : Int} {s : zHp} : fH_within v a b s = some (if a ≤ v ∧ v ≤ b then 1 else 0, s) := by
  unfold fH_within
  by_cases h1 : v < a
  · rw [if_pos h1, if_neg (by omega)]
  · rw [if_neg h1]
    by_cases h2 : b < v
    · rw [if_pos h2, if_neg (by omega)]
    · rw [if_neg h2, if_pos (by omega)]
theorem e_in {v a b : Int} {s : zSg} : gM_in v a b s = some (if a ≤ v ∧ v ≤ b then 1 else 0, s) := by
  unfold gM_in
  by_cases h1 : v < a
  · rw [if_pos h1, if_neg (by omega)]
  · rw [if_neg h1]
    by_cases h2 : b < v
    · rw [if_pos h2, if_neg (by omega)]
    · rw [if_neg h2, if_pos (by omega)]
theorem e_isDay {v : Int} {s : zHp} : fH_isDay v s = some (if 0 ≤ v ∧ v ≤ 9999 then 1 else 0, s) := by unfold fH_isDay; rw [e_within, ybd_s, yrb_i]
theorem e_isMeter {v : Int} {s : zHp} : fH_isMeter v s = some (if 2 ≤ v ∧ v ≤ 12 then 1 else 0, s) := by unfold fH_isMeter; rw [e_within, ybd_s, yrb_i]
theorem e_isTown {v : Int} {s : zHp} : fH_isTown v s = some (if 0 ≤ v ∧ v ≤ 5 then 1 else 0, s) := by unfold fH_isTown; rw [e_within, ybd_s, yrb_i]
theorem e_isHand {v : Int} {s : zHp} : fH_isHand v s = some (if 0 ≤ v ∧ v ≤ 3 then 1 else 0, s) := by unfold fH_isHand; rw [e_within, ybd_s, yrb_i]
theorem e_isTape {v : Int} {s : zHp} : fH_isTape v s = some (if 0 ≤ v ∧ v ≤ 5 then 1 else 0, s) := by unfold fH_isTape; rw [e_within, ybd_s, yrb_i]
theorem m_isDay {v : Int} {s : zSg} : gM_isDay v s = some (if 0 ≤ v ∧ v ≤ 9999 then 1 else 0, s) := by unfold gM_isDay; rw [e_in, ybd_s, yrb_i]
theorem m_isTown {v : Int} {s : zSg} : gM_isTown v s = some (if 0 ≤ v ∧ v ≤ 5 then 1 else 0, s) := by unfold gM_isTown; rw [e_in, ybd_s, yrb_i]
theorem m_isTape {v : Int} {s : zSg} : gM_isTape v s = some (if 0 ≤ v ∧ v ≤ 5 then 1 else 0, s) := by unfold gM_isTape; rw [e_in, ybd_s, yrb_i]
theorem m_isAuthor {v : Int} {s : zSg} : gM_isAuthor v s = some (if 0 ≤ v ∧ v ≤ zsub (s 0 8) 1 then 1 else 0, s) := by unfold gM_isAuthor; rw [e_in, ybd_s, yrb_i]
theorem m_isThing {v : Int} {s : zSg} : gM_isThing v s = some (if 0 ≤ v ∧ v ≤ zsub (s 0 2) 1 then 1 else 0, s) := by unfold gM_isThing; rw [e_in, ybd_s, yrb_i]
theorem zof64 {x : Int} (h : zR64 x) : (Int64.ofInt x).toInt = x := Int64.toInt_ofInt_of_le (by have := h.1; omega) (by have := h.2; omega)
theorem zladd_e {x y : Int} (h1 : -9223372036854775808 ≤ x + y) (h2 : x + y < 9223372036854775808) : zladd x y = x + y := by
  unfold zladd
  rw [Int64.toInt_add, Int64.toInt_ofInt, Int64.toInt_ofInt]
  show (x.bmod 18446744073709551616 + y.bmod 18446744073709551616).bmod 18446744073709551616 = _
  rw [Int.bmod_add_bmod, Int.add_bmod_bmod]
  exact Int.bmod_eq_of_le_mul_two (by omega) (by omega)
theorem zlcmp_lt {x y : Int} (hx : zR64 x) (hy : zR64 y) : zlcmp x y < 0 ↔ x < y := by
  unfold zlcmp
  have h := lg_cmp_lt (Int64.ofInt x) (Int64.ofInt y)
  rw [Int32.lt_iff_toInt_lt, Int64.lt_iff_toInt_lt, zof64 hx, zof64 hy] at h
  exact h
theorem zlcmp_gt {x y : Int} (hx : zR64 x) (hy : zR64 y) : 0 < zlcmp x y ↔ y < x := by
  unfold zlcmp
  have h := lg_cmp_gt (Int64.ofInt x) (Int64.ofInt y)
  rw [Int32.lt_iff_toInt_lt, Int64.lt_iff_toInt_lt, zof64 hx, zof64 hy] at h
  exact h
/-! rows that are filled -/
def zfil (h : zHp) (r i n : Nat) (v : Int) : zHp := (h.1, h.2.1, fun a k => if a = r ∧ i ≤ k ∧ k < n then v else h.2.2.1 a k, h.2.2.2)
theorem zct_fil {h : zHp} {r i n : Nat} {v : Int} {a k : Nat} : zct (zfil h r i n v) a k = if a = r ∧ i ≤ k ∧ k < n then v else zct h a k := rfl
theorem zfil_s {h : zHp} {r i n : Nat} {v : Int} (hi : i < n) : zfil (zwr h r i v) r (i + 1) n v = zfil h r i n v := by
  unfold zfil zwr
  refine congrArg (fun f => (h.1, h.2.1, f, h.2.2.2)) (funext fun a => funext fun k => ?_)
  show (if a = r ∧ i + 1 ≤ k ∧ k < n then v else if a = r ∧ k = i then v else h.2.2.1 a k) = if a = r ∧ i ≤ k ∧ k < n then v else h.2.2.1 a k
  by_cases ha : a = r
  · by_cases hk : k = i
    · rw [if_neg (by omega), if_pos ⟨ha, hk⟩, if_pos ⟨ha, by omega, by omega⟩]
    · rw [if_neg (show ¬ (a = r ∧ k = i) from fun q => hk q.2)]
      by_cases h2 : i ≤ k ∧ k < n
      · rw [if_pos ⟨ha, by omega, h2.2⟩, if_pos ⟨ha, h2⟩]
      · rw [if_neg (fun q => h2 ⟨by omega, q.2.2⟩), if_neg (fun q => h2 q.2)]
  · rw [if_neg (fun q => ha q.1), if_neg (fun q => ha q.1), if_neg (fun q => ha q.1)]
theorem zfil_0 {h : zHp} {r i n : Nat} {v : Int} (hi : n ≤ i) : zfil h r i n v = h := by
  obtain ⟨t, l, c, x⟩ := h
  unfold zfil
  refine congrArg (fun f => (t, l, f, x)) (funext fun a => funext fun k => ?_)
  show (if a = r ∧ i ≤ k ∧ k < n then v else c a k) = c a k
  rw [if_neg (by omega)]
theorem e_fill_l {r n : Nat} {v : Int} (hn : n ≤ 100000) : ∀ (m : Nat) (f i : Nat) (h : zHp), n - i = m → m < f → ztg h r = 30 → zln h r = n → i ≤ n → fJArrays_fill_l1 f r v (i : Int) (n : Int) h = some ((), zfil h r i n v) := by
  intro m
  induction m with
  | zero =>
    intro f i h hm hf ht hl hi
    obtain ⟨f, rfl⟩ : ∃ f', f = f' + 1 := ⟨f - 1, by omega⟩
    unfold fJArrays_fill_l1
    rw [if_neg (by omega), zfil_0 (by omega)]
  | succ m ih =>
    intro f i h hm hf ht hl hi
    obtain ⟨f, rfl⟩ : ∃ f', f = f' + 1 := ⟨f - 1, by omega⟩
    unfold fJArrays_fill_l1 ysi yvl
    rw [if_pos (by omega), if_pos ⟨ht, by omega, by rw [hl]; omega⟩, zadd_e (by omega) (by omega), show (i : Int) + 1 = ((i + 1 : Nat) : Int) by omega]
    dsimp only
    rw [ih f (i + 1) (zwr h r ((i : Int)).toNat v) (by omega) (by omega) ht hl (by omega), Int.toNat_natCast, zfil_s (by omega)]
theorem e_fill {r n : Nat} {v : Int} {h : zHp} (hn : n ≤ 100000) (ht : ztg h r = 30) (hl : zln h r = n) : fJArrays_fill r v h = some ((), zfil h r 0 n v) := by
  unfold fJArrays_fill yln
  rw [ht, if_pos (by omega), hl]
  exact e_fill_l hn n zFU 0 h (by omega) (by rw [zFU_e]; omega) ht hl (by omega)
def zuf (s : zSg) (k i n : Nat) (v : Int) : zSg := fun k' j => if k' = k ∧ i ≤ j ∧ j < n then v else s k' j
theorem zuf_s {s : zSg} {k i n : Nat} {v : Int} (hi : i < n) : zuf (zup s k i v) k (i + 1) n v = zuf s k i n v := funext fun a => funext fun j => by
  show (if a = k ∧ i + 1 ≤ j ∧ j < n then v else if a = k ∧ j = i then v else s a j) = if a = k ∧ i ≤ j ∧ j < n then v else s a j
  by_cases ha : a = k
  · by_cases hk : j = i
    · rw [if_neg (by omega), if_pos ⟨ha, hk⟩, if_pos ⟨ha, by omega, by omega⟩]
    · rw [if_neg (show ¬ (a = k ∧ j = i) from fun q => hk q.2)]
      by_cases h2 : i ≤ j ∧ j < n
      · rw [if_pos ⟨ha, by omega, h2.2⟩, if_pos ⟨ha, h2⟩]
      · rw [if_neg (fun q => h2 ⟨by omega, q.2.2⟩), if_neg (fun q => h2 q.2)]
  · rw [if_neg (fun q => ha q.1), if_neg (fun q => ha q.1), if_neg (fun q => ha q.1)]
theorem zuf_0 {s : zSg} {k i n : Nat} {v : Int} (hi : n ≤ i) : zuf s k i n v = s := funext fun a => funext fun j => by
  show (if a = k ∧ i ≤ j ∧ j < n then v else s a j) = s a j
  rw [if_neg (by omega)]
