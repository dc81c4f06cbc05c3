/-! THE START: cells laid one behind another from X on (the last step stands first) -/
def zop (X : Nat) (h : zHp) (w : Nat × Nat × Nat × Int) : zHp := if w.1 = 0 then zal h w.2.1 w.2.2.1 (fun _ => 0) else if w.1 = 4 then zal h w.2.1 w.2.2.1 (fun j => if j < w.2.2.1 then ((znx h + 2 + j : Nat) : Int) else 0) else if w.1 = 3 then zfil h (X + w.2.1) 0 w.2.2.1 w.2.2.2 else if w.1 = 1 then zwr h (X + w.2.1) w.2.2.1 w.2.2.2 else zwr h (X + w.2.1) w.2.2.1 ((X + w.2.2.2.toNat : Nat) : Int)
def zopsR (X : Nat) (h : zHp) : List (Nat × Nat × Nat × Int) → zHp
  | [] => h
  | w :: r => zop X (zopsR X h r) w
def numR : List (Nat × Nat × Nat × Int) → Nat
  | [] => 0
  | w :: r => if w.1 = 0 ∨ w.1 = 4 then numR r + 1 else numR r
def tgR : List (Nat × Nat × Nat × Int) → Nat → Nat
  | [], _ => 0
  | w :: r, o => if (w.1 = 0 ∨ w.1 = 4) ∧ numR r = o then w.2.1 else tgR r o
def lnR : List (Nat × Nat × Nat × Int) → Nat → Nat
  | [], _ => 0
  | w :: r, o => if (w.1 = 0 ∨ w.1 = 4) ∧ numR r = o then w.2.2.1 else lnR r o
def usR : List (Nat × Nat × Nat × Int) → Nat
  | [] => 0
  | w :: r => if w.1 = 0 ∨ w.1 = 4 then usR r + w.2.2.1 else usR r
def cellR : List (Nat × Nat × Nat × Int) → Nat → Nat → Nat × Int
  | [], _, _ => (0, 0)
  | w :: r, o, k => if w.1 = 0 then (if numR r = o then (0, 0) else cellR r o k) else if w.1 = 4 then (if numR r = o then (if k < w.2.2.1 then (1, ((numR r + 1 + k : Nat) : Int)) else (0, 0)) else cellR r o k) else
    if w.1 = 3 then (if w.2.1 = o ∧ k < w.2.2.1 then (0, w.2.2.2) else cellR r o k) else if w.2.1 = o ∧ w.2.2.1 = k then (if w.1 = 1 then (0, w.2.2.2) else (1, w.2.2.2)) else cellR r o k
def valR (X : Nat) (c : Nat × Int) : Int := if c.1 = 0 then c.2 else ((X + c.2.toNat : Nat) : Int)
section START
variable {X : Nat} {h : zHp}
theorem zopsR_ok (hX : znx h + 1 = X) : ∀ r : List (Nat × Nat × Nat × Int), (znx (zopsR X h r) = znx h + numR r ∧ zus (zopsR X h r) = zus h + usR r) ∧ (∀ a, a ≤ znx h → ztg (zopsR X h r) a = ztg h a ∧ zln (zopsR X h r) a = zln h a ∧ ∀ k, zct (zopsR X h r) a k = zct h a k) ∧ ∀ o, o < numR r → ztg (zopsR X h r) (X + o) = tgR r o ∧ zln (zopsR X h r) (X + o) = lnR r o ∧ ∀ k, zct (zopsR X h r) (X + o) k = valR X (cellR r o k)
  | [] => ⟨⟨rfl, rfl⟩, fun _ _ => ⟨rfl, rfl, fun _ => rfl⟩, fun _ ho => absurd ho (Nat.not_lt_zero _)⟩
  | w :: r => by
    obtain ⟨⟨i1, i2⟩, i3, i4⟩ := zopsR_ok hX r
    show (znx (zop X (zopsR X h r) w) = znx h + (if w.1 = 0 ∨ w.1 = 4 then numR r + 1 else numR r) ∧ zus (zop X (zopsR X h r) w) = zus h + (if w.1 = 0 ∨ w.1 = 4 then usR r + w.2.2.1 else usR r)) ∧ (∀ a, a ≤ znx h → ztg (zop X (zopsR X h r) w) a = ztg h a ∧ zln (zop X (zopsR X h r) w) a = zln h a ∧ ∀ k, zct (zop X (zopsR X h r) w) a k = zct h a k) ∧
      ∀ o, o < (if w.1 = 0 ∨ w.1 = 4 then numR r + 1 else numR r) → ztg (zop X (zopsR X h r) w) (X + o) = (if (w.1 = 0 ∨ w.1 = 4) ∧ numR r = o then w.2.1 else tgR r o) ∧ zln (zop X (zopsR X h r) w) (X + o) = (if (w.1 = 0 ∨ w.1 = 4) ∧ numR r = o then w.2.2.1 else lnR r o) ∧ ∀ k, zct (zop X (zopsR X h r) w) (X + o) k = valR X (if w.1 = 0 then (if numR r = o then (0, 0) else cellR r o k) else if w.1 = 4 then (if numR r = o then (if k < w.2.2.1 then (1, ((numR r + 1 + k : Nat) : Int)) else (0, 0)) else cellR r o k) else
    if w.1 = 3 then (if w.2.1 = o ∧ k < w.2.2.1 then (0, w.2.2.2) else cellR r o k) else if w.2.1 = o ∧ w.2.2.1 = k then (if w.1 = 1 then (0, w.2.2.2) else (1, w.2.2.2)) else cellR r o k)
    generalize zopsR X h r = H at *
    generalize tgR r = T at *
    generalize lnR r = L at *
    generalize cellR r = C at *
    generalize numR r = n at *
    obtain ⟨c, t, l, v⟩ := w
    dsimp only
    have al : ∀ f : Nat → Int, (znx (zal H t l f) = znx h + (n + 1) ∧ zus (zal H t l f) = zus h + (usR r + l)) ∧ (∀ a, a ≤ znx h → ztg (zal H t l f) a = ztg h a ∧ zln (zal H t l f) a = zln h a ∧ ∀ k, zct (zal H t l f) a k = zct h a k) ∧ ∀ o, o < n + 1 → ztg (zal H t l f) (X + o) = (if n = o then t else T o) ∧ zln (zal H t l f) (X + o) = (if n = o then l else L o) ∧ ∀ k, zct (zal H t l f) (X + o) k = if n = o then f k else valR X (C o k) := fun f => by
      refine ⟨⟨by rw [znx_al]; omega, by rw [zus_al]; omega⟩, fun a ha => ⟨?_, ?_, fun k => ?_⟩, fun o ho => ⟨?_, ?_, fun k => ?_⟩⟩
      · rw [ztg_al, if_neg (by omega)]; exact (i3 a ha).1
      · rw [zln_al, if_neg (by omega)]; exact (i3 a ha).2.1
      · rw [zct_al, if_neg (by omega)]; exact (i3 a ha).2.2 k
      · rw [ztg_al]
        by_cases e : n = o
        · rw [if_pos e, if_pos (by omega)]
        · rw [if_neg e, if_neg (by omega)]; exact (i4 o (by omega)).1
      · rw [zln_al]
        by_cases e : n = o
        · rw [if_pos e, if_pos (by omega)]
        · rw [if_neg e, if_neg (by omega)]; exact (i4 o (by omega)).2.1
      · rw [zct_al]
        by_cases e : n = o
        · rw [if_pos e, if_pos (by omega)]
        · rw [if_neg e, if_neg (by omega)]; exact (i4 o (by omega)).2.2 k
    by_cases c0 : c = 0
    · subst c0
      obtain ⟨a1, a2, a3⟩ := al (fun _ => 0)
      refine ⟨?_, a2, fun o ho => ?_⟩
      · rw [if_pos (Or.inl rfl), if_pos (Or.inl rfl)]; exact a1
      · rw [if_pos (Or.inl rfl)] at ho
        obtain ⟨b1, b2, b3⟩ := a3 o ho
        by_cases e : n = o
        · rw [if_pos ⟨Or.inl rfl, e⟩, if_pos ⟨Or.inl rfl, e⟩]
          rw [if_pos e] at b1 b2
          exact ⟨b1, b2, fun k => by rw [show zop X H (0, t, l, v) = zal H t l (fun _ => 0) from rfl, b3 k, if_pos e, if_pos (show (0 : Nat) = 0 from rfl), if_pos e]; rfl⟩
        · rw [if_neg (fun q => e q.2), if_neg (fun q => e q.2)]
          rw [if_neg e] at b1 b2
          exact ⟨b1, b2, fun k => by rw [show zop X H (0, t, l, v) = zal H t l (fun _ => 0) from rfl, b3 k, if_neg e, if_pos (show (0 : Nat) = 0 from rfl), if_neg e]⟩
    · by_cases c4 : c = 4
      · subst c4
        obtain ⟨a1, a2, a3⟩ := al (fun j => if j < l then ((znx H + 2 + j : Nat) : Int) else 0)
        refine ⟨?_, a2, fun o ho => ?_⟩
        · rw [if_pos (Or.inr rfl), if_pos (Or.inr rfl)]; exact a1
        · rw [if_pos (Or.inr rfl)] at ho
          obtain ⟨b1, b2, b3⟩ := a3 o ho
          by_cases e : n = o
          · rw [if_pos ⟨Or.inr rfl, e⟩, if_pos ⟨Or.inr rfl, e⟩]
            rw [if_pos e] at b1 b2
            refine ⟨b1, b2, fun k => ?_⟩
            rw [show zop X H (4, t, l, v) = zal H t l (fun j => if j < l then ((znx H + 2 + j : Nat) : Int) else 0) from rfl, b3 k, if_pos e, if_neg (show ¬ (4 : Nat) = 0 by decide), if_pos (show (4 : Nat) = 4 from rfl), if_pos e]
            by_cases g : k < l
            · rw [if_pos g, if_pos g]
              show _ = ((X + (((n + 1 + k : Nat) : Int)).toNat : Nat) : Int)
              rw [Int.toNat_natCast]
              omega
            · rw [if_neg g, if_neg g]; rfl
          · rw [if_neg (fun q => e q.2), if_neg (fun q => e q.2)]
            rw [if_neg e] at b1 b2
            refine ⟨b1, b2, fun k => ?_⟩
            rw [show zop X H (4, t, l, v) = zal H t l (fun j => if j < l then ((znx H + 2 + j : Nat) : Int) else 0) from rfl, b3 k, if_neg e, if_neg (show ¬ (4 : Nat) = 0 by decide), if_pos (show (4 : Nat) = 4 from rfl), if_neg e]
      · have nc : ¬ (c = 0 ∨ c = 4) := by omega
        rw [if_neg nc, if_neg nc]
        have st : znx (zop X H (c, t, l, v)) = znx H ∧ zus (zop X H (c, t, l, v)) = zus H ∧ (∀ a, ztg (zop X H (c, t, l, v)) a = ztg H a ∧ zln (zop X H (c, t, l, v)) a = zln H a) := by
          unfold zop
          dsimp only
          rw [if_neg c0, if_neg c4]
          by_cases c3 : c = 3
          · rw [if_pos c3]; exact ⟨rfl, rfl, fun _ => ⟨rfl, rfl⟩⟩
          · rw [if_neg c3]
            by_cases c1 : c = 1
            · rw [if_pos c1]; exact ⟨rfl, rfl, fun _ => ⟨rfl, rfl⟩⟩
            · rw [if_neg c1]; exact ⟨rfl, rfl, fun _ => ⟨rfl, rfl⟩⟩
        have ce : ∀ a k, zct (zop X H (c, t, l, v)) a k = if c = 3 then (if a = X + t ∧ k < l then v else zct H a k) else if a = X + t ∧ k = l then (if c = 1 then v else ((X + v.toNat : Nat) : Int)) else zct H a k := fun a k => by
          unfold zop
          dsimp only
          rw [if_neg c0, if_neg c4]
          by_cases c3 : c = 3
          · rw [if_pos c3, if_pos c3, zct_fil]
            by_cases g : a = X + t ∧ k < l
            · rw [if_pos g, if_pos ⟨g.1, Nat.zero_le _, g.2⟩]
            · rw [if_neg g, if_neg (fun q => g ⟨q.1, q.2.2⟩)]
          · rw [if_neg c3, if_neg c3]
            by_cases c1 : c = 1
            · rw [if_pos c1, if_pos c1, zct_wr]
            · rw [if_neg c1, if_neg c1, zct_wr]
        refine ⟨⟨st.1.trans i1, st.2.1.trans i2⟩, fun a ha => ⟨(st.2.2 a).1.trans (i3 a ha).1, (st.2.2 a).2.trans (i3 a ha).2.1, fun k => ?_⟩, fun o ho => ⟨?_, ?_, fun k => ?_⟩⟩
        · rw [ce, if_neg (show ¬ (a = X + t ∧ k < l) by omega), if_neg (show ¬ (a = X + t ∧ k = l) by omega)]
          split <;> exact (i3 a ha).2.2 k
        · rw [if_neg (fun q => nc q.1)]; exact (st.2.2 _).1.trans (i4 o ho).1
        · rw [if_neg (fun q => nc q.1)]; exact (st.2.2 _).2.trans (i4 o ho).2.1
        · rw [ce, if_neg c0, if_neg c4]
          by_cases c3 : c = 3
          · rw [if_pos c3, if_pos c3]
            by_cases g : t = o ∧ k < l
            · rw [if_pos g, if_pos ⟨by omega, g.2⟩]; rfl
            · rw [if_neg g, if_neg (by omega)]; exact (i4 o ho).2.2 k
          · rw [if_neg c3, if_neg c3]
            by_cases g : t = o ∧ l = k
            · rw [if_pos g, if_pos ⟨by omega, g.2.symm⟩]
              by_cases c1 : c = 1
              · rw [if_pos c1, if_pos c1]; rfl
              · rw [if_neg c1, if_neg c1]; rfl
            · rw [if_neg g, if_neg (by omega)]; exact (i4 o ho).2.2 k
end START
