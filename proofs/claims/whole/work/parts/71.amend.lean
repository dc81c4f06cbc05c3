/-! WHAT ERRATA MAKE OF A NOTE -/
section AMEND
variable {X : Nat} {H : zHp} {s : zSg} {A : Nat → Nat} {B : Nat → Nat → Nat} {K : Nat → Nat} {ow : Nat → Nat × Nat}
/-- the pitch after the errata among the first things -/
def amN (s : zSg) (x : Nat) (v b i p : Int) : Nat → Int
  | 0 => p
  | m + 1 => if s 3 m = 7 ∧ s 4 m = (x : Int) ∧ s 5 m = v ∧ s 6 m = b ∧ s 32 m = i ∧ amN s x v b i p m = s 30 m then s 31 m else amN s x v b i p m
theorem m_amend_l {x lim : Nat} {v b i p : Int} (hl : lim ≤ 60) : ∀ (n f k : Nat), lim - k = n → n < f → k ≤ lim → gM_amendedPitch_l1 f (x : Int) v b i (lim : Int) (amN s x v b i p k) (k : Int) s = some (amN s x v b i p lim, s) := by
  intro n
  induction n with
  | zero =>
    intro f k h1 h2 h3
    obtain ⟨f, rfl⟩ : ∃ f', f = f' + 1 := ⟨f - 1, by omega⟩
    rw [gM_amendedPitch_l1]
    simp only [yjn]
    rw [if_neg (by omega), show k = lim by omega]
  | succ n ih =>
    intro f k h1 h2 h3
    obtain ⟨f, rfl⟩ : ∃ f', f = f' + 1 := ⟨f - 1, by omega⟩
    have e : zadd (k : Int) 1 = ((k + 1 : Nat) : Int) := by rw [zadd_e (by omega) (by omega)]; omega
    have := ih f (k + 1) (by omega) (by omega) (by omega)
    rw [gM_amendedPitch_l1]
    simp only [yjn, yvl, show (k : Int) < (lim : Int) by omega, if_true, yrd_n (show k < 60 by omega), e]
    rw [← this]
    show _ = gM_amendedPitch_l1 f (x : Int) v b i (lim : Int) (if s 3 k = 7 ∧ s 4 k = (x : Int) ∧ s 5 k = v ∧ s 6 k = b ∧ s 32 k = i ∧ amN s x v b i p k = s 30 k then s 31 k else amN s x v b i p k) ((k + 1 : Nat) : Int) s
    by_cases h : s 3 k = 7 ∧ s 4 k = (x : Int) ∧ s 5 k = v ∧ s 6 k = b ∧ s 32 k = i ∧ amN s x v b i p k = s 30 k
    · rw [if_pos h, if_pos h.1, if_pos h.2.1, if_pos h.2.2.1, if_pos h.2.2.2.1, if_pos h.2.2.2.2.1, if_pos h.2.2.2.2.2]
    · rw [if_neg h]
      by_cases a1 : s 3 k = 7
      · rw [if_pos a1]
        by_cases a2 : s 4 k = (x : Int)
        · rw [if_pos a2]
          by_cases a3 : s 5 k = v
          · rw [if_pos a3]
            by_cases a4 : s 6 k = b
            · rw [if_pos a4]
              by_cases a5 : s 32 k = i
              · rw [if_pos a5, if_neg (fun w => h ⟨a1, a2, a3, a4, a5, w⟩)]
              · rw [if_neg a5]
            · rw [if_neg a4]
          · rw [if_neg a3]
        · rw [if_neg a2]
      · rw [if_neg a1]
theorem amN_b (I : IV X H s A B K ow) {x : Nat} {v b i p : Int} (hp : -99 ≤ p ∧ p ≤ 1000) : ∀ m : Nat, (m : Int) ≤ s 0 2 → -99 ≤ amN s x v b i p m ∧ amN s x v b i p m ≤ 1000 := by
  intro m
  induction m with
  | zero => intro _; exact hp
  | succ m ih =>
    intro hm
    have := ih (by omega)
    show -99 ≤ (if _ then _ else _) ∧ (if _ then _ else _) ≤ _
    split
    · rename_i h
      have := ((I.st (t := m) (by omega)).2.2.2.2.2 h.1).2.2.2.2.2.2
      omega
    · exact this
theorem e_amend_l (I : IV X H s A B K ow) {x lim : Nat} {v b i p l t : Int} (hx : (x : Int) < s 0 2) (hl : (lim : Int) ≤ s 0 2) (hv : 0 ≤ v ∧ v ≤ 3) (hb : 0 ≤ b ∧ b ≤ 19) (hi : 0 ≤ i ∧ i ≤ 7) (hp : -99 ≤ p ∧ p ≤ 1000) (hll : 1 ≤ l ∧ l ≤ 12) (htt : t = 0 ∨ t = 1) : ∀ (n f k : Nat), lim - k = n → n < f → k ≤ lim → fH_amendedNote_l3 f X (A x) (lim : Int) (ncode (amN s x v b i p k) l t) ((v * 20 + b) * 8 + i) (k : Int) H = some (ncode (amN s x v b i p lim) l t, H) := by
  have F := I.1
  have hn := I.n
  have q1 : zct H X 4 = s 0 2 := I.2.1.2.2.2.2.2.2.2.2.2.1
  intro n
  induction n with
  | zero =>
    intro f k h1 h2 h3
    obtain ⟨f, rfl⟩ : ∃ f', f = f' + 1 := ⟨f - 1, by omega⟩
    rw [fH_amendedNote_l3]
    simp only [yjn]
    rw [if_neg (by omega), show k = lim by omega]
  | succ n ih =>
    intro f k h1 h2 h3
    obtain ⟨f, rfl⟩ : ∃ f', f = f' + 1 := ⟨f - 1, by omega⟩
    have e : zadd (k : Int) 1 = ((k + 1 : Nat) : Int) := by rw [zadd_e (by omega) (by omega)]; omega
    have := ih f (k + 1) (by omega) (by omega) (by omega)
    have hk : (k : Int) < s 0 2 := by omega
    have hpk := I.pos hk
    have ab := amN_b I (x := x) (v := v) (b := b) (i := i) hp k (by omega)
    have hq : amN s x v b i p k = -1000 ∨ (-99 ≤ amN s x v b i p k ∧ amN s x v b i p k ≤ 1000) := Or.inr ab
    rw [fH_amendedNote_l3]
    simp only [yjn, yvl, show (k : Int) < (lim : Int) by omega, if_true, ygi, ft0 F, zA10, q1, hk, yck, e_erratumAt I, ybd_s, e]
    rw [← this]
    show _ = fH_amendedNote_l3 f X (A x) (lim : Int) (ncode (if s 3 k = 7 ∧ s 4 k = (x : Int) ∧ s 5 k = v ∧ s 6 k = b ∧ s 32 k = i ∧ amN s x v b i p k = s 30 k then s 31 k else amN s x v b i p k) l t) ((v * 20 + b) * 8 + i) ((k + 1 : Nat) : Int) H
    by_cases a1 : s 3 k = 7
    · rw [if_neg (by rw [if_pos ⟨⟨by omega, by omega⟩, by rw [Int.toNat_natCast]; exact a1⟩, Int.toNat_natCast]; omega), if_pos (⟨⟨by omega, by omega⟩, by rw [Int.toNat_natCast]; exact a1⟩ : (0 ≤ (k : Int) ∧ (k : Int) ≤ s 0 2 - 1) ∧ s 3 (k : Int).toNat = 7), Int.toNat_natCast]
      obtain ⟨-, ⟨b0, -, -, b2, b3, b4, b5⟩⟩ := (I.to hk).2.2.2.2 a1
      obtain ⟨⟨p1, p2⟩, p3, w1, w2, w3, w4, w5⟩ := (I.st hk).2.2.2.2.2 a1
      have ij := I.inj (u := (s 4 k).toNat) (v := x) (by omega) hx
      simp only [ygr, b0, zA3, if_true, b2, Int.toNat_natCast, b3, b4, b5, e_pitchOf hll htt hq, ybd_s, e_withPitch hll htt hq (show -99 ≤ s 31 k ∧ s 31 k ≤ 1000 by omega)]
      by_cases a2 : s 4 k = (x : Int)
      · rw [if_pos (ij.mpr (by omega))]
        by_cases a3 : (s 5 k * 20 + s 6 k) * 8 + s 32 k = (v * 20 + b) * 8 + i
        · rw [if_pos a3, if_neg (show ¬ amN s x v b i p k = -1000 by omega)]
          by_cases a4 : amN s x v b i p k = s 30 k
          · rw [if_pos a4, if_pos ⟨a1, a2, by omega, by omega, by omega, a4⟩]
          · rw [if_neg a4, if_neg (fun w => a4 w.2.2.2.2.2)]
        · rw [if_neg a3, if_neg (fun w => a3 (by rw [w.2.2.1, w.2.2.2.1, w.2.2.2.2.1]))]
      · rw [if_neg (fun w => a2 (by have := ij.mp w; omega)), if_neg (fun w => a2 w.2.1)]
    · rw [if_pos (if_neg (fun w => a1 (by have := w.2; rw [Int.toNat_natCast] at this; exact this))), if_neg (fun w => a1 w.1)]
end AMEND
