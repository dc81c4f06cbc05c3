/-! music -/
theorem zdiv_t {x y : Int} (hx : zR32 x) (hy : 0 < y) (hy2 : y < 2147483648) : zdiv x y = x.tdiv y := by
  unfold zdiv
  rw [Int32.toInt_div, zof hx, zof ⟨by omega, hy2⟩]
  have h1 := hx.1
  have h2 := hx.2
  refine zbm ?_
  by_cases h : 0 ≤ x
  · rw [Int.tdiv_eq_ediv_of_nonneg h]
    have := Int.ediv_nonneg h (show 0 ≤ y by omega)
    have := Int.ediv_le_self y h
    exact ⟨by omega, by omega⟩
  · have e : x.tdiv y = -((-x) / y) := by rw [← Int.tdiv_eq_ediv_of_nonneg (by omega), Int.neg_tdiv, Int.neg_neg]
    have := Int.ediv_nonneg (show 0 ≤ -x by omega) (show 0 ≤ y by omega)
    have := Int.ediv_le_self y (show 0 ≤ -x by omega)
    rw [e]
    exact ⟨by omega, by omega⟩
/-- a number below 0 spells no length -/
theorem zneg_len {x : Int} (hx : zR32 x) (h : x < 0) : zdiv (zrem x 100) 2 ≤ 0 := by
  have hd := zdiv_t hx (show (0 : Int) < 100 by omega) (by omega)
  have e : x.tdiv 100 = -((-x) / 100) := by rw [← Int.tdiv_eq_ediv_of_nonneg (by omega), Int.neg_tdiv, Int.neg_neg]
  have h1 := hx.1
  have hr : zrem x 100 = x - x.tdiv 100 * 100 := by
    unfold zdiv at hd
    unfold zrem
    rw [Int32.toInt_sub, Int32.toInt_mul, hd, zof hx, zof ⟨by omega, by omega⟩]
    show (x - (x.tdiv 100 * 100).bmod 4294967296).bmod 4294967296 = _
    rw [zbm (x := x.tdiv 100 * 100) ⟨by omega, by omega⟩, zbm ⟨by omega, by omega⟩]
  have hr2 : -100 < zrem x 100 ∧ zrem x 100 ≤ 0 := by omega
  rw [zdiv_t ⟨by omega, by omega⟩ (by omega) (by omega)]
  have e2 : (zrem x 100).tdiv 2 = -((-(zrem x 100)) / 2) := by rw [← Int.tdiv_eq_ediv_of_nonneg (by omega), Int.neg_tdiv, Int.neg_neg]
  omega
section MUSIC
variable {X : Nat} {H : zHp} {s : zSg} {A : Nat → Nat} {B : Nat → Nat → Nat} {K : Nat → Nat} {ow : Nat → Nat × Nat}
theorem IV.me (I : IV X H s A B K ow) {e : Int} (he : -1 ≤ e ∧ e ≤ 3) : IV X (zwr H X 5 e) (zup s 0 15 e) A B K ow := by
  refine I.fr (gs := [9]) (by repeat first | exact zst.rf | apply zst.wr) (by repeat first | exact zfx.rf | refine zfx.wr0 ?_ rfl | refine zfx.wr ?_ rfl) (fun q h1 h2 h3 k' => by rw [zct_wr, if_neg (by omega)]) (by repeat first | exact zfs.rf | refine zfs.up0 ?_ rfl | refine zfs.up ?_ (by decide) rfl) rfl rfl rfl rfl (Int.le_refl _) (Or.inl rfl) (Or.inl rfl) (Or.inl rfl) (Or.inl rfl) (Or.inl rfl) (Or.inl rfl) (Or.inr ?_)
  rw [zcx_wr0]
  exact ⟨rfl, he.1, he.2⟩
theorem IV.of15 (I : IV X H s A B K ow) (h : s 0 15 = e) : zup s 0 15 e = s := by
  funext k j
  simp only [zup]
  by_cases w : k = 0 ∧ j = 15
  · rw [if_pos w, w.1, w.2, h]
  · rw [if_neg w]
end MUSIC
