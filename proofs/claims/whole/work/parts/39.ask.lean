/-! THE TEXT FED; asks told -/
/-- a change of some groups of the fixed places alone -/
def KE (X : Nat) (gs : List Nat) (H H' : zHp) (s s' : zSg) : Prop := zst H H' ∧ znx H' = znx H ∧ zus H' = zus H ∧ zfx X gs H H' ∧ zfd X (fun _ => False) H H' ∧ zfs gs s s'
theorem KE.tr {X : Nat} {gs : List Nat} {H1 H2 H3 : zHp} {s1 s2 s3 : zSg} (a : KE X gs H1 H2 s1 s2) (b : KE X gs H2 H3 s2 s3) : KE X gs H1 H3 s1 s3 :=
  ⟨a.1.tr b.1, b.2.1.trans a.2.1, b.2.2.1.trans a.2.2.1, a.2.2.2.1.tr b.2.2.2.1, a.2.2.2.2.1.tr (by rw [a.2.1]; exact Nat.le_refl _) b.2.2.2.2.1, a.2.2.2.2.2.tr b.2.2.2.2.2⟩
section FEED2
variable {X : Nat}
theorem G3.add {c : Nat → Nat → Int} {s : zSg} (q : G3 c s) {v w : Int} (h : s 0 43 < 120) (hv : v = w % 256) (hw : -128 ≤ w ∧ w < 128) : G3 (zup (zup c 10 (s 0 43).toNat v) 0 10 (s 0 43 + 1)) (zup (zup s 42 (s 0 43).toNat w) 0 43 (s 0 43 + 1)) := by
  obtain ⟨q1, q2, q3, q4⟩ := q
  refine ⟨rfl, by show 0 ≤ s 0 43 + 1; omega, by show s 0 43 + 1 ≤ 120; omega, fun k hk => ?_⟩
  have hk' : (k : Int) < s 0 43 + 1 := hk
  by_cases e : k = (s 0 43).toNat
  · subst e
    have e1 : zup (zup c 10 (s 0 43).toNat v) 0 10 (s 0 43 + 1) 10 (s 0 43).toNat = v := by simp [zup]
    have e2 : zup (zup s 42 (s 0 43).toNat w) 0 43 (s 0 43 + 1) 42 (s 0 43).toNat = w := by simp [zup]
    rw [e1, e2]
    exact ⟨hv, hw⟩
  · have e1 : zup (zup c 10 (s 0 43).toNat v) 0 10 (s 0 43 + 1) 10 k = c 10 k := by simp [zup, e]
    have e2 : zup (zup s 42 (s 0 43).toNat w) 0 43 (s 0 43 + 1) 42 k = s 42 k := by simp [zup, e]
    rw [e1, e2]
    exact q4 k (by omega)
theorem e_feed_l {b : Int} {KF : Nat → zHp → Option (Int × zHp)} {KG : zSg → Option (Int × zSg)} : ∀ (m f1 f2 : Nat) (H : zHp) (s : zSg), IFx X H → G3 (zcx X H) s → s 0 43 + m ≤ 120 → m < f1 → m < f2 →
    ∃ H' s', fH_feed_l3 f1 X b ((m : Int) - 1) H KF = KF X H' ∧ gM_feed_l3 f2 b ((m : Int) - 1) s KG = KG s' ∧ KE X [3] H H' s s' ∧ G3 (zcx X H') s' := by
  intro m
  induction m with
  | zero =>
    intro f1 f2 H s F q h1 h2 h3
    obtain ⟨f1, rfl⟩ : ∃ f', f1 = f' + 1 := ⟨f1 - 1, by omega⟩
    obtain ⟨f2, rfl⟩ : ∃ f', f2 = f' + 1 := ⟨f2 - 1, by omega⟩
    refine ⟨H, s, ?_, ?_, ⟨zst.rf, rfl, rfl, zfx.rf, zfd.rf, zfs.rf⟩, q⟩
    · unfold fH_feed_l3
      rw [if_pos (by omega)]
    · unfold gM_feed_l3
      rw [if_pos (by omega)]
  | succ m ih =>
    intro f1 f2 H s F q h1 h2 h3
    obtain ⟨f1, rfl⟩ : ∃ f', f1 = f' + 1 := ⟨f1 - 1, by omega⟩
    obtain ⟨f2, rfl⟩ : ∃ f', f2 = f' + 1 := ⟨f2 - 1, by omega⟩
    obtain ⟨q1, q2, q3, q4⟩ := id q
    have q1' : zct H X 10 = s 0 43 := q1
    have ea : zadd (s 0 43) 1 = s 0 43 + 1 := zadd_e (by omega) (by omega)
    have em : zadd (((m + 1 : Nat) : Int) - 1) (-1) = (m : Int) - 1 := by rw [zadd_e (by omega) (by omega)]; omega
    let H1 := zwr (zwr H (X + 10) (s 0 43).toNat (zand (zshr b (zmul 8 (((m + 1 : Nat) : Int) - 1))) 255)) X 10 (s 0 43 + 1)
    let s1 := zup (zup s 42 (s 0 43).toNat (zi2b (zi2b (zshr b (zmul 8 (((m + 1 : Nat) : Int) - 1)))))) 0 43 (s 0 43 + 1)
    have k1 : KE X [3] H H1 s s1 := ⟨(by repeat first | exact zst.rf | apply zst.wr), rfl, rfl, (by repeat first | exact zfx.rf | refine zfx.wr0 ?_ rfl | refine zfx.wr ?_ rfl), (by repeat first | exact zfd.rf | refine zfd.wr0 ?_ | refine zfd.wr ?_ (by omega)), (by repeat first | exact zfs.rf | refine zfs.up0 ?_ rfl | refine zfs.up ?_ (by decide) rfl)⟩
    have g1 : G3 (zcx X H1) s1 := by
      show G3 (zcx X (zwr _ X 10 _)) _
      rw [zcx_wr0, zcx_wr]
      exact q.add (by omega) (by rw [zand_255, zi2b_i, zi2b_m]) (zi2b_r _)
    obtain ⟨H', s', r1, r2, r3, r4⟩ := ih f1 f2 H1 s1 (F.fr k1.1 k1.2.2.2.1 rfl) g1 (by show s 0 43 + 1 + m ≤ 120; omega) (by omega) (by omega)
    refine ⟨H', s', ?_, ?_, k1.tr r3, r4⟩
    · unfold fH_feed_l3
      rw [if_neg (by omega)]
      have e2 : zct (zwr H (X + 10) (s 0 43).toNat (zand (zshr b (zmul 8 (((m + 1 : Nat) : Int) - 1))) 255)) X 10 = s 0 43 := by rw [zct_wr, if_neg (by omega)]; exact q1'
      simp only [ygr, ygi, ysi, ypi, yvl, ft0 F, zA10, if_true, fp0_9 F, q1', ft10 F, fl10 F, ztg_wr, e2, ea, em]
      rw [if_pos (by simp; omega)]
      exact r1
    · unfold gM_feed_l3
      rw [if_neg (by omega)]
      have e2 : zup s 42 (s 0 43).toNat (zi2b (zi2b (zshr b (zmul 8 (((m + 1 : Nat) : Int) - 1))))) 0 43 = s 0 43 := rfl
      simp only [ywb, yvl, e2, ea, em]
      rw [if_pos (by omega)]
      exact r2
end FEED2
section ASK
variable {X : Nat} {H : zHp} {s : zSg} {A : Nat → Nat} {B : Nat → Nat → Nat} {K : Nat → Nat} {ow : Nat → Nat × Nat}
theorem k_feed (I : IV X H s A B K ow) {b n : Int} : wX (fH_feed X b n H) fun v H' => wX (gM_feed b n s) fun w s' => w = v ∧ KD X H H' s' := by
  have F := I.1
  have q := I.2.1.2.2.1
  obtain ⟨q1, q2, q3, q4⟩ := id q
  have q1' : zct H X 10 = s 0 43 := q1
  unfold fH_feed gM_feed
  simp only [wX_s, wX_bd, wX_vl, wX_jn, wX_ite, wX_dv, wX_n0, wX_rb, wX_rc, wX_ry, wX_gi, wX_gr, wX_pi, wX_pz, wX_pr, wX_ai, wX_ab, wX_ar, wX_si, wX_sz, wX_sb, wX_sr, wX_ln, wX_nw, wX_na, wX_nm, wX_io, wX_ck, wX_cp, wX_cl, wX_ca, wX_sv, wX_sc, wX_rd, wX_wi, wX_wz, wX_wb, e_within, e_in, i01, ft0 F, zA10, true_and, q1']
  by_cases h1 : 0 ≤ n ∧ n ≤ 4
  · have e1 : zadd (s 0 43) n = s 0 43 + n := zadd_e (by omega) (by omega)
    have e2 : zsub n 1 = ((n.toNat : Nat) : Int) - 1 := by rw [zsub_e (by omega) (by omega)]; omega
    simp only [h1, and_self, not_true, if_false, e1, e2]
    by_cases h2 : 120 < s 0 43 + n
    · simp only [h2, if_true]
      (first | exact KD.rf I | exact ⟨trivial, KD.rf I⟩ | exact ⟨rfl, KD.rf I⟩)
    · simp only [h2, if_false]
      obtain ⟨H', s', r1, r2, r3, r4⟩ := e_feed_l (b := b) (KF := fun x16 s17 => ygi 10 10 x16 s17 fun v18 => some (v18, s17)) (KG := fun s11 => some (s11 0 43, s11)) n.toNat zFU zFU H s F q (by omega) (by rw [zFU_e]; omega) (by rw [zFU_e]; omega)
      have F' := F.fr r3.1 r3.2.2.2.1 rfl
      have q5 : zct H' X 10 = s' 0 43 := r4.1
      simp only [r1, r2, wX_s, wX_bd, wX_vl, wX_jn, wX_ite, wX_dv, wX_n0, wX_rb, wX_rc, wX_ry, wX_gi, wX_gr, wX_pi, wX_pz, wX_pr, wX_ai, wX_ab, wX_ar, wX_si, wX_sz, wX_sb, wX_sr, wX_ln, wX_nw, wX_na, wX_nm, wX_io, wX_ck, wX_cp, wX_cl, wX_ca, wX_sv, wX_sc, wX_rd, wX_wi, wX_wz, wX_wb, ft0 F', zA10, true_and, q5]
      exact KD.fx (gs := [3]) I r3.1 r3.2.1 r3.2.2.1 r3.2.2.2.1 r3.2.2.2.2.1 r3.2.2.2.2.2 rfl rfl rfl rfl (by rw [r3.2.2.2.2.2 0 8 rfl]; exact Int.le_refl _) (Or.inl rfl) (Or.inr r4) (Or.inl rfl) (Or.inl rfl) (Or.inl rfl) (Or.inl rfl) (Or.inl rfl)
  · simp only [h1, not_false_iff, if_true]
    (first | exact KD.rf I | exact ⟨trivial, KD.rf I⟩ | exact ⟨rfl, KD.rf I⟩)
end ASK
