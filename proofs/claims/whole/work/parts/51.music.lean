section MUSIC2
variable {X : Nat} {A : Nat → Nat} {K : Nat → Nat}
theorem z15_0 {s : zSg} {e : Int} (h : s 0 15 = e) : zup s 0 15 e = s := by
  funext k j
  simp only [zup]
  by_cases w : k = 0 ∧ j = 15
  · rw [if_pos w, w.1, w.2, h]
  · rw [if_neg w]
theorem e_music_l {t v tp n : Nat} {i : Int} (hi : zR32 i) (hn : n ≤ 60) (htp : tp < 6) : ∀ (m f1 f2 k : Nat) (H : zHp) (s : zSg) (B : Nat → Nat → Nat) (ow : Nat → Nat × Nat), IV X H s A B K ow → (t : Int) < s 0 2 → (s 3 t = 1 ∨ s 3 t = 6) → (v : Int) ≤ s 6 t - 1 → s 0 15 = 0 → (s 78 tp = -1 ∨ s 78 tp = 1) → n - k = m → m + 1 < f1 → m < f2 → k ≤ n →
    ∃ (e w : Int) (H' : zHp) (s' : zSg) (B' : Nat → Nat → Nat) (ow' : Nat → Nat × Nat), fH_music_l7 f1 X (v : Int) (tp : Int) i (n : Int) (A t) (k : Int) H = some (w, H') ∧ (∀ K1 K2 K3, gM_music_l7 f2 (t : Int) (v : Int) (tp : Int) i (n : Int) (k : Int) s K1 K2 K3 = if e = 0 then some (w, s') else if e = 1 then K1 w s' else if e = 2 then K3 w 2 s' else K2 w s') ∧ (0 ≤ e ∧ e ≤ 3) ∧ IV X H' (zup s' 0 15 e) A B' K ow' ∧ zst H H' ∧ znx H' ≤ znx H + 2 * m ∧ zus H' ≤ zus H + 11 * m ∧ (∀ a, (a < X ∨ X + 36 < a) → a ≤ X + 99 → ∀ k, zct H' a k = zct H a k) ∧ (e = 0 → s' 0 15 = 0) := by
  intro m
  induction m with
  | zero =>
    intro f1 f2 k H s B ow I ht hk hv h15 hso hm hf1 hf2 hkn
    obtain ⟨f1, rfl⟩ : ∃ f', f1 = f' + 1 := ⟨f1 - 1, by omega⟩
    obtain ⟨f2, rfl⟩ : ∃ f', f2 = f' + 1 := ⟨f2 - 1, by omega⟩
    refine ⟨0, (n : Int), H, s, B, ow, ?_, fun K1 K2 K3 => ?_, by omega, by rw [z15_0 h15]; exact I, zst.rf, by omega, by omega, fun _ _ _ _ => rfl, fun _ => h15⟩
    · unfold fH_music_l7
      rw [if_neg (by omega), show (k : Int) = (n : Int) by omega]
    · unfold gM_music_l7
      rw [if_neg (by omega), if_pos rfl]
  | succ m ih =>
    intro f1 f2 k H s B ow I ht hk hv h15 hso hm hf1 hf2 hkn
    obtain ⟨f1, rfl⟩ : ∃ f', f1 = f' + 1 := ⟨f1 - 1, by omega⟩
    obtain ⟨f2, rfl⟩ : ∃ f', f2 = f' + 1 := ⟨f2 - 1, by omega⟩
    have F := I.1
    have i1 := hi.1
    have i2 := hi.2
    have hn60 := I.n
    have c15 : zct H X 5 = 0 := by rw [← h15]; exact I.2.1.2.2.2.2.2.2.2.2.1.1
    obtain ⟨⟨a1, a2, a3⟩, ⟨g1, g2, g3, g4⟩, g5⟩ := I.2.1.2.2.2.2.2.2.1 tp htp
    have epl : zladd (zi2l i) (zi2l (k : Int)) = i + (k : Int) := by rw [zi2l_e hi, zi2l_e ⟨by omega, by omega⟩, zladd_e (by omega) (by omega)]
    obtain ⟨e, H1, s1, B1, ow1, r1, I1, kp, so, dis⟩ := e_tape1 I ht hk hv htp (pl := i + (k : Int)) ⟨by omega, by omega⟩ hso
    have n0 := so 0 (by omega) (by omega) (by omega) (by omega) (by omega)
    have F1 := I1.1
    have he : 0 ≤ e ∧ e ≤ 3 := by
      rcases dis with ⟨-, w, -⟩ | ⟨-, -, ⟨-, w, -⟩ | ⟨-, -, r, -, w⟩⟩ <;> omega
    have I2 := I1.me (e := e) (by omega)
    have c2 : zct (zwr H1 X 5 e) X 5 = e := by rw [zct_wr, if_pos ⟨rfl, rfl⟩]
    have k1 : ((k : Nat) : Int) < (n : Int) := by omega
    have ek : zadd (k : Int) 1 = ((k + 1 : Nat) : Int) := by rw [zadd_e (by omega) (by omega)]; omega
    have stp : fH_music_l7 (f1 + 1) X (v : Int) (tp : Int) i (n : Int) (A t) (k : Int) H = if e = 0 then fH_music_l7 f1 X (v : Int) (tp : Int) i (n : Int) (A t) ((k + 1 : Nat) : Int) (zwr H1 X 5 e) else fH_music_l7 f1 X (v : Int) (tp : Int) i (n : Int) (A t) (k : Int) (zwr H1 X 5 e) := by
      rw [fH_music_l7]
      simp only [k1, if_true, ygi, ft0 F, zA10, c15, yck, epl, r1, ybd_s, ypi, ft0 F1, ztg_wr, c2, yvl, ek]
    have z1 : zst H (zwr H1 X 5 e) := kp.1.wr _ _ _
    have z4 : ∀ a, (a < X ∨ X + 36 < a) → a ≤ X + 99 → ∀ k, zct (zwr H1 X 5 e) a k = zct H a k := fun a ha h9 k' => by rw [zct_wr, if_neg (by omega)]; exact kp.2.2.2 a h9 k'
    -- the reference's step
    have b1 : 0 ≤ (tp : Int) := by omega
    have b2 : (tp : Int) < ((6 : Nat) : Int) := by omega
    have gst : ∀ K1 K2 K3, gM_music_l7 (f2 + 1) (t : Int) (v : Int) (tp : Int) i (n : Int) (k : Int) s K1 K2 K3 = if e = 0 then gM_music_l7 f2 (t : Int) (v : Int) (tp : Int) i (n : Int) ((k + 1 : Nat) : Int) s1 K1 K2 K3 else if e = 1 then K1 (k : Int) s1 else if e = 2 then K3 (k : Int) 2 s1 else K2 (k : Int) s1 := fun K1 K2 K3 => by
      rw [gM_music_l7]
      simp only [k1, if_true, yvl, yrd, epl, b1, b2, and_self, Int.toNat_natCast]
      rcases dis with ⟨w1, w2, w3⟩ | ⟨w1, w2, w3⟩
      · subst w2
        subst w3
        rw [if_neg (show ¬ (1 : Int) = 0 by omega), if_pos (show (1 : Int) = 1 from rfl)]
        by_cases h9 : s1 78 tp < 0
        · rw [if_pos h9]
        · rw [if_neg h9]
          by_cases h10 : i + (k : Int) < 0
          · rw [if_pos ((zlcmp_lt ⟨by omega, by omega⟩ ⟨by omega, by omega⟩).mpr h10)]
          · rw [if_neg (fun w => h10 ((zlcmp_lt ⟨by omega, by omega⟩ ⟨by omega, by omega⟩).mp w)), zi2l_e ⟨by omega, by omega⟩, if_neg (fun w => w1 ⟨by omega, (zlcmp_lt ⟨by omega, by omega⟩ ⟨by omega, by omega⟩).mp w⟩)]
      · have el : zl2i (i + (k : Int)) = i + (k : Int) := by
          unfold zl2i
          rw [Int64.toInt_toInt32, zof64 ⟨by omega, by omega⟩]
          exact zbm ⟨by omega, by omega⟩
        have eq : zadd (zmul 60 (tp : Int)) (i + (k : Int)) = ((60 * tp + (i + (k : Int)).toNat : Nat) : Int) := by rw [zmul_e (by omega) (by omega), zadd_e (by omega) (by omega)]; omega
        have b3 : 0 ≤ ((60 * tp + (i + (k : Int)).toNat : Nat) : Int) := by omega
        have b4 : ((60 * tp + (i + (k : Int)).toNat : Nat) : Int) < ((360 : Nat) : Int) := by omega
        obtain ⟨-, -, q3⟩ := g5 (i + (k : Int)).toNat (by omega)
        have hx := q3 w2
        rw [if_neg (show ¬ s 78 tp < 0 by omega), if_neg (fun w => absurd ((zlcmp_lt ⟨by omega, by omega⟩ ⟨by omega, by omega⟩).mp w) (by omega)), zi2l_e ⟨by omega, by omega⟩, if_pos ((zlcmp_lt ⟨by omega, by omega⟩ ⟨by omega, by omega⟩).mpr w1.2)]
        simp only [yjn, el, eq, b3, b4, and_self, if_true, Int.toNat_natCast]
        generalize s 80 (60 * tp + (i + (k : Int)).toNat) = x at *
        rcases w3 with ⟨w4, w5, w6⟩ | ⟨w4, w5, r, w6, w7⟩
        · subst w5
          subst w6
          rw [if_neg (show ¬ (2 : Int) = 0 by omega), if_neg (show ¬ (2 : Int) = 1 by omega), if_pos (show (2 : Int) = 2 from rfl)]
          by_cases h9 : x < 0
          · rw [if_pos h9]
            simp
          · have ed : zdiv x 100 = x / 100 := zdiv_e ⟨by omega, by omega⟩ (by omega) (by omega) (by omega)
            have er : zrem x 100 = x % 100 := zrem_e ⟨by omega, by omega⟩ (by omega) (by omega) (by omega)
            have e2 : zdiv (x % 100) 2 = x % 100 / 2 := zdiv_e ⟨by omega, by omega⟩ (by omega) (by omega) (by omega)
            have e3 : zrem (x % 100) 2 = x % 100 % 2 := zrem_e ⟨by omega, by omega⟩ (by omega) (by omega) (by omega)
            have h11 : ¬ isN (x / 100) (x % 100 / 2) (x % 100 % 2) := by
              rcases w4 with w | w
              · exact absurd w h9
              · exact w
            unfold isN at h11
            rw [if_neg h9, ed, er, e2, e3, m_isNote, if_neg h11, ybd_s, if_pos rfl]
            simp
        · have ed : zdiv x 100 = x / 100 := zdiv_e ⟨by omega, by omega⟩ (by omega) (by omega) (by omega)
          have er : zrem x 100 = x % 100 := zrem_e ⟨by omega, by omega⟩ (by omega) (by omega) (by omega)
          have e2 : zdiv (x % 100) 2 = x % 100 / 2 := zdiv_e ⟨by omega, by omega⟩ (by omega) (by omega) (by omega)
          have e3 : zrem (x % 100) 2 = x % 100 % 2 := zrem_e ⟨by omega, by omega⟩ (by omega) (by omega) (by omega)
          unfold isN at w5
          rw [if_neg (show ¬ x < 0 by omega), ed, er, e2, e3, m_isNote, if_pos w5, ybd_s, if_neg (by omega), w6, ybd_s]
          rcases w7 with ⟨rfl, rfl⟩ | ⟨rfl, rfl⟩ | ⟨rfl, rfl⟩
          · rw [if_neg (by omega), if_pos rfl, ek]
          · rw [if_pos (by omega), if_pos rfl]
            simp
          · rw [if_pos (by omega), if_neg (by omega)]
            simp
    clear dis
    by_cases e0 : e = 0
    · subst e0
      have es1 : zup s1 0 15 0 = s1 := z15_0 (by rw [n0]; exact h15)
      rw [es1] at I2
      obtain ⟨e', w, H', s', B', ow', p1, p2, p3, p4, p5, p6, p7, p8, p9⟩ := ih f1 f2 (k + 1) _ s1 B1 ow1 I2 (by rw [n0]; exact ht) (by rw [so 3 (by omega) (by omega) (by omega) (by omega) (by omega)]; exact hk) (by rw [so 6 (by omega) (by omega) (by omega) (by omega) (by omega)]; exact hv) (by rw [n0]; exact h15) (by rw [so 78 (by omega) (by omega) (by omega) (by omega) (by omega)]; exact hso) (by omega) (by omega) (by omega) (by omega)
      have x2 : znx (zwr H1 X 5 0) = znx H1 := rfl
      have x3 : zus (zwr H1 X 5 0) = zus H1 := rfl
      have kp2 := kp.2.1
      have kp3 := kp.2.2.1
      exact ⟨e', w, H', s', B', ow', by rw [stp, if_pos rfl]; exact p1, fun K1 K2 K3 => by rw [gst, if_pos rfl]; exact p2 K1 K2 K3, p3, p4, z1.tr p5, by omega, by omega, fun a ha h9 k' => (p8 a ha h9 k').trans (z4 a ha h9 k'), p9⟩
    · obtain ⟨f1, rfl⟩ : ∃ f', f1 = f' + 1 := ⟨f1 - 1, by omega⟩
      have x2 : znx (zwr H1 X 5 e) = znx H1 := rfl
      have x3 : zus (zwr H1 X 5 e) = zus H1 := rfl
      have kp2 := kp.2.1
      have kp3 := kp.2.2.1
      refine ⟨e, (k : Int), zwr H1 X 5 e, s1, B1, ow1, ?_, fun K1 K2 K3 => by rw [gst, if_neg e0, if_neg e0], he, I2, z1, by omega, by omega, z4, fun w => absurd w e0⟩
      rw [stp, if_neg e0, fH_music_l7]
      simp only [k1, if_true, ygi, ztg_wr, ft0 F1, zA10, c2, e0, if_false]
theorem k_music {H : zHp} {s : zSg} {B : Nat → Nat → Nat} {ow : Nat → Nat × Nat} (I : IV X H s A B K ow) {t v tp i n : Int} (hi : zR32 i) : wX (fH_music X t v tp i n H) fun x H' => wX (gM_music t v tp i n s) fun w s' => w = x ∧ KD X H H' s' := by
  have F := I.1
  have hn := I.n
  unfold fH_music gM_music
  simp only [wX_s, wX_bd, wX_vl, wX_jn, wX_ite, wX_dv, wX_n0, wX_rb, wX_rc, wX_ry, wX_gi, wX_gr, wX_pi, wX_pz, wX_pr, wX_ai, wX_ab, wX_ar, wX_si, wX_sz, wX_sb, wX_sr, wX_ln, wX_nw, wX_na, wX_nm, wX_io, wX_ck, wX_cp, wX_cl, wX_ca, wX_sv, wX_sc, wX_rd, wX_wi, wX_wz, wX_wb, e_thingAt I, e_scoreAt I, mi_isThing I, e_in, e_within, e_isTape, i01, ft0 F, zA10, true_and]
  by_cases h : 0 ≤ t ∧ t ≤ s 0 2 - 1
  · have ht : ((t.toNat : Nat) : Int) < s 0 2 := by omega
    have hp := I.pos ht
    simp only [h, and_self, true_and, if_true, not_true, if_false, show ¬ A t.toNat = 0 by omega]
    by_cases htp : 0 ≤ tp ∧ tp ≤ 5
    · simp only [htp, and_self, not_true, if_false, mi_isMusic I h, wX_s, i01]
      by_cases hk : s 3 t.toNat = 1 ∨ s 3 t.toNat = 6
      · have hs := (I.st ht).2.1 hk
        have e1 : zsub (s 6 t.toNat) 1 = s 6 t.toNat - 1 := zsub_e (by have := hs.2.1; omega) (by have := hs.2.1; omega)
        obtain ⟨-, hg, -, -⟩ := I.hd ht
        have hb0 : 0 ≤ t ∧ t < ((60 : Nat) : Int) := by omega
        simp only [hk, if_true, not_true, if_false, show ¬ A t.toNat = 0 by omega, e_hasVoice I ht hk, wX_s, i01, e1, hg, tgk_8.mpr hk, true_and, hb0]
        by_cases h2 : 0 ≤ v ∧ v ≤ s 6 t.toNat - 1
        · simp only [h2, and_self, not_true, if_false]
          by_cases h3 : 1 ≤ n ∧ n ≤ 60
          · obtain ⟨⟨a1, a2, a3⟩, -, -⟩ := I.2.1.2.2.2.2.2.2.1 tp.toNat (by omega)
            have a1' : zct H (X + 34) tp.toNat = s 78 tp.toNat := a1
            have b1 : tp < ((6 : Nat) : Int) := by omega
            simp only [h3, and_self, not_true, if_false, fp0_16 F, ft34 F, fl34 F, a1', htp.1, b1, true_or, true_and, true_and]
            have key : (s 78 tp.toNat = -1 ∨ s 78 tp.toNat = 1) → wX (fH_music_l7 zFU X v tp i n (A t.toNat) 0 (zwr H X 5 0)) (fun x H' => wX (gM_music_l7 zFU t v tp i n 0 (zup s 0 15 0) (fun x57 s58 => yvl (zup s58 0 15 1) fun s60 => some (x57, s60)) (fun x66 s67 => yvl (zup s67 0 15 3) fun s65 => some (x66, s65)) (fun x61 x62 s63 => yvl (zup s63 0 15 x62) fun s65 => some (x61, s65))) (fun w s' => w = x ∧ KD X H H' s')) := fun hso => by
              obtain ⟨e, w, H', s', B', ow', p1, p2, p3, p4, p5, p6, p7, p8, p9⟩ := e_music_l (X := X) (A := A) (K := K) (t := t.toNat) (v := v.toNat) (tp := tp.toNat) (n := n.toNat) hi (by omega) (by omega) _ zFU zFU 0 (zwr H X 5 0) (zup s 0 15 0) B ow (I.me (by omega)) ht hk (by show ((v.toNat : Nat) : Int) ≤ s 6 t.toNat - 1; omega) rfl hso rfl (by rw [zFU_e]; omega) (by rw [zFU_e]; omega) (by omega)
              rw [show ((v.toNat : Nat) : Int) = v by omega, show ((tp.toNat : Nat) : Int) = tp by omega, show ((n.toNat : Nat) : Int) = n by omega] at p1
              rw [show ((v.toNat : Nat) : Int) = v by omega, show ((tp.toNat : Nat) : Int) = tp by omega, show ((n.toNat : Nat) : Int) = n by omega, show ((t.toNat : Nat) : Int) = t by omega] at p2
              have kd : KD X H H' (zup s' 0 15 e) := by
                have z1 : zst H (zwr H X 5 0) := (by repeat first | exact zst.rf | apply zst.wr)
                refine ⟨z1.tr p5, ?_, ?_, fun a ha h9 k => ?_, A, B', K, ow', p4⟩
                · have : znx (zwr H X 5 0) = znx H := rfl
                  omega
                · have : zus (zwr H X 5 0) = zus H := rfl
                  omega
                · rw [p8 a ha h9, zct_wr, if_neg (by omega)]
              refine wX_e p1 ?_
              rw [show ((0 : Nat) : Int) = 0 from rfl] at p2
              rw [p2]
              have he : e = 0 ∨ e = 1 ∨ e = 2 ∨ e = 3 := by omega
              rcases he with rfl | rfl | rfl | rfl
              · rw [z15_0 (p9 rfl)] at kd
                simp only [if_true, wX_s, true_and]
                exact kd
              · simp only [show ¬ (1 : Int) = 0 by omega, if_false, if_true, yvl, wX_s, true_and]
                exact kd
              · simp only [show ¬ (2 : Int) = 0 by omega, show ¬ (2 : Int) = 1 by omega, if_false, if_true, yvl, wX_s, true_and]
                exact kd
              · simp only [show ¬ (3 : Int) = 0 by omega, show ¬ (3 : Int) = 1 by omega, show ¬ (3 : Int) = 2 by omega, if_false, yvl, wX_s, true_and]
                exact kd
            simp only [ft0 F, zA10, true_and]
            by_cases w1 : s 78 tp.toNat = -1
            · simp only [w1, if_true, show (-1 : Int) < 0 by omega]
              exact key (Or.inl w1)
            · by_cases w2 : s 78 tp.toNat = 1
              · simp only [w2, if_true, if_false, show ¬ (1 : Int) < 0 by omega, show ¬ (1 : Int) = -1 by omega]
                exact key (Or.inr w2)
              · simp only [w1, w2, if_false, show ¬ s 78 tp.toNat < 0 by omega]
                (first | exact KD.rf I | exact ⟨trivial, KD.rf I⟩ | exact ⟨rfl, KD.rf I⟩)
          · simp only [h3, not_false_iff, if_true]
            (repeat first | exact (KD.rf I) | refine ⟨by omega, ?_⟩)
        · simp only [h2, not_false_iff, if_true]
          (repeat first | exact (KD.rf I) | refine ⟨by omega, ?_⟩)
      · simp only [hk, if_false, if_true, not_false_iff]
        (first | exact KD.rf I | exact ⟨trivial, KD.rf I⟩ | exact ⟨rfl, KD.rf I⟩)
    · simp only [htp, not_false_iff, if_true]
      (first | exact KD.rf I | exact ⟨trivial, KD.rf I⟩ | exact ⟨rfl, KD.rf I⟩)
  · simp only [h, false_and, if_false, if_true, not_false_iff]
    (first | exact KD.rf I | exact ⟨trivial, KD.rf I⟩ | exact ⟨rfl, KD.rf I⟩)
end MUSIC2
