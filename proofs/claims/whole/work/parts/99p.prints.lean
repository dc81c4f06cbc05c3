section PRINTS5
variable {X : Nat} {H : zHp} {s : zSg} {A : Nat → Nat} {B : Nat → Nat → Nat} {K : Nat → Nat} {ow : Nat → Nat × Nat} {m : Nat}
theorem LQ_eq {T T' : Nat → Bool} : ∀ (d k : Nat), (∀ j, k ≤ j → j < k + d → T j = T' j) → LQ id T d k = LQ id T' d k
  | 0, _, _ => rfl
  | d + 1, k, h => by
    have ih := LQ_eq (T := T) (T' := T') d (k + 1) (fun j h1 h2 => h j (by omega) (by omega))
    have e := h k (Nat.le_refl _) (by omega)
    show (if T k = true then k :: LQ id T d (k + 1) else LQ id T d (k + 1)) = (if T' k = true then k :: LQ id T' d (k + 1) else LQ id T' d (k + 1))
    rw [ih, e]
theorem LQ_TL : ∀ (d k : Nat) (L : List Nat), k + d = m → srt m k L → LQ id (TL id L) d k = L
  | 0, k, L, h, hs => by
    cases L with
    | nil => rfl
    | cons p L =>
      have := hs.1
      omega
  | d + 1, k, L, h, hs => by
    show (if TL id L k = true then k :: LQ id (TL id L) d (k + 1) else LQ id (TL id L) d (k + 1)) = L
    cases L with
    | nil => exact LQ_TL d (k + 1) [] (by omega) trivial
    | cons p L =>
      by_cases c : p = k
      · subst c
        have e : TL id (p :: L) p = true := by show (if p = p then true else TL id L p) = true; rw [if_pos rfl]
        rw [e, if_pos rfl, LQ_eq (T' := TL id L) d (p + 1) (fun j h1 h2 => by show (if j = p then true else TL id L j) = TL id L j; rw [if_neg (by omega)]), LQ_TL d (p + 1) L (by omega) hs.2]
      · have := hs.1
        have e : TL id (p :: L) k = false := TLid_off (p :: L) (k := k + 1) ⟨⟨by omega, by omega⟩, hs.2⟩ (by omega)
        rw [e, if_neg (show ¬ false = true by decide)]
        exact LQ_TL d (k + 1) (p :: L) (by omega) ⟨⟨by omega, by omega⟩, hs.2⟩
theorem TLid_all (T : Nat → Bool) : ∀ j, j < m → TL id (LQ id T m 0) j = T j := fun j hj => by
  have := LQ_tl (o := id) (T := T) (j := j) m 0
  cases c : T j with
  | true => exact this.mpr ⟨j, by omega, by omega, rfl, c⟩
  | false =>
    cases c2 : TL id (LQ id T m 0) j with
    | false => rfl
    | true =>
      obtain ⟨-, -, -, -, w⟩ := this.mp c2
      rw [c] at w
      cases w
theorem m_costT (hp : HP s m) (T : Nat → Bool) : ∃ r, gM_costOf ((bk m T : Nat) : Int) s = some (r, s) ∧ ((PF s m (LQ id T m 0) ∧ r = ((ck s m (LQ id T m 0) : Nat) : Int)) ∨ (¬ PF s m (LQ id T m 0) ∧ r = -1)) := by
  have m10 := hp.2.1
  obtain ⟨r, r1, r2⟩ := m_cost_l hp (T := T) m zFU 0 (by omega) (by rw [zFU_e]; omega)
  refine ⟨r, r1, ?_⟩
  unfold PF
  rcases r2 with ⟨a, b, c⟩ | ⟨a, b⟩
  · exact Or.inl ⟨⟨a, fun i hi => b i (Nat.zero_le _) hi⟩, c⟩
  · exact Or.inr ⟨fun w => a ⟨w.1, fun i _ hi => w.2 i hi⟩, b⟩
theorem hdm_le {L : List Nat} (h : okQ s m L) : hdm m L ≤ m := by
  cases L with
  | nil => exact Nat.le_refl _
  | cons p L =>
    have a := h.1.1
    have b := h.1.2
    show p ≤ m
    omega
theorem PF_of {L : List Nat} {T : Nat → Bool} (h : PF s m L) (hb : bk m (TL id L) = bk m T) : L = LQ id T m 0 := by
  have sr := okQ.srt (k := 0) L h.1 (Nat.zero_le _)
  have e := keys_bk hb
  rw [← LQ_eq (T := TL id L) m 0 (fun j _ hj => e j (by omega))]
  exact (LQ_TL m 0 L (by omega) sr).symm
def Bs (s : zSg) (m b : Nat) (x y : Int) : Prop := (x = -1 ∧ ∀ L', PF s m L' → ¬ bk m (TL id L') < b) ∨ ∃ Lb, PF s m Lb ∧ x = ((bk m (TL id Lb) : Nat) : Int) ∧ y = ((ck s m Lb : Nat) : Int) ∧ bk m (TL id Lb) < b ∧ ∀ L', PF s m L' → bk m (TL id L') < b → ¬ CtL s m L' Lb
theorem m_prints_l (hp : HP s m) (a : Int) : ∀ (d f b : Nat) (x y : Int), 2 ^ m - b = d → d < f → b ≤ 2 ^ m → Bs s m b x y → ∃ x' y', (∀ Q, gM_prints_l5 f a x y (b : Int) s Q = Q a x' y' s) ∧ Bs s m (2 ^ m) x' y' := by
  have m10 := hp.2.1
  have h70 := hp.1
  have p10 := Nat.pow_le_pow_right (n := 2) (by omega) m10
  have c10 : (2 : Nat) ^ 10 = 1024 := rfl
  have z := zshl_11 ⟨m, by omega⟩
  dsimp only at z
  intro d
  induction d with
  | zero =>
    intro f b x y h1 h2 h3 bs
    obtain ⟨f, rfl⟩ : ∃ f', f = f' + 1 := ⟨f - 1, by omega⟩
    have eb : b = 2 ^ m := by omega
    refine ⟨x, y, fun Q => ?_, by rw [← eb]; exact bs⟩
    rw [gM_prints_l5, h70, z]
    simp only [yjn]
    rw [if_neg (by omega)]
  | succ d ih =>
    intro f b x y h1 h2 h3 bs
    obtain ⟨f, rfl⟩ : ∃ f', f = f' + 1 := ⟨f - 1, by omega⟩
    have hb : (b : Int) < ((2 ^ m : Nat) : Int) := by omega
    have x1 : 2 ^ m - (b + 1) = d := by omega
    have x2 : d < f := by omega
    have x3 : b + 1 ≤ 2 ^ m := by omega
    have eb1 : zadd (b : Int) 1 = ((b + 1 : Nat) : Int) := by rw [zadd_e (by omega) (by omega)]; omega
    have eb : bk m b.testBit = b := by
      unfold bk
      rw [sumP_of, Nat.mod_eq_of_lt (by omega)]
    obtain ⟨L0, eL⟩ : ∃ L0, L0 = LQ id b.testBit m 0 := ⟨_, rfl⟩
    have k0 : bk m (TL id L0) = b := by
      rw [eL, (keys_of (s := s) (TLid_all (m := m) b.testBit)).2.2, eb]
    obtain ⟨r, r1, r2⟩ := m_costT hp b.testBit
    rw [eb] at r1
    rw [← eL] at r2
    have pp : ∀ T, pop 10 (bk m T) = zk m T := fun T => by
      have := pop_10 (T := T) (n := m) (10 - m)
      rw [show m + (10 - m) = 10 by omega] at this
      exact this
    have bo1 : gM_bitsOf (b : Int) s = some (((zk m (TL id L0) : Nat) : Int), s) := by rw [m_bitsOf (by omega), ← pp, k0]
    have other : ∀ L', PF s m L' → bk m (TL id L') = b → L' = L0 := fun L' h hb' => by
      rw [eL]
      exact PF_of h (by rw [hb', eb])
    -- the new one is taken
    have take : PF s m L0 → r = ((ck s m L0 : Nat) : Int) → (∀ L', PF s m L' → bk m (TL id L') < b → ¬ CtL s m L' L0) → ∃ x' y', (∀ Q, gM_prints_l5 f a (b : Int) r ((b + 1 : Nat) : Int) s Q = Q a x' y' s) ∧ Bs s m (2 ^ m) x' y' := fun h h' w =>
      ih f (b + 1) (b : Int) r x1 x2 x3 (Or.inr ⟨L0, h, by rw [k0], h', by omega, fun L' hL hb' => by
        by_cases c : bk m (TL id L') = b
        · rw [other L' hL c]; exact CtL.irr
        · exact w L' hL (by omega)⟩)
    have keep : (PF s m L0 → ∃ Lb, x = ((bk m (TL id Lb) : Nat) : Int) ∧ PF s m Lb ∧ bk m (TL id Lb) < b ∧ y = ((ck s m Lb : Nat) : Int) ∧ (∀ L', PF s m L' → bk m (TL id L') < b → ¬ CtL s m L' Lb) ∧ ¬ CtL s m L0 Lb) → ∃ x' y', (∀ Q, gM_prints_l5 f a x y ((b + 1 : Nat) : Int) s Q = Q a x' y' s) ∧ Bs s m (2 ^ m) x' y' := fun w =>
      ih f (b + 1) x y x1 x2 x3 (by
        by_cases c0 : PF s m L0
        · obtain ⟨Lb, w1, w2, w3, w4, w5, w6⟩ := w c0
          refine Or.inr ⟨Lb, w2, w1, w4, by omega, fun L' hL hb' => ?_⟩
          by_cases c : bk m (TL id L') = b
          · rw [other L' hL c]; exact w6
          · exact w5 L' hL (by omega)
        · rcases bs with ⟨w1, w2⟩ | ⟨Lb, w1, w2, w3, w4, w5⟩
          · refine Or.inl ⟨w1, fun L' hL hb' => ?_⟩
            by_cases c : bk m (TL id L') = b
            · rw [other L' hL c] at hL; exact c0 hL
            · exact w2 L' hL (by omega)
          · refine Or.inr ⟨Lb, w1, w2, w3, by omega, fun L' hL hb' => ?_⟩
            by_cases c : bk m (TL id L') = b
            · rw [other L' hL c] at hL; exact absurd hL c0
            · exact w5 L' hL (by omega))
    rcases r2 with ⟨w1, w2⟩ | ⟨w1, w2⟩
    · have rn : ¬ r < 0 := by omega
      rcases bs with ⟨v1, v2⟩ | ⟨Lb, v1, v2, v3, v4, v5⟩
      · obtain ⟨x', y', i1, i2⟩ := take w1 w2 (fun L' hL hb' => absurd hb' (v2 L' hL))
        refine ⟨x', y', fun Q => ?_, i2⟩
        rw [← i1 Q, gM_prints_l5, h70, z]
        simp only [yjn, yvl, hb, if_true, r1, ybd_s, rn, if_false, v1, show (-1 : Int) < 0 by decide, eb1]
      · have xn : ¬ x < 0 := by omega
        have bo2 : gM_bitsOf x s = some (((zk m (TL id Lb) : Nat) : Int), s) := by rw [v2, m_bitsOf (by omega), pp]
        by_cases c1 : y < r
        · obtain ⟨x', y', i1, i2⟩ := keep (fun _ => ⟨Lb, v2, v1, v4, v3, v5, by unfold CtL Ct; omega⟩)
          refine ⟨x', y', fun Q => ?_, i2⟩
          rw [← i1 Q, gM_prints_l5, h70, z]
          simp only [yjn, yvl, hb, if_true, r1, ybd_s, rn, if_false, xn, c1, eb1]
        · by_cases c2 : r = y
          · by_cases c3 : ((zk m (TL id L0) : Nat) : Int) < ((zk m (TL id Lb) : Nat) : Int)
            · obtain ⟨x', y', i1, i2⟩ := take w1 w2 (fun L' hL hb' => CtL.le (v5 L' hL hb') (by unfold CtL Ct; omega))
              refine ⟨x', y', fun Q => ?_, i2⟩
              rw [← i1 Q, gM_prints_l5, h70, z]
              simp only [yjn, yvl, hb, if_true, r1, ybd_s, rn, if_false, xn, c1, if_pos c2, bo1, bo2, c3, eb1]
            · obtain ⟨x', y', i1, i2⟩ := keep (fun _ => ⟨Lb, v2, v1, v4, v3, v5, by unfold CtL Ct; omega⟩)
              refine ⟨x', y', fun Q => ?_, i2⟩
              rw [← i1 Q, gM_prints_l5, h70, z]
              simp only [yjn, yvl, hb, if_true, r1, ybd_s, rn, if_false, xn, c1, if_pos c2, bo1, bo2, c3, eb1]
          · obtain ⟨x', y', i1, i2⟩ := take w1 w2 (fun L' hL hb' => CtL.le (v5 L' hL hb') (by unfold CtL Ct; omega))
            refine ⟨x', y', fun Q => ?_, i2⟩
            rw [← i1 Q, gM_prints_l5, h70, z]
            simp only [yjn, yvl, hb, if_true, r1, ybd_s, rn, if_false, xn, c1, if_neg c2, eb1]
    · have rn : r < 0 := by omega
      obtain ⟨x', y', i1, i2⟩ := keep (fun h => absurd h w1)
      refine ⟨x', y', fun Q => ?_, i2⟩
      rw [← i1 Q, gM_prints_l5, h70, z]
      simp only [yjn, yvl, hb, if_true, r1, ybd_s, rn, eb1]
theorem sg_one {k : Nat} : ∀ c, (∀ i, k < i → i < k + 1 + c → s 71 i = 0) → sgN s k (c + 1) = (s 71 k).toNat
  | 0, _ => by show 0 + (s 71 (k + 0)).toNat = _; rw [Nat.add_zero, Nat.zero_add]
  | c + 1, h => by
    have ih := sg_one c (fun i h1 h2 => h i h1 (by omega))
    have z := h (k + (c + 1)) (by omega) (by omega)
    show sgN s k (c + 1) + (s 71 (k + (c + 1))).toNat = _
    rw [ih, z]
    rfl
theorem someP (hp : HP s m) (h : ∀ j, j < m → s 71 j ≤ s 0 74) : ∀ (d k : Nat), k + d = m → ∃ L, okQ s m L ∧ k ≤ hdm m L ∧ ∀ i, k ≤ i → i < hdm m L → s 71 i = 0
  | 0, k, e => ⟨[], trivial, by show k ≤ m; omega, fun i h1 h2 => by have : i < m := h2; omega⟩
  | d + 1, k, e => by
    obtain ⟨L, l1, l2, l3⟩ := someP hp h d (k + 1) (by omega)
    have q := hp.2.2.1 k (by omega)
    have q2 := h k (by omega)
    have hm := hdm_le l1
    by_cases c : s 71 k = 0
    · refine ⟨L, l1, by omega, fun i h1 h2 => ?_⟩
      by_cases c2 : i = k
      · rw [c2]; exact c
      · exact l3 i (by omega) h2
    · have so := sg_one (s := s) (k := k) (hdm m L - k - 1) (fun i h1 h2 => l3 i (by omega) (by omega))
      refine ⟨k :: L, ⟨⟨by omega, hm⟩, ?_, l1⟩, Nat.le_refl _, fun i h1 h2 => by have : i < k := h2; omega⟩
      unfold run1
      rw [show hdm m L - k = hdm m L - k - 1 + 1 by omega, so]
      omega
theorem e_atm_l (hp : HP s m) {H : zHp} (hc : HPC X H s m) : ∀ (d f k : Nat) (x : Int), m - k = d → d < f → k ≤ m → (x = 0 ∨ x = 1) → ∃ v, fPrintPlan_asksTooMuch_l1 f (X + 22) x (k : Int) H = some (v, H) ∧ (v = 0 ↔ x = 0 ∧ ∀ j, k ≤ j → j < m → s 71 j ≤ s 0 74) := by
  obtain ⟨y1, y2, y3, y4, y5, y6⟩ := id hp
  obtain ⟨F, ⟨c1, c2, c3, c4⟩, c5⟩ := id hc
  intro d
  induction d with
  | zero =>
    intro f k x h1 h2 h3 h4
    obtain ⟨f, rfl⟩ : ∃ f', f = f' + 1 := ⟨f - 1, by omega⟩
    obtain rfl : k = m := by omega
    refine ⟨x, ?_, fun w => ⟨w, fun j h5 h6 => by omega⟩, fun w => w.1⟩
    rw [fPrintPlan_asksTooMuch_l1]
    simp only [yjn, ygi, ft22 F, zA7, if_true, c4, Int.lt_irrefl, if_false]
    rcases h4 with e | e <;> rw [e] <;> rfl
  | succ d ih =>
    intro f k x h1 h2 h3 h4
    obtain ⟨f, rfl⟩ : ∃ f', f = f' + 1 := ⟨f - 1, by omega⟩
    have hk : k < m := by omega
    have l1 : (k : Int) < (m : Int) := by omega
    have bq : 0 ≤ (k : Int) ∧ (k : Int) < ((10 : Nat) : Int) := by omega
    have ek : zadd (k : Int) 1 = ((k + 1 : Nat) : Int) := by rw [zadd_e (by omega) (by omega)]; omega
    have q := c5 k hk
    rcases h4 with e | e
    · by_cases g : s 0 74 < s 71 k
      · obtain ⟨v, i1, i2⟩ := ih f (k + 1) 1 (by omega) (by omega) (by omega) (Or.inr rfl)
        refine ⟨v, ?_, i2.trans ⟨fun w => absurd w.1 (by decide), fun w => absurd (w.2 k (Nat.le_refl _) hk) (by omega)⟩⟩
        rw [← i1, fPrintPlan_asksTooMuch_l1]
        simp only [yjn, yvl, ygi, ygr, yai, ft22 F, zA7, if_true, c4, l1, e, fp22_4 F, ft23 F, fl23 F, bq, true_or, and_self, Int.toNat_natCast, q, c3, g, ek]
      · obtain ⟨v, i1, i2⟩ := ih f (k + 1) 0 (by omega) (by omega) (by omega) (Or.inl rfl)
        refine ⟨v, ?_, i2.trans ⟨fun w => ⟨e, fun j h5 h6 => ?_⟩, fun w => ⟨rfl, fun j h5 h6 => w.2 j (by omega) h6⟩⟩⟩
        · rw [← i1, fPrintPlan_asksTooMuch_l1]
          simp only [yjn, yvl, ygi, ygr, yai, ft22 F, zA7, if_true, c4, l1, e, fp22_4 F, ft23 F, fl23 F, bq, true_or, and_self, Int.toNat_natCast, q, c3, g, if_false, ek]
        · by_cases c : j = k
          · rw [c]; omega
          · exact w.2 j (by omega) h6
    · obtain ⟨v, i1, i2⟩ := ih f (k + 1) 1 (by omega) (by omega) (by omega) (Or.inr rfl)
      refine ⟨v, ?_, i2.trans ⟨fun w => absurd w.1 (by decide), fun w => absurd w.1 (by omega)⟩⟩
      rw [← i1, fPrintPlan_asksTooMuch_l1]
      simp only [yjn, yvl, ygi, ft22 F, zA7, if_true, c4, l1, e, show ¬ (1 : Int) = 0 by decide, if_false, ek]
theorem m_big_l (hp : HP s m) (a : Int) : ∀ (d f k : Nat), m - k = d → d < f → k ≤ m → ∀ Q, ((∀ j, k ≤ j → j < m → s 71 j ≤ s 0 74) → gM_prints_l2 f a (k : Int) s Q = Q a s) ∧ (¬ (∀ j, k ≤ j → j < m → s 71 j ≤ s 0 74) → gM_prints_l2 f a (k : Int) s Q = some (-3, s)) := by
  obtain ⟨y1, y2, y3, y4, y5, y6⟩ := id hp
  intro d
  induction d with
  | zero =>
    intro f k h1 h2 h3 Q
    obtain ⟨f, rfl⟩ : ∃ f', f = f' + 1 := ⟨f - 1, by omega⟩
    obtain rfl : k = m := by omega
    refine ⟨fun _ => ?_, fun w => absurd (fun j h5 h6 => by omega) w⟩
    rw [gM_prints_l2, y1, if_neg (Int.lt_irrefl _)]
  | succ d ih =>
    intro f k h1 h2 h3 Q
    obtain ⟨f, rfl⟩ : ∃ f', f = f' + 1 := ⟨f - 1, by omega⟩
    have hk : k < m := by omega
    have k10 : k < 10 := by omega
    have l1 : (k : Int) < (m : Int) := by omega
    have ek : zadd (k : Int) 1 = ((k + 1 : Nat) : Int) := by rw [zadd_e (by omega) (by omega)]; omega
    obtain ⟨i1, i2⟩ := ih f (k + 1) (by omega) (by omega) (by omega) Q
    by_cases g : s 0 74 < s 71 k
    · refine ⟨fun w => absurd (w k (Nat.le_refl _) hk) (by omega), fun _ => ?_⟩
      rw [gM_prints_l2, y1]
      simp only [l1, if_true, yrd_n k10, g]
    · have run : gM_prints_l2 (f + 1) a (k : Int) s Q = gM_prints_l2 f a ((k + 1 : Nat) : Int) s Q := by
        rw [gM_prints_l2, y1]
        simp only [l1, if_true, yrd_n k10, g, if_false, yvl, ek]
      rw [run]
      refine ⟨fun w => i1 fun j h5 h6 => w j (by omega) h6, fun w => i2 fun w2 => w fun j h5 h6 => ?_⟩
      by_cases c : j = k
      · rw [c]; omega
      · exact w2 j (by omega) h6
set_option maxRecDepth 100000 in
theorem k_prints (I : IV X H s A B K ow) {u : Int} : wX (fH_prints X u H) fun x H' => wX (gM_prints u s) fun y s' => y = x ∧ KD X H H' s' := by
  have F := I.1
  have g := I.2.1.2.2.2.2.2.1
  obtain ⟨⟨q1, q2, q3, q4⟩, q5, q6, q7, q8, q9⟩ := g
  obtain ⟨m, em⟩ : ∃ m : Nat, s 0 70 = (m : Int) := ⟨(s 0 70).toNat, by omega⟩
  have hp : HP s m := ⟨em, by omega, fun j hj => (q9 j (by omega)).2, q5, q6, q7⟩
  have hc : HPC X H s m := ⟨F, ⟨q1, q2, q3, by rw [← em]; exact q4⟩, fun j hj => (q9 j (by omega)).1⟩
  have m10 := hp.2.1
  unfold fH_prints gM_prints
  simp only [wX_s, wX_bd, wX_vl, wX_jn, wX_ite, wX_dv, wX_n0, wX_rb, wX_rc, wX_ry, wX_gi, wX_gr, wX_pi, wX_pz, wX_pr, wX_ai, wX_ab, wX_ar, wX_si, wX_sz, wX_sb, wX_sr, wX_ln, wX_nw, wX_na, wX_nm, wX_io, wX_ck, wX_cp, wX_cl, wX_ca, wX_sv, wX_sc, wX_rd, wX_wi, wX_wz, wX_wb, e_in, e_within, i01, ft0 F, zA10, true_and]
  by_cases hu : 0 ≤ u ∧ u ≤ 1
  · obtain ⟨v, v1, v2⟩ := e_atm_l hp hc m zFU 0 0 (by omega) (by rw [zFU_e]; omega) (by omega) (Or.inl rfl)
    have v1' : fPrintPlan_asksTooMuch (X + 22) H = some (v, H) := v1
    have mb := m_big_l hp u m zFU 0 (by omega) (by rw [zFU_e]; omega) (by omega)
    have mb' : ∀ Q, ((∀ j, 0 ≤ j → j < m → s 71 j ≤ s 0 74) → gM_prints_l2 zFU u 0 s Q = Q u s) ∧ (¬ (∀ j, 0 ≤ j → j < m → s 71 j ≤ s 0 74) → gM_prints_l2 zFU u 0 s Q = some (-3, s)) := mb
    by_cases c : ∀ j, 0 ≤ j → j < m → s 71 j ≤ s 0 74
    · have v0 : v = 0 := v2.mpr ⟨rfl, c⟩
      obtain ⟨H', b, b1, b2, b3, b4, b5⟩ := e_bestP hp hc
      obtain ⟨x', y', p1, p2⟩ := m_prints_l hp u (2 ^ m) zFU 0 (-1) 0 (Nat.sub_zero _) (by
        have p10 := Nat.pow_le_pow_right (n := 2) (by omega) m10
        have c10 : (2 : Nat) ^ 10 = 1024 := rfl
        rw [zFU_e]; omega) (Nat.zero_le _) (Or.inl ⟨rfl, fun L' _ h => by omega⟩)
      have p1' : ∀ Q, gM_prints_l5 zFU u (-1) 0 0 s Q = Q u x' y' s := p1
      obtain ⟨L, l1, l2, l3⟩ := someP hp (fun j hj => c j (Nat.zero_le _) hj) m 0 (by omega)
      have pf : PF s m L := ⟨l1, fun i hi => l3 i (Nat.zero_le _) hi⟩
      obtain ⟨La, a1, ⟨a2, a3, a4⟩, a5⟩ : ∃ La, PF s m La ∧ (zct H' (X + 24) b = ((ck s m La : Nat) : Int) ∧ zct H' (X + 25) b = ((zk m (TL id La) : Nat) : Int) ∧ zct H' (X + 26) b = ((bk m (TL id La) : Nat) : Int)) ∧ ∀ L', PF s m L' → ¬ CtL s m L' La := by
        rcases b5 with ⟨-, w⟩ | w
        · exact absurd pf (w L)
        · exact w
      obtain ⟨Lb, t1, t2, t3, t4⟩ : ∃ Lb, PF s m Lb ∧ x' = ((bk m (TL id Lb) : Nat) : Int) ∧ y' = ((ck s m Lb : Nat) : Int) ∧ ∀ L', PF s m L' → ¬ CtL s m L' Lb := by
        rcases p2 with ⟨-, w⟩ | ⟨Lb, w1, w2, w3, -, w5⟩
        · exact absurd (sumP_lt m) (w L pf)
        · exact ⟨Lb, w1, w2, w3, fun L' h => w5 L' h (sumP_lt m)⟩
      obtain ⟨k1, k2⟩ := CtL.same (t4 La a1) (a5 Lb t1)
      have F' := b2.1
      have kd := KD.x12 (Or.inr rfl) I b3
      have bb : 0 ≤ (b : Int) ∧ (b : Int) < ((11 : Nat) : Int) := by omega
      simp only [hu, and_self, not_true, if_false, fp0_14 F, fp0_14 F', ft22 F, ft22 F', ft0 F, ft0 F', zA7, zA10, true_and, v1', v0, wX_s, if_true, b1, (mb' _).1 c, p1', fp22_5 F', fp22_7 F', ft24 F', fl24 F', ft26 F', fl26 F', bb, true_or, Int.toNat_natCast, a2, a4, t2, t3, k1, k2]
      by_cases hu0 : u = 0
      · simp only [hu0, if_true, wX_s]
        first | exact kd | exact ⟨trivial, trivial, kd⟩ | exact ⟨trivial, kd⟩ | exact ⟨rfl, trivial, kd⟩ | exact ⟨trivial, rfl, kd⟩
      · simp only [hu0, if_false, wX_s]
        first | exact kd | exact ⟨trivial, trivial, kd⟩ | exact ⟨trivial, kd⟩ | exact ⟨rfl, trivial, kd⟩ | exact ⟨trivial, rfl, kd⟩
    · have v0 : ¬ v = 0 := fun w => c (v2.mp w).2
      simp only [hu, and_self, not_true, if_false, fp0_14 F, ft22 F, zA7, true_and, v1', v0, wX_s, (mb' _).2 c]
      (first | exact KD.rf I | exact ⟨trivial, KD.rf I⟩ | exact ⟨rfl, KD.rf I⟩)
  · simp only [hu, not_false_iff, if_true]
    (first | exact KD.rf I | exact ⟨trivial, KD.rf I⟩ | exact ⟨rfl, KD.rf I⟩)
end PRINTS5
