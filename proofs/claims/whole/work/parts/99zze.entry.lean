/-! THE MACHINE AT THE LAW'S ENTRY: zStm -/
theorem zXM_l : zXM.length = 14 := by decide
theorem zXC_l : zXC.length = 6 := by decide
theorem st_Stm {s : State} {args : Array Value} {E ad : Nat → Nat} {t u : Nat} (hts : ∀ w ∈ lw_tbl, w.before args s = true) (hg : (Jvm.Cond.and given_1 narrow_1).before args s = true) (hw : ∀ i, i < 12 → (enTm i).eval args s none [] s = some (.ref (ad i)) ∧ E i = ad i + 1) (h12 : (Term.static "jdk/internal/util/Preconditions" "SIOOBE_FORMATTER" "Ljava/util/function/BiFunction;").eval args s none [] s = some (va_rf (zr2 (E 12))))
    (h13 : enK.eval args s none [] s = some (.ref t)) (e13 : E 13 = t + 1) (h14 : enB.eval args s none [] s = some (.ref u)) (e14 : E 14 = u + 1) : zStm (zA s.heap.size) s s.heap E := by
  have hs := flat_of_before _ hg
  refine ⟨fun k hk => ⟨ad k, (hw k hk).2, vk_R.of (w_at hts (p_sr ⟨k, hk⟩)) ?_⟩, va_Zof (w_at hts p_ls.1) (w_at hts p_in.1) (va_eqt (hs _ p_cs.1)) zA_no, va_Zof (w_at hts p_ls.2.1) (w_at hts p_in.2.1) h12 zA_no, ?_, ?_, fun c hc t ht hn => va_Nc.of (hs _ (p_nc c hc t ht hn)), fun q hq => ?_, fun q hq => ?_, ⟨fun q hq => ?_, w_at hts p_xo.2.2.2.2⟩, fun q hq => ?_⟩
  · have e := p_si ⟨k, hk⟩
    dsimp only at e
    rw [e]
    exact (hw k hk).1
  · rw [e13]
    exact va_Zof (w_at hts p_ls.2.2.2) (w_at hts p_in.2.2) h13 zA_no
  · rw [e14]
    exact va_Zof (w_at hts p_ls.2.2.1) (w_at hts p_in.2.2) h14 zA_no
  · obtain ⟨k, hk⟩ := List.mem_iff_getElem?.mp hq
    have kl : k < 14 := by rw [← zXM_l]; exact (List.getElem?_eq_some_iff.mp hk).1
    have e := p_xm ⟨k, kl⟩
    dsimp only at e
    rw [hk, Option.map_some] at e
    exact va_Nw.of rfl (w_at hts e)
  · obtain ⟨k, hk⟩ := List.mem_iff_getElem?.mp hq
    have kl : k < 6 := by rw [← zXC_l]; exact (List.getElem?_eq_some_iff.mp hk).1
    have e := p_xc ⟨k, kl⟩
    dsimp only at e
    rw [hk, Option.map_some] at e
    exact va_Nw.of rfl (w_at hts e)
  · unfold zXO at hq
    simp only [List.mem_cons, List.not_mem_nil, or_false] at hq
    rcases hq with rfl | rfl | rfl | rfl
    · exact va_AO.of (w_at hts p_xo.1)
    · exact va_AO.of (w_at hts p_xo.2.1)
    · exact va_AO.of (w_at hts p_xo.2.2.1)
    · exact va_AO.of (w_at hts p_xo.2.2.2.1)
  · unfold zXD at hq
    simp only [List.mem_cons, List.not_mem_nil, or_false] at hq
    rcases hq with rfl | rfl | rfl
    · exact va_Nw.of rfl (w_at hts p_xd.1)
    · exact va_Nw.of rfl (w_at hts p_xd.2.1)
    · exact va_Nw.of rfl (w_at hts p_xd.2.2)
