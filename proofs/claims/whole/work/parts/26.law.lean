/-! THE LAW as a plain function; what a method of the reference does, told of the whole heap -/
def zrd (R : Nat) (h : zHp) : zSg := fun k i => if k = 0 then zct h R i else zct h (zra R k) i
theorem zov_rd {R : Nat} {h : zHp} : zov R h (zrd R h) = h := by
  obtain ⟨t, l, c, n⟩ := h
  unfold zov
  refine congrArg (fun f => (t, l, f, n)) (funext fun a => funext fun i => ?_)
  show (if a = R then (if zrk i = 0 then (if (0 : Nat) = 0 then c R i else c (zra R 0) i) else c a i) else if R < a ∧ a ≤ R + 62 then (if zrn (a - R) = 0 then c R i else c (zra R (zrn (a - R))) i) else c a i) = c a i
  by_cases ha : a = R
  · rw [if_pos ha]
    subst ha
    by_cases hi : zrk i = 0
    · rw [if_pos hi, if_pos rfl]
    · rw [if_neg hi]
  · rw [if_neg ha]
    by_cases hb : R < a ∧ a ≤ R + 62
    · rw [if_pos hb]
      have h1 := zrn_ok (j := a - R) (by omega) (by omega)
      have h2 : zrn (a - R) ≠ 0 := fun q => by
        rw [q, zrk_0] at h1
        omega
      rw [if_neg h2]
      unfold zra
      rw [h1, show R + (a - R) = a by omega]
    · rw [if_neg hb]
noncomputable def zgx {A : Type} (R : Nat) (g : zSg → Option (A × zSg)) (h : zHp) : Option (A × zHp) :=
  haveI := Classical.propDecidable (zRg R h)
  if zRg R h then (g (zrd R h)).map (fun q => (q.1, zov R h q.2)) else none
theorem zgx_ok {A : Type} {J : A → Option zAV} {E : Nat → Nat} {d m R : Nat} {is : List zMI} {L : zLo} {st : List zAV} {h : zHp} {g : zSg → Option (A × zSg)} (hc : ∀ hw : zRg R h, zE (zov R h) J E d m is L st (zrd R h) (g (zrd R h))) : zE zI J E d m is L st h (zgx R g h) := fun v h' e => by
  unfold zgx at e
  by_cases hw : zRg R h
  · rw [if_pos hw] at e
    cases hg : g (zrd R h) with
    | none => rw [hg] at e; cases e
    | some q =>
      rw [hg] at e
      cases e
      obtain ⟨n, hn⟩ := hc hw q.1 q.2 (by rw [hg])
      rw [zov_rd] at hn
      exact ⟨n, hn⟩
  · rw [if_neg hw] at e; cases e
theorem zgx_of {A : Type} {R : Nat} {g : zSg → Option (A × zSg)} {h : zHp} {s s' : zSg} {v : A} (hw : zRg R h) (hs : zrd R h = s) (hg : g s = some (v, s')) : zgx R g h = some (v, zov R h s') := by
  unfold zgx
  rw [if_pos hw, hs, hg]
  rfl
noncomputable def fW_law_l1 (E : Nat → Nat) : Nat → Nat → Nat → Nat → Int → zHp → Option (Int × zHp)
  | 0, _, _, _, _, _ => none
  | n + 1, x7, x8, x9, x10, s11 =>
   yjn (fun (x12 : Nat) (x13 : Nat) (x14 : Nat) (x15 : Int) (s16 : zHp) =>
    yvl (zadd x15 8) fun v18 =>
    fW_law_l1 E n x12 x13 x14 v18 s16) fun q17 =>
    yln x7 s11 fun v19 =>
   if (zsub v19 8) < x10 then
     (some (1, s11))
   else
   yai x7 x10 s11 fun v20 =>
   yvl (zand v20 63) fun v21 =>
   if v21 = 0 then
     (yai x7 (zadd x10 1) s11 fun v22 =>
     yck 10 x8 s11 <| ybd (fH_pass x8 v22 s11) fun v23 s24 =>
     yai x7 (zadd x10 1) s24 fun v25 =>
     yck 11 x9 s24 <| ybd (zgx x9 (gM_pass v25) s24) fun v26 s27 =>
     if v23 = v26 then
       (q17 x7 x8 x9 x10 s27)
     else
     some (0, s27))
   else if v21 = 1 then
     (yck 10 x8 s11 <| ybd (fH_author x8 s11) fun v28 s29 =>
     yck 11 x9 s29 <| ybd (zgx x9 (gM_author) s29) fun v30 s31 =>
     if v28 = v30 then
       (q17 x7 x8 x9 x10 s31)
     else
     some (0, s31))
   else if v21 = 2 then
     (yai x7 (zadd x10 1) s11 fun v32 =>
     yai x7 (zadd x10 2) s11 fun v33 =>
     yck 10 x8 s11 <| ybd (fH_died x8 v32 v33 s11) fun v34 s35 =>
     yai x7 (zadd x10 1) s35 fun v36 =>
     yai x7 (zadd x10 2) s35 fun v37 =>
     yck 11 x9 s35 <| ybd (zgx x9 (gM_died v36 v37) s35) fun v38 s39 =>
     if v34 = v38 then
       (q17 x7 x8 x9 x10 s39)
     else
     some (0, s39))
   else if v21 = 3 then
     (yai x7 (zadd x10 1) s11 fun v40 =>
     yai x7 (zadd x10 2) s11 fun v41 =>
     yai x7 (zadd x10 3) s11 fun v42 =>
     yck 10 x8 s11 <| ybd (fH_score x8 v40 v41 v42 s11) fun v43 s44 =>
     yai x7 (zadd x10 1) s44 fun v45 =>
     yai x7 (zadd x10 2) s44 fun v46 =>
     yai x7 (zadd x10 3) s44 fun v47 =>
     yck 11 x9 s44 <| ybd (zgx x9 (gM_score v45 v46 v47) s44) fun v48 s49 =>
     if v43 = v48 then
       (q17 x7 x8 x9 x10 s49)
     else
     some (0, s49))
   else if v21 = 4 then
     (yai x7 (zadd x10 1) s11 fun v50 =>
     yai x7 (zadd x10 2) s11 fun v51 =>
     yai x7 (zadd x10 3) s11 fun v52 =>
     yai x7 (zadd x10 4) s11 fun v53 =>
     yck 10 x8 s11 <| ybd (fH_derive x8 v50 v51 v52 v53 s11) fun v54 s55 =>
     yai x7 (zadd x10 1) s55 fun v56 =>
     yai x7 (zadd x10 2) s55 fun v57 =>
     yai x7 (zadd x10 3) s55 fun v58 =>
     yai x7 (zadd x10 4) s55 fun v59 =>
     yck 11 x9 s55 <| ybd (zgx x9 (gM_derive v56 v57 v58 v59) s55) fun v60 s61 =>
     if v54 = v60 then
       (q17 x7 x8 x9 x10 s61)
     else
     some (0, s61))
   else if v21 = 5 then
     (yai x7 (zadd x10 1) s11 fun v62 =>
     yai x7 (zadd x10 2) s11 fun v63 =>
     yai x7 (zadd x10 3) s11 fun v64 =>
     yai x7 (zadd x10 4) s11 fun v65 =>
     yai x7 (zadd x10 5) s11 fun v66 =>
     yck 10 x8 s11 <| ybd (fH_note x8 v62 v63 v64 v65 v66 s11) fun v67 s68 =>
     yai x7 (zadd x10 1) s68 fun v69 =>
     yai x7 (zadd x10 2) s68 fun v70 =>
     yai x7 (zadd x10 3) s68 fun v71 =>
     yai x7 (zadd x10 4) s68 fun v72 =>
     yai x7 (zadd x10 5) s68 fun v73 =>
     yck 11 x9 s68 <| ybd (zgx x9 (gM_note v69 v70 v71 v72 v73) s68) fun v74 s75 =>
     if v67 = v74 then
       (q17 x7 x8 x9 x10 s75)
     else
     some (0, s75))
   else if v21 = 6 then
     (yai x7 (zadd x10 1) s11 fun v76 =>
     yai x7 (zadd x10 2) s11 fun v77 =>
     yai x7 (zadd x10 3) s11 fun v78 =>
     yai x7 (zadd x10 4) s11 fun v79 =>
     yai x7 (zadd x10 5) s11 fun v80 =>
     yck 10 x8 s11 <| ybd (fH_alter x8 v76 v77 v78 v79 v80 s11) fun v81 s82 =>
     yai x7 (zadd x10 1) s82 fun v83 =>
     yai x7 (zadd x10 2) s82 fun v84 =>
     yai x7 (zadd x10 3) s82 fun v85 =>
     yai x7 (zadd x10 4) s82 fun v86 =>
     yai x7 (zadd x10 5) s82 fun v87 =>
     yck 11 x9 s82 <| ybd (zgx x9 (gM_alter v83 v84 v85 v86 v87) s82) fun v88 s89 =>
     if v81 = v88 then
       (q17 x7 x8 x9 x10 s89)
     else
     some (0, s89))
   else if v21 = 7 then
     (yai x7 (zadd x10 1) s11 fun v90 =>
     yai x7 (zadd x10 2) s11 fun v91 =>
     yai x7 (zadd x10 3) s11 fun v92 =>
     yai x7 (zadd x10 4) s11 fun v93 =>
     yai x7 (zadd x10 5) s11 fun v94 =>
     yck 10 x8 s11 <| ybd (fH_music x8 v90 v91 v92 v93 v94 s11) fun v95 s96 =>
     yai x7 (zadd x10 1) s96 fun v97 =>
     yai x7 (zadd x10 2) s96 fun v98 =>
     yai x7 (zadd x10 3) s96 fun v99 =>
     yai x7 (zadd x10 4) s96 fun v100 =>
     yai x7 (zadd x10 5) s96 fun v101 =>
     yck 11 x9 s96 <| ybd (zgx x9 (gM_music v97 v98 v99 v100 v101) s96) fun v102 s103 =>
     if v95 = v102 then
       (q17 x7 x8 x9 x10 s103)
     else
     some (0, s103))
   else if v21 = 8 then
     (yck 10 x8 s11 <| ybd (fH_ended x8 s11) fun v104 s105 =>
     yck 11 x9 s105 <| ybd (zgx x9 (gM_ended) s105) fun v106 s107 =>
     if v104 = v106 then
       (q17 x7 x8 x9 x10 s107)
     else
     some (0, s107))
   else if v21 = 9 then
     (yai x7 (zadd x10 1) s11 fun v108 =>
     yai x7 (zadd x10 2) s11 fun v109 =>
     yck 10 x8 s11 <| ybd (fH_of x8 v108 v109 s11) fun v110 s111 =>
     yai x7 (zadd x10 1) s111 fun v112 =>
     yai x7 (zadd x10 2) s111 fun v113 =>
     yck 11 x9 s111 <| ybd (zgx x9 (gM_of v112 v113) s111) fun v114 s115 =>
     if v110 = v114 then
       (q17 x7 x8 x9 x10 s115)
     else
     some (0, s115))
   else if v21 = 10 then
     (yai x7 (zadd x10 1) s11 fun v116 =>
     yai x7 (zadd x10 2) s11 fun v117 =>
     yck 10 x8 s11 <| ybd (fH_bars x8 v116 v117 s11) fun v118 s119 =>
     yai x7 (zadd x10 1) s119 fun v120 =>
     yai x7 (zadd x10 2) s119 fun v121 =>
     yck 11 x9 s119 <| ybd (zgx x9 (gM_bars v120 v121) s119) fun v122 s123 =>
     if v118 = v122 then
       (q17 x7 x8 x9 x10 s123)
     else
     some (0, s123))
   else if v21 = 11 then
     (yai x7 (zadd x10 1) s11 fun v124 =>
     yai x7 (zadd x10 2) s11 fun v125 =>
     yai x7 (zadd x10 3) s11 fun v126 =>
     yck 10 x8 s11 <| ybd (fH_part x8 v124 v125 v126 s11) fun v127 s128 =>
     yai x7 (zadd x10 1) s128 fun v129 =>
     yai x7 (zadd x10 2) s128 fun v130 =>
     yai x7 (zadd x10 3) s128 fun v131 =>
     yck 11 x9 s128 <| ybd (zgx x9 (gM_part v129 v130 v131) s128) fun v132 s133 =>
     if v127 = v132 then
       (q17 x7 x8 x9 x10 s133)
     else
     some (0, s133))
   else if v21 = 12 then
     (yai x7 (zadd x10 1) s11 fun v134 =>
     yai x7 (zadd x10 2) s11 fun v135 =>
     yai x7 (zadd x10 3) s11 fun v136 =>
     yck 10 x8 s11 <| ybd (fH_heard x8 v134 v135 v136 s11) fun v137 s138 =>
     yai x7 (zadd x10 1) s138 fun v139 =>
     yai x7 (zadd x10 2) s138 fun v140 =>
     yai x7 (zadd x10 3) s138 fun v141 =>
     yck 11 x9 s138 <| ybd (zgx x9 (gM_heard v139 v140 v141) s138) fun v142 s143 =>
     if v137 = v142 then
       (q17 x7 x8 x9 x10 s143)
     else
     some (0, s143))
   else if v21 = 13 then
     (yai x7 (zadd x10 1) s11 fun v144 =>
     yai x7 (zadd x10 2) s11 fun v145 =>
     yai x7 (zadd x10 3) s11 fun v146 =>
     yck 10 x8 s11 <| ybd (fH_plate x8 v144 v145 v146 s11) fun v147 s148 =>
     yai x7 (zadd x10 1) s148 fun v149 =>
     yai x7 (zadd x10 2) s148 fun v150 =>
     yai x7 (zadd x10 3) s148 fun v151 =>
     yck 11 x9 s148 <| ybd (zgx x9 (gM_plate v149 v150 v151) s148) fun v152 s153 =>
     if v147 = v152 then
       (q17 x7 x8 x9 x10 s153)
     else
     some (0, s153))
   else if v21 = 14 then
     (yai x7 (zadd x10 1) s11 fun v154 =>
     yai x7 (zadd x10 2) s11 fun v155 =>
     yai x7 (zadd x10 3) s11 fun v156 =>
     yai x7 (zadd x10 4) s11 fun v157 =>
     yck 10 x8 s11 <| ybd (fH_mend x8 v154 v155 v156 v157 s11) fun v158 s159 =>
     yai x7 (zadd x10 1) s159 fun v160 =>
     yai x7 (zadd x10 2) s159 fun v161 =>
     yai x7 (zadd x10 3) s159 fun v162 =>
     yai x7 (zadd x10 4) s159 fun v163 =>
     yck 11 x9 s159 <| ybd (zgx x9 (gM_mend v160 v161 v162 v163) s159) fun v164 s165 =>
     if v158 = v164 then
       (q17 x7 x8 x9 x10 s165)
     else
     some (0, s165))
   else if v21 = 15 then
     (yai x7 (zadd x10 1) s11 fun v166 =>
     yai x7 (zadd x10 2) s11 fun v167 =>
     yck 10 x8 s11 <| ybd (fH_differs x8 v166 v167 s11) fun v168 s169 =>
     yai x7 (zadd x10 1) s169 fun v170 =>
     yai x7 (zadd x10 2) s169 fun v171 =>
     yck 11 x9 s169 <| ybd (zgx x9 (gM_differs v170 v171) s169) fun v172 s173 =>
     if v168 = v172 then
       (q17 x7 x8 x9 x10 s173)
     else
     some (0, s173))
   else if v21 = 16 then
     (yai x7 (zadd x10 1) s11 fun v174 =>
     yck 10 x8 s11 <| ybd (fH_press x8 v174 s11) fun v175 s176 =>
     yai x7 (zadd x10 1) s176 fun v177 =>
     yck 11 x9 s176 <| ybd (zgx x9 (gM_press v177) s176) fun v178 s179 =>
     if v175 = v178 then
       (q17 x7 x8 x9 x10 s179)
     else
     some (0, s179))
   else if v21 = 17 then
     (yck 10 x8 s11 <| ybd (fH_edition x8 s11) fun v180 s181 =>
     yck 11 x9 s181 <| ybd (zgx x9 (gM_edition) s181) fun v182 s183 =>
     if v180 = v182 then
       (q17 x7 x8 x9 x10 s183)
     else
     some (0, s183))
   else if v21 = 18 then
     (yai x7 (zadd x10 1) s11 fun v184 =>
     yai x7 (zadd x10 2) s11 fun v185 =>
     yai x7 (zadd x10 3) s11 fun v186 =>
     yai x7 (zadd x10 4) s11 fun v187 =>
     yai x7 (zadd x10 5) s11 fun v188 =>
     yck 10 x8 s11 <| ybd (fH_printed x8 v184 v185 v186 v187 v188 s11) fun v189 s190 =>
     yai x7 (zadd x10 1) s190 fun v191 =>
     yai x7 (zadd x10 2) s190 fun v192 =>
     yai x7 (zadd x10 3) s190 fun v193 =>
     yai x7 (zadd x10 4) s190 fun v194 =>
     yai x7 (zadd x10 5) s190 fun v195 =>
     yck 11 x9 s190 <| ybd (zgx x9 (gM_printed v191 v192 v193 v194 v195) s190) fun v196 s197 =>
     if v189 = v196 then
       (q17 x7 x8 x9 x10 s197)
     else
     some (0, s197))
   else if v21 = 19 then
     (yai x7 (zadd x10 1) s11 fun v198 =>
     yai x7 (zadd x10 2) s11 fun v199 =>
     yai x7 (zadd x10 3) s11 fun v200 =>
     yai x7 (zadd x10 4) s11 fun v201 =>
     yai x7 (zadd x10 5) s11 fun v202 =>
     yai x7 (zadd x10 6) s11 fun v203 =>
     yck 10 x8 s11 <| ybd (fH_erratum x8 v198 v199 v200 v201 v202 v203 s11) fun v204 s205 =>
     yai x7 (zadd x10 1) s205 fun v206 =>
     yai x7 (zadd x10 2) s205 fun v207 =>
     yai x7 (zadd x10 3) s205 fun v208 =>
     yai x7 (zadd x10 4) s205 fun v209 =>
     yai x7 (zadd x10 5) s205 fun v210 =>
     yai x7 (zadd x10 6) s205 fun v211 =>
     yck 11 x9 s205 <| ybd (zgx x9 (gM_erratum v206 v207 v208 v209 v210 v211) s205) fun v212 s213 =>
     if v204 = v212 then
       (q17 x7 x8 x9 x10 s213)
     else
     some (0, s213))
   else if v21 = 20 then
     (yai x7 (zadd x10 1) s11 fun v214 =>
     yck 10 x8 s11 <| ybd (fH_idle x8 v214 s11) fun v215 s216 =>
     yai x7 (zadd x10 1) s216 fun v217 =>
     yck 11 x9 s216 <| ybd (zgx x9 (gM_idle v217) s216) fun v218 s219 =>
     if v215 = v218 then
       (q17 x7 x8 x9 x10 s219)
     else
     some (0, s219))
   else if v21 = 21 then
     (yai x7 (zadd x10 1) s11 fun v220 =>
     yai x7 (zadd x10 2) s11 fun v221 =>
     yai x7 (zadd x10 3) s11 fun v222 =>
     yck 10 x8 s11 <| ybd (fH_changes x8 v220 v221 v222 s11) fun v223 s224 =>
     yai x7 (zadd x10 1) s224 fun v225 =>
     yai x7 (zadd x10 2) s224 fun v226 =>
     yai x7 (zadd x10 3) s224 fun v227 =>
     yck 11 x9 s224 <| ybd (zgx x9 (gM_changes v225 v226 v227) s224) fun v228 s229 =>
     if v223 = v228 then
       (q17 x7 x8 x9 x10 s229)
     else
     some (0, s229))
   else if v21 = 22 then
     (yai x7 (zadd x10 1) s11 fun v230 =>
     yck 10 x8 s11 <| ybd (fH_hangs x8 v230 s11) fun v231 s232 =>
     yai x7 (zadd x10 1) s232 fun v233 =>
     yck 11 x9 s232 <| ybd (zgx x9 (gM_hangs v233) s232) fun v234 s235 =>
     if v231 = v234 then
       (q17 x7 x8 x9 x10 s235)
     else
     some (0, s235))
   else if v21 = 23 then
     (yai x7 (zadd x10 1) s11 fun v236 =>
     yai x7 (zadd x10 2) s11 fun v237 =>
     yai x7 (zadd x10 3) s11 fun v238 =>
     yai x7 (zadd x10 4) s11 fun v239 =>
     yck 10 x8 s11 <| ybd (fH_pages x8 v236 v237 v238 v239 s11) fun v240 s241 =>
     yai x7 (zadd x10 1) s241 fun v242 =>
     yai x7 (zadd x10 2) s241 fun v243 =>
     yai x7 (zadd x10 3) s241 fun v244 =>
     yai x7 (zadd x10 4) s241 fun v245 =>
     yck 11 x9 s241 <| ybd (zgx x9 (gM_pages v242 v243 v244 v245) s241) fun v246 s247 =>
     if v240 = v246 then
       (q17 x7 x8 x9 x10 s247)
     else
     some (0, s247))
   else if v21 = 24 then
     (yai x7 (zadd x10 1) s11 fun v248 =>
     yai x7 (zadd x10 2) s11 fun v249 =>
     yck 10 x8 s11 <| ybd (fH_feed x8 v248 v249 s11) fun v250 s251 =>
     yai x7 (zadd x10 1) s251 fun v252 =>
     yai x7 (zadd x10 2) s251 fun v253 =>
     yck 11 x9 s251 <| ybd (zgx x9 (gM_feed v252 v253) s251) fun v254 s255 =>
     if v250 = v254 then
       (q17 x7 x8 x9 x10 s255)
     else
     some (0, s255))
   else if v21 = 25 then
     (yai x7 (zadd x10 1) s11 fun v256 =>
     yai x7 (zadd x10 2) s11 fun v257 =>
     yck 10 x8 s11 <| ybd (fH_contract E x8 v256 v257 s11) fun v258 s259 =>
     yai x7 (zadd x10 1) s259 fun v260 =>
     yai x7 (zadd x10 2) s259 fun v261 =>
     yck 11 x9 s259 <| ybd (zgx x9 (gM_contract v260 v261) s259) fun v262 s263 =>
     if v258 = v262 then
       (q17 x7 x8 x9 x10 s263)
     else
     some (0, s263))
   else if v21 = 26 then
     (yai x7 (zadd x10 1) s11 fun v264 =>
     yai x7 (zadd x10 2) s11 fun v265 =>
     yai x7 (zadd x10 3) s11 fun v266 =>
     yck 10 x8 s11 <| ybd (fH_lawful x8 v264 v265 v266 s11) fun v267 s268 =>
     yai x7 (zadd x10 1) s268 fun v269 =>
     yai x7 (zadd x10 2) s268 fun v270 =>
     yai x7 (zadd x10 3) s268 fun v271 =>
     yck 11 x9 s268 <| ybd (zgx x9 (gM_lawful v269 v270 v271) s268) fun v272 s273 =>
     if v267 = v272 then
       (q17 x7 x8 x9 x10 s273)
     else
     some (0, s273))
   else if v21 = 27 then
     (yai x7 (zadd x10 1) s11 fun v274 =>
     yai x7 (zadd x10 2) s11 fun v275 =>
     yai x7 (zadd x10 3) s11 fun v276 =>
     yck 10 x8 s11 <| ybd (fH_right x8 v274 v275 v276 s11) fun v277 s278 =>
     yai x7 (zadd x10 1) s278 fun v279 =>
     yai x7 (zadd x10 2) s278 fun v280 =>
     yai x7 (zadd x10 3) s278 fun v281 =>
     yck 11 x9 s278 <| ybd (zgx x9 (gM_right v279 v280 v281) s278) fun v282 s283 =>
     if v277 = v282 then
       (q17 x7 x8 x9 x10 s283)
     else
     some (0, s283))
   else if v21 = 28 then
     (yai x7 (zadd x10 1) s11 fun v284 =>
     yai x7 (zadd x10 2) s11 fun v285 =>
     yai x7 (zadd x10 3) s11 fun v286 =>
     yai x7 (zadd x10 4) s11 fun v287 =>
     yai x7 (zadd x10 5) s11 fun v288 =>
     yai x7 (zadd x10 6) s11 fun v289 =>
     yai x7 (zadd x10 7) s11 fun v290 =>
     yck 10 x8 s11 <| ybd (fH_paid E x8 v284 v285 v286 v287 v288 v289 v290 s11) fun v291 s292 =>
     yai x7 (zadd x10 1) s292 fun v293 =>
     yai x7 (zadd x10 2) s292 fun v294 =>
     yai x7 (zadd x10 3) s292 fun v295 =>
     yai x7 (zadd x10 4) s292 fun v296 =>
     yai x7 (zadd x10 5) s292 fun v297 =>
     yai x7 (zadd x10 6) s292 fun v298 =>
     yai x7 (zadd x10 7) s292 fun v299 =>
     yck 11 x9 s292 <| ybd (zgx x9 (gM_paid v293 v294 v295 v296 v297 v298 v299) s292) fun v300 s301 =>
     if v291 = v300 then
       (q17 x7 x8 x9 x10 s301)
     else
     some (0, s301))
   else if v21 = 29 then
     (yai x7 (zadd x10 1) s11 fun v302 =>
     yck 10 x8 s11 <| ybd (fH_set x8 v302 s11) fun v303 s304 =>
     yai x7 (zadd x10 1) s304 fun v305 =>
     yck 11 x9 s304 <| ybd (zgx x9 (gM_set v305) s304) fun v306 s307 =>
     if v303 = v306 then
       (q17 x7 x8 x9 x10 s307)
     else
     some (0, s307))
   else if v21 = 30 then
     (yai x7 (zadd x10 1) s11 fun v308 =>
     yai x7 (zadd x10 2) s11 fun v309 =>
     yck 10 x8 s11 <| ybd (fH_stands x8 v308 v309 s11) fun v310 s311 =>
     yai x7 (zadd x10 1) s311 fun v312 =>
     yai x7 (zadd x10 2) s311 fun v313 =>
     yck 11 x9 s311 <| ybd (zgx x9 (gM_stands v312 v313) s311) fun v314 s315 =>
     if v310 = v314 then
       (q17 x7 x8 x9 x10 s315)
     else
     some (0, s315))
   else if v21 = 31 then
     (yai x7 (zadd x10 1) s11 fun v316 =>
     yai x7 (zadd x10 2) s11 fun v317 =>
     yai x7 (zadd x10 3) s11 fun v318 =>
     yck 10 x8 s11 <| ybd (fH_way x8 v316 v317 v318 s11) fun v319 s320 =>
     yai x7 (zadd x10 1) s320 fun v321 =>
     yai x7 (zadd x10 2) s320 fun v322 =>
     yai x7 (zadd x10 3) s320 fun v323 =>
     yck 11 x9 s320 <| ybd (zgx x9 (gM_way v321 v322 v323) s320) fun v324 s325 =>
     if v319 = v324 then
       (q17 x7 x8 x9 x10 s325)
     else
     some (0, s325))
   else if v21 = 32 then
     (yai x7 (zadd x10 1) s11 fun v326 =>
     yai x7 (zadd x10 2) s11 fun v327 =>
     yai x7 (zadd x10 3) s11 fun v328 =>
     yai x7 (zadd x10 4) s11 fun v329 =>
     yck 10 x8 s11 <| ybd (fH_ask x8 v326 v327 v328 v329 s11) fun v330 s331 =>
     yai x7 (zadd x10 1) s331 fun v332 =>
     yai x7 (zadd x10 2) s331 fun v333 =>
     yai x7 (zadd x10 3) s331 fun v334 =>
     yai x7 (zadd x10 4) s331 fun v335 =>
     yck 11 x9 s331 <| ybd (zgx x9 (gM_ask v332 v333 v334 v335) s331) fun v336 s337 =>
     if v330 = v336 then
       (q17 x7 x8 x9 x10 s337)
     else
     some (0, s337))
   else if v21 = 33 then
     (yck 10 x8 s11 <| ybd (fH_askless x8 s11) fun v338 s339 =>
     yck 11 x9 s339 <| ybd (zgx x9 (gM_askless) s339) fun v340 s341 =>
     if v338 = v340 then
       (q17 x7 x8 x9 x10 s341)
     else
     some (0, s341))
   else if v21 = 34 then
     (yai x7 (zadd x10 1) s11 fun v342 =>
     yai x7 (zadd x10 2) s11 fun v343 =>
     yck 10 x8 s11 <| ybd (fH_hire x8 v342 v343 s11) fun v344 s345 =>
     yai x7 (zadd x10 1) s345 fun v346 =>
     yai x7 (zadd x10 2) s345 fun v347 =>
     yck 11 x9 s345 <| ybd (zgx x9 (gM_hire v346 v347) s345) fun v348 s349 =>
     if v344 = v348 then
       (q17 x7 x8 x9 x10 s349)
     else
     some (0, s349))
   else if v21 = 35 then
     (yai x7 (zadd x10 1) s11 fun v350 =>
     yck 10 x8 s11 <| ybd (fH_month x8 v350 s11) fun v351 s352 =>
     yai x7 (zadd x10 1) s352 fun v353 =>
     yck 11 x9 s352 <| ybd (zgx x9 (gM_month v353) s352) fun v354 s355 =>
     if v351 = v354 then
       (q17 x7 x8 x9 x10 s355)
     else
     some (0, s355))
   else if v21 = 36 then
     (yai x7 (zadd x10 1) s11 fun v356 =>
     yai x7 (zadd x10 2) s11 fun v357 =>
     yai x7 (zadd x10 3) s11 fun v358 =>
     yck 10 x8 s11 <| ybd (fH_costs x8 v356 v357 v358 s11) fun v359 s360 =>
     yai x7 (zadd x10 1) s360 fun v361 =>
     yai x7 (zadd x10 2) s360 fun v362 =>
     yai x7 (zadd x10 3) s360 fun v363 =>
     yck 11 x9 s360 <| ybd (zgx x9 (gM_costs v361 v362 v363) s360) fun v364 s365 =>
     if v359 = v364 then
       (q17 x7 x8 x9 x10 s365)
     else
     some (0, s365))
   else if v21 = 37 then
     (yai x7 (zadd x10 1) s11 fun v366 =>
     yck 10 x8 s11 <| ybd (fH_prints x8 v366 s11) fun v367 s368 =>
     yai x7 (zadd x10 1) s368 fun v369 =>
     yck 11 x9 s368 <| ybd (zgx x9 (gM_prints v369) s368) fun v370 s371 =>
     if v367 = v370 then
       (q17 x7 x8 x9 x10 s371)
     else
     some (0, s371))
   else if v21 = 38 then
     (yai x7 (zadd x10 1) s11 fun v372 =>
     yai x7 (zadd x10 2) s11 fun v373 =>
     yai x7 (zadd x10 3) s11 fun v374 =>
     yck 10 x8 s11 <| ybd (fH_proof x8 v372 v373 v374 s11) fun v375 s376 =>
     yai x7 (zadd x10 1) s376 fun v377 =>
     yai x7 (zadd x10 2) s376 fun v378 =>
     yai x7 (zadd x10 3) s376 fun v379 =>
     yck 11 x9 s376 <| ybd (zgx x9 (gM_proof v377 v378 v379) s376) fun v380 s381 =>
     if v375 = v380 then
       (q17 x7 x8 x9 x10 s381)
     else
     some (0, s381))
   else if v21 = 39 then
     (yai x7 (zadd x10 1) s11 fun v382 =>
     yai x7 (zadd x10 2) s11 fun v383 =>
     yai x7 (zadd x10 3) s11 fun v384 =>
     yai x7 (zadd x10 4) s11 fun v385 =>
     yck 10 x8 s11 <| ybd (fH_left x8 v382 v383 v384 v385 s11) fun v386 s387 =>
     yai x7 (zadd x10 1) s387 fun v388 =>
     yai x7 (zadd x10 2) s387 fun v389 =>
     yai x7 (zadd x10 3) s387 fun v390 =>
     yai x7 (zadd x10 4) s387 fun v391 =>
     yck 11 x9 s387 <| ybd (zgx x9 (gM_left v388 v389 v390 v391) s387) fun v392 s393 =>
     if (zlcmp v386 v392) = 0 then
       (q17 x7 x8 x9 x10 s393)
     else
     some (0, s393))
   else if v21 = 40 then
     (yai x7 (zadd x10 1) s11 fun v394 =>
     yai x7 (zadd x10 2) s11 fun v395 =>
     yck 10 x8 s11 <| ybd (fH_missed x8 v394 v395 s11) fun v396 s397 =>
     yai x7 (zadd x10 1) s397 fun v398 =>
     yai x7 (zadd x10 2) s397 fun v399 =>
     yck 11 x9 s397 <| ybd (zgx x9 (gM_missed v398 v399) s397) fun v400 s401 =>
     if v396 = v400 then
       (q17 x7 x8 x9 x10 s401)
     else
     some (0, s401))
   else if v21 = 41 then
     (yai x7 (zadd x10 1) s11 fun v402 =>
     yai x7 (zadd x10 2) s11 fun v403 =>
     yai x7 (zadd x10 3) s11 fun v404 =>
     yck 10 x8 s11 <| ybd (fH_act E x8 v402 v403 v404 s11) fun v405 s406 =>
     yai x7 (zadd x10 1) s406 fun v407 =>
     yai x7 (zadd x10 2) s406 fun v408 =>
     yai x7 (zadd x10 3) s406 fun v409 =>
     yck 11 x9 s406 <| ybd (zgx x9 (gM_act v407 v408 v409) s406) fun v410 s411 =>
     if v405 = v410 then
       (q17 x7 x8 x9 x10 s411)
     else
     some (0, s411))
   else if v21 = 42 then
     (yai x7 (zadd x10 1) s11 fun v412 =>
     yck 10 x8 s11 <| ybd (fH_trace x8 v412 s11) fun v413 s414 =>
     yai x7 (zadd x10 1) s414 fun v415 =>
     yck 11 x9 s414 <| ybd (zgx x9 (gM_trace v415) s414) fun v416 s417 =>
     if v413 = v416 then
       (q17 x7 x8 x9 x10 s417)
     else
     some (0, s417))
   else if v21 = 43 then
     (yai x7 (zadd x10 1) s11 fun v418 =>
     yai x7 (zadd x10 2) s11 fun v419 =>
     yck 10 x8 s11 <| ybd (fH_taken E x8 v418 v419 s11) fun v420 s421 =>
     yai x7 (zadd x10 1) s421 fun v422 =>
     yai x7 (zadd x10 2) s421 fun v423 =>
     yck 11 x9 s421 <| ybd (zgx x9 (gM_taken v422 v423) s421) fun v424 s425 =>
     if v420 = v424 then
       (q17 x7 x8 x9 x10 s425)
     else
     some (0, s425))
   else if v21 = 44 then
     (yai x7 (zadd x10 1) s11 fun v426 =>
     yck 10 x8 s11 <| ybd (fH_count x8 v426 s11) fun v427 s428 =>
     yai x7 (zadd x10 1) s428 fun v429 =>
     yck 11 x9 s428 <| ybd (zgx x9 (gM_count v429) s428) fun v430 s431 =>
     if v427 = v430 then
       (q17 x7 x8 x9 x10 s431)
     else
     some (0, s431))
   else if v21 = 45 then
     (yai x7 (zadd x10 1) s11 fun v432 =>
     yai x7 (zadd x10 2) s11 fun v433 =>
     yai x7 (zadd x10 3) s11 fun v434 =>
     yck 10 x8 s11 <| ybd (fH_tape x8 v432 v433 v434 s11) fun v435 s436 =>
     yai x7 (zadd x10 1) s436 fun v437 =>
     yai x7 (zadd x10 2) s436 fun v438 =>
     yai x7 (zadd x10 3) s436 fun v439 =>
     yck 11 x9 s436 <| ybd (zgx x9 (gM_tape v437 v438 v439) s436) fun v440 s441 =>
     if v435 = v440 then
       (q17 x7 x8 x9 x10 s441)
     else
     some (0, s441))
   else if v21 = 46 then
     (yai x7 (zadd x10 1) s11 fun v442 =>
     yai x7 (zadd x10 2) s11 fun v443 =>
     yai x7 (zadd x10 3) s11 fun v444 =>
     yck 10 x8 s11 <| ybd (fH_item x8 v442 v443 v444 s11) fun v445 s446 =>
     yai x7 (zadd x10 1) s446 fun v447 =>
     yai x7 (zadd x10 2) s446 fun v448 =>
     yai x7 (zadd x10 3) s446 fun v449 =>
     yck 11 x9 s446 <| ybd (zgx x9 (gM_item v447 v448 v449) s446) fun v450 s451 =>
     if v445 = v450 then
       (q17 x7 x8 x9 x10 s451)
     else
     some (0, s451))
   else if v21 = 47 then
     (yai x7 (zadd x10 1) s11 fun v452 =>
     yai x7 (zadd x10 2) s11 fun v453 =>
     yck 10 x8 s11 <| ybd (fH_read x8 v452 v453 s11) fun v454 s455 =>
     yai x7 (zadd x10 1) s455 fun v456 =>
     yai x7 (zadd x10 2) s455 fun v457 =>
     yck 11 x9 s455 <| ybd (zgx x9 (gM_read v456 v457) s455) fun v458 s459 =>
     if (zlcmp v454 v458) = 0 then
       (q17 x7 x8 x9 x10 s459)
     else
     some (0, s459))
   else if v21 = 48 then
     (yai x7 (zadd x10 1) s11 fun v460 =>
     yai x7 (zadd x10 2) s11 fun v461 =>
     yai x7 (zadd x10 3) s11 fun v462 =>
     yai x7 (zadd x10 4) s11 fun v463 =>
     yai x7 (zadd x10 5) s11 fun v464 =>
     yck 10 x8 s11 <| ybd (fH_shift x8 v460 v461 v462 v463 v464 s11) fun v465 s466 =>
     yai x7 (zadd x10 1) s466 fun v467 =>
     yai x7 (zadd x10 2) s466 fun v468 =>
     yai x7 (zadd x10 3) s466 fun v469 =>
     yai x7 (zadd x10 4) s466 fun v470 =>
     yai x7 (zadd x10 5) s466 fun v471 =>
     yck 11 x9 s466 <| ybd (zgx x9 (gM_shift v467 v468 v469 v470 v471) s466) fun v472 s473 =>
     if v465 = v472 then
       (q17 x7 x8 x9 x10 s473)
     else
     some (0, s473))
   else q17 x7 x8 x9 x10 s11
set_option maxRecDepth 20000 in
set_option maxHeartbeats 4000000 in
theorem fW_law_l1_ok {E : Nat → Nat} (d : Nat) : ∀ (n : Nat) (x7 : Nat) (x8 : Nat) (x9 : Nat) (x10 : Int) (s11 : zHp), zE zI Ji E (d + 47) 301 (zB 301 1) ([some (.inr (.inr x7)), some (.inr (.inr x8)), some (.inr (.inr x9)), some (.inl x10)]) ([]) s11 (fW_law_l1 E n x7 x8 x9 x10 s11) := by
  intro n
  induction n with
  | zero => intro x7 x8 x9 x10 s11; exact zE_none
  | succ n ih =>
    intro x7 x8 x9 x10 s11
    unfold fW_law_l1
    refine zE_jn (fun q17 => ∀ (y0 : Nat) (y1 : Nat) (y2 : Nat) (y3 : Int) (s : zHp), zE zI Ji E (d + 47) 301 (zB 301 51) ([some (.inr (.inr y0)), some (.inr (.inr y1)), some (.inr (.inr y2)), some (.inl y3)]) ([]) s (q17 y0 y1 y2 y3 s)) (fun x12 x13 x14 x15 s16 => ?_) (fun q17 hq17 => ?_)
    · refine zE_vl ?_
      refine zq_10_3 rfl ?_
      refine zq_56 ?_
      exact zE_w [true, true, true, true] (ih _ _ _ _ _)
    refine zq_4_3 ?_
    refine zq_6_0 ?_
    refine zh_72 ?_
    refine zq_1 ?_
    refine zq_12 ?_
    refine zq_50 ?_ ?_
    · refine zq_1 ?_
      exact zq_96c (by decide)
    refine zq_6_0 ?_
    refine zq_4_3 ?_
    refine zh_65 ?_
    refine zq_1 ?_
    refine zq_20 ?_
    refine zE_vl ?_
    refine zq_58 ?_
    refine zq_sw ?_ ?_
    · refine zq_6_1 ?_
      refine zq_6_0 ?_
      refine zq_4_3 ?_
      refine zq_1 ?_
      refine zq_11 ?_
      refine zh_65 ?_
      refine zE_g fun hg => ?_
      refine zq_92_2i hg rfl rfl (fH_pass_ok (E := E) _ _ _ _) fun v23 s24 => ?_
      refine zq_6_2 ?_
      refine zq_6_0 ?_
      refine zq_4_3 ?_
      refine zq_1 ?_
      refine zq_11 ?_
      refine zh_65 ?_
      refine zE_g fun hg => ?_
      refine zq_92_2i hg rfl rfl (zgx_ok fun hw => gM_pass_ok (E := E) hw _ _ _) fun v26 s27 => ?_
      refine zq_46 ?_ ?_
      · exact zE_w [true, true, true, true] (hq17 _ _ _ _ _)
      refine zq_1 ?_
      exact zq_96c (by decide)
    refine zq_sw ?_ ?_
    · refine zq_6_1 ?_
      refine zE_g fun hg => ?_
      refine zq_92_1i hg rfl rfl (fH_author_ok (E := E) _ _ _) fun v28 s29 => ?_
      refine zq_6_2 ?_
      refine zE_g fun hg => ?_
      refine zq_92_1i hg rfl rfl (zgx_ok fun hw => gM_author_ok (E := E) hw _ _) fun v30 s31 => ?_
      refine zq_46 ?_ ?_
      · exact zE_w [true, true, true, true] (hq17 _ _ _ _ _)
      refine zq_1 ?_
      exact zq_96c (by decide)
    refine zq_sw ?_ ?_
    · refine zq_6_1 ?_
      refine zq_6_0 ?_
      refine zq_4_3 ?_
      refine zq_1 ?_
      refine zq_11 ?_
      refine zh_65 ?_
      refine zq_6_0 ?_
      refine zq_4_3 ?_
      refine zq_1 ?_
      refine zq_11 ?_
      refine zh_65 ?_
      refine zE_g fun hg => ?_
      refine zq_92_3i hg rfl rfl (fH_died_ok (E := E) _ _ _ _ _) fun v34 s35 => ?_
      refine zq_6_2 ?_
      refine zq_6_0 ?_
      refine zq_4_3 ?_
      refine zq_1 ?_
      refine zq_11 ?_
      refine zh_65 ?_
      refine zq_6_0 ?_
      refine zq_4_3 ?_
      refine zq_1 ?_
      refine zq_11 ?_
      refine zh_65 ?_
      refine zE_g fun hg => ?_
      refine zq_92_3i hg rfl rfl (zgx_ok fun hw => gM_died_ok (E := E) hw _ _ _ _) fun v38 s39 => ?_
      refine zq_46 ?_ ?_
      · exact zE_w [true, true, true, true] (hq17 _ _ _ _ _)
      refine zq_1 ?_
      exact zq_96c (by decide)
    refine zq_sw ?_ ?_
    · refine zq_6_1 ?_
      refine zq_6_0 ?_
      refine zq_4_3 ?_
      refine zq_1 ?_
      refine zq_11 ?_
      refine zh_65 ?_
      refine zq_6_0 ?_
      refine zq_4_3 ?_
      refine zq_1 ?_
      refine zq_11 ?_
      refine zh_65 ?_
      refine zq_6_0 ?_
      refine zq_4_3 ?_
      refine zq_1 ?_
      refine zq_11 ?_
      refine zh_65 ?_
      refine zE_g fun hg => ?_
      refine zq_92_4i hg rfl rfl (fH_score_ok (E := E) _ _ _ _ _ _) fun v43 s44 => ?_
      refine zq_6_2 ?_
      refine zq_6_0 ?_
      refine zq_4_3 ?_
      refine zq_1 ?_
      refine zq_11 ?_
      refine zh_65 ?_
      refine zq_6_0 ?_
      refine zq_4_3 ?_
      refine zq_1 ?_
      refine zq_11 ?_
      refine zh_65 ?_
      refine zq_6_0 ?_
      refine zq_4_3 ?_
      refine zq_1 ?_
      refine zq_11 ?_
      refine zh_65 ?_
      refine zE_g fun hg => ?_
      refine zq_92_4i hg rfl rfl (zgx_ok fun hw => gM_score_ok (E := E) hw _ _ _ _ _) fun v48 s49 => ?_
      refine zq_46 ?_ ?_
      · exact zE_w [true, true, true, true] (hq17 _ _ _ _ _)
      refine zq_1 ?_
      exact zq_96c (by decide)
    refine zq_sw ?_ ?_
    · refine zq_6_1 ?_
      refine zq_6_0 ?_
      refine zq_4_3 ?_
      refine zq_1 ?_
      refine zq_11 ?_
      refine zh_65 ?_
      refine zq_6_0 ?_
      refine zq_4_3 ?_
      refine zq_1 ?_
      refine zq_11 ?_
      refine zh_65 ?_
      refine zq_6_0 ?_
      refine zq_4_3 ?_
      refine zq_1 ?_
      refine zq_11 ?_
      refine zh_65 ?_
      refine zq_6_0 ?_
      refine zq_4_3 ?_
      refine zq_1 ?_
      refine zq_11 ?_
      refine zh_65 ?_
      refine zE_g fun hg => ?_
      refine zq_92_5i hg rfl rfl (fH_derive_ok (E := E) _ _ _ _ _ _ _) fun v54 s55 => ?_
      refine zq_6_2 ?_
      refine zq_6_0 ?_
      refine zq_4_3 ?_
      refine zq_1 ?_
      refine zq_11 ?_
      refine zh_65 ?_
      refine zq_6_0 ?_
      refine zq_4_3 ?_
      refine zq_1 ?_
      refine zq_11 ?_
      refine zh_65 ?_
      refine zq_6_0 ?_
      refine zq_4_3 ?_
      refine zq_1 ?_
      refine zq_11 ?_
      refine zh_65 ?_
      refine zq_6_0 ?_
      refine zq_4_3 ?_
      refine zq_1 ?_
      refine zq_11 ?_
      refine zh_65 ?_
      refine zE_g fun hg => ?_
      refine zq_92_5i hg rfl rfl (zgx_ok fun hw => gM_derive_ok (E := E) hw _ _ _ _ _ _) fun v60 s61 => ?_
      refine zq_46 ?_ ?_
      · exact zE_w [true, true, true, true] (hq17 _ _ _ _ _)
      refine zq_1 ?_
      exact zq_96c (by decide)
    refine zq_sw ?_ ?_
    · refine zq_6_1 ?_
      refine zq_6_0 ?_
      refine zq_4_3 ?_
      refine zq_1 ?_
      refine zq_11 ?_
      refine zh_65 ?_
      refine zq_6_0 ?_
      refine zq_4_3 ?_
      refine zq_1 ?_
      refine zq_11 ?_
      refine zh_65 ?_
      refine zq_6_0 ?_
      refine zq_4_3 ?_
      refine zq_1 ?_
      refine zq_11 ?_
      refine zh_65 ?_
      refine zq_6_0 ?_
      refine zq_4_3 ?_
      refine zq_1 ?_
      refine zq_11 ?_
      refine zh_65 ?_
      refine zq_6_0 ?_
      refine zq_4_3 ?_
      refine zq_1 ?_
      refine zq_11 ?_
      refine zh_65 ?_
      refine zE_g fun hg => ?_
      refine zq_92_6i hg rfl rfl (fH_note_ok (E := E) _ _ _ _ _ _ _ _) fun v67 s68 => ?_
      refine zq_6_2 ?_
      refine zq_6_0 ?_
      refine zq_4_3 ?_
      refine zq_1 ?_
      refine zq_11 ?_
      refine zh_65 ?_
      refine zq_6_0 ?_
      refine zq_4_3 ?_
      refine zq_1 ?_
      refine zq_11 ?_
      refine zh_65 ?_
      refine zq_6_0 ?_
      refine zq_4_3 ?_
      refine zq_1 ?_
      refine zq_11 ?_
      refine zh_65 ?_
      refine zq_6_0 ?_
      refine zq_4_3 ?_
      refine zq_1 ?_
      refine zq_11 ?_
      refine zh_65 ?_
      refine zq_6_0 ?_
      refine zq_4_3 ?_
      refine zq_1 ?_
      refine zq_11 ?_
      refine zh_65 ?_
      refine zE_g fun hg => ?_
      refine zq_92_6i hg rfl rfl (zgx_ok fun hw => gM_note_ok (E := E) hw _ _ _ _ _ _ _) fun v74 s75 => ?_
      refine zq_46 ?_ ?_
      · exact zE_w [true, true, true, true] (hq17 _ _ _ _ _)
      refine zq_1 ?_
      exact zq_96c (by decide)
    refine zq_sw ?_ ?_
    · refine zq_6_1 ?_
      refine zq_6_0 ?_
      refine zq_4_3 ?_
      refine zq_1 ?_
      refine zq_11 ?_
      refine zh_65 ?_
      refine zq_6_0 ?_
      refine zq_4_3 ?_
      refine zq_1 ?_
      refine zq_11 ?_
      refine zh_65 ?_
      refine zq_6_0 ?_
      refine zq_4_3 ?_
      refine zq_1 ?_
      refine zq_11 ?_
      refine zh_65 ?_
      refine zq_6_0 ?_
      refine zq_4_3 ?_
      refine zq_1 ?_
      refine zq_11 ?_
      refine zh_65 ?_
      refine zq_6_0 ?_
      refine zq_4_3 ?_
      refine zq_1 ?_
      refine zq_11 ?_
      refine zh_65 ?_
      refine zE_g fun hg => ?_
      refine zq_92_6i hg rfl rfl (fH_alter_ok (E := E) _ _ _ _ _ _ _ _) fun v81 s82 => ?_
      refine zq_6_2 ?_
      refine zq_6_0 ?_
      refine zq_4_3 ?_
      refine zq_1 ?_
      refine zq_11 ?_
      refine zh_65 ?_
      refine zq_6_0 ?_
      refine zq_4_3 ?_
      refine zq_1 ?_
      refine zq_11 ?_
      refine zh_65 ?_
      refine zq_6_0 ?_
      refine zq_4_3 ?_
      refine zq_1 ?_
      refine zq_11 ?_
      refine zh_65 ?_
      refine zq_6_0 ?_
      refine zq_4_3 ?_
      refine zq_1 ?_
      refine zq_11 ?_
      refine zh_65 ?_
      refine zq_6_0 ?_
      refine zq_4_3 ?_
      refine zq_1 ?_
      refine zq_11 ?_
      refine zh_65 ?_
      refine zE_g fun hg => ?_
      refine zq_92_6i hg rfl rfl (zgx_ok fun hw => gM_alter_ok (E := E) hw _ _ _ _ _ _ _) fun v88 s89 => ?_
      refine zq_46 ?_ ?_
      · exact zE_w [true, true, true, true] (hq17 _ _ _ _ _)
      refine zq_1 ?_
      exact zq_96c (by decide)
    refine zq_sw ?_ ?_
    · refine zq_6_1 ?_
      refine zq_6_0 ?_
      refine zq_4_3 ?_
      refine zq_1 ?_
      refine zq_11 ?_
      refine zh_65 ?_
      refine zq_6_0 ?_
      refine zq_4_3 ?_
      refine zq_1 ?_
      refine zq_11 ?_
      refine zh_65 ?_
      refine zq_6_0 ?_
      refine zq_4_3 ?_
      refine zq_1 ?_
      refine zq_11 ?_
      refine zh_65 ?_
      refine zq_6_0 ?_
      refine zq_4_3 ?_
      refine zq_1 ?_
      refine zq_11 ?_
      refine zh_65 ?_
      refine zq_6_0 ?_
      refine zq_4_3 ?_
      refine zq_1 ?_
      refine zq_11 ?_
      refine zh_65 ?_
      refine zE_g fun hg => ?_
      refine zq_92_6i hg rfl rfl (fH_music_ok (E := E) _ _ _ _ _ _ _ _) fun v95 s96 => ?_
      refine zq_6_2 ?_
      refine zq_6_0 ?_
      refine zq_4_3 ?_
      refine zq_1 ?_
      refine zq_11 ?_
      refine zh_65 ?_
      refine zq_6_0 ?_
      refine zq_4_3 ?_
      refine zq_1 ?_
      refine zq_11 ?_
      refine zh_65 ?_
      refine zq_6_0 ?_
      refine zq_4_3 ?_
      refine zq_1 ?_
      refine zq_11 ?_
      refine zh_65 ?_
      refine zq_6_0 ?_
      refine zq_4_3 ?_
      refine zq_1 ?_
      refine zq_11 ?_
      refine zh_65 ?_
      refine zq_6_0 ?_
      refine zq_4_3 ?_
      refine zq_1 ?_
      refine zq_11 ?_
      refine zh_65 ?_
      refine zE_g fun hg => ?_
      refine zq_92_6i hg rfl rfl (zgx_ok fun hw => gM_music_ok (E := E) hw _ _ _ _ _ _ _) fun v102 s103 => ?_
      refine zq_46 ?_ ?_
      · exact zE_w [true, true, true, true] (hq17 _ _ _ _ _)
      refine zq_1 ?_
      exact zq_96c (by decide)
    refine zq_sw ?_ ?_
    · refine zq_6_1 ?_
      refine zE_g fun hg => ?_
      refine zq_92_1i hg rfl rfl (fH_ended_ok (E := E) _ _ _) fun v104 s105 => ?_
      refine zq_6_2 ?_
      refine zE_g fun hg => ?_
      refine zq_92_1i hg rfl rfl (zgx_ok fun hw => gM_ended_ok (E := E) hw _ _) fun v106 s107 => ?_
      refine zq_46 ?_ ?_
      · exact zE_w [true, true, true, true] (hq17 _ _ _ _ _)
      refine zq_1 ?_
      exact zq_96c (by decide)
    refine zq_sw ?_ ?_
    · refine zq_6_1 ?_
      refine zq_6_0 ?_
      refine zq_4_3 ?_
      refine zq_1 ?_
      refine zq_11 ?_
      refine zh_65 ?_
      refine zq_6_0 ?_
      refine zq_4_3 ?_
      refine zq_1 ?_
      refine zq_11 ?_
      refine zh_65 ?_
      refine zE_g fun hg => ?_
      refine zq_92_3i hg rfl rfl (fH_of_ok (E := E) _ _ _ _ _) fun v110 s111 => ?_
      refine zq_6_2 ?_
      refine zq_6_0 ?_
      refine zq_4_3 ?_
      refine zq_1 ?_
      refine zq_11 ?_
      refine zh_65 ?_
      refine zq_6_0 ?_
      refine zq_4_3 ?_
      refine zq_1 ?_
      refine zq_11 ?_
      refine zh_65 ?_
      refine zE_g fun hg => ?_
      refine zq_92_3i hg rfl rfl (zgx_ok fun hw => gM_of_ok (E := E) hw _ _ _ _) fun v114 s115 => ?_
      refine zq_46 ?_ ?_
      · exact zE_w [true, true, true, true] (hq17 _ _ _ _ _)
      refine zq_1 ?_
      exact zq_96c (by decide)
    refine zq_sw ?_ ?_
    · refine zq_6_1 ?_
      refine zq_6_0 ?_
      refine zq_4_3 ?_
      refine zq_1 ?_
      refine zq_11 ?_
      refine zh_65 ?_
      refine zq_6_0 ?_
      refine zq_4_3 ?_
      refine zq_1 ?_
      refine zq_11 ?_
      refine zh_65 ?_
      refine zE_g fun hg => ?_
      refine zq_92_3i hg rfl rfl (fH_bars_ok (E := E) _ _ _ _ _) fun v118 s119 => ?_
      refine zq_6_2 ?_
      refine zq_6_0 ?_
      refine zq_4_3 ?_
      refine zq_1 ?_
      refine zq_11 ?_
      refine zh_65 ?_
      refine zq_6_0 ?_
      refine zq_4_3 ?_
      refine zq_1 ?_
      refine zq_11 ?_
      refine zh_65 ?_
      refine zE_g fun hg => ?_
      refine zq_92_3i hg rfl rfl (zgx_ok fun hw => gM_bars_ok (E := E) hw _ _ _ _) fun v122 s123 => ?_
      refine zq_46 ?_ ?_
      · exact zE_w [true, true, true, true] (hq17 _ _ _ _ _)
      refine zq_1 ?_
      exact zq_96c (by decide)
    refine zq_sw ?_ ?_
    · refine zq_6_1 ?_
      refine zq_6_0 ?_
      refine zq_4_3 ?_
      refine zq_1 ?_
      refine zq_11 ?_
      refine zh_65 ?_
      refine zq_6_0 ?_
      refine zq_4_3 ?_
      refine zq_1 ?_
      refine zq_11 ?_
      refine zh_65 ?_
      refine zq_6_0 ?_
      refine zq_4_3 ?_
      refine zq_1 ?_
      refine zq_11 ?_
      refine zh_65 ?_
      refine zE_g fun hg => ?_
      refine zq_92_4i hg rfl rfl (fH_part_ok (E := E) _ _ _ _ _ _) fun v127 s128 => ?_
      refine zq_6_2 ?_
      refine zq_6_0 ?_
      refine zq_4_3 ?_
      refine zq_1 ?_
      refine zq_11 ?_
      refine zh_65 ?_
      refine zq_6_0 ?_
      refine zq_4_3 ?_
      refine zq_1 ?_
      refine zq_11 ?_
      refine zh_65 ?_
      refine zq_6_0 ?_
      refine zq_4_3 ?_
      refine zq_1 ?_
      refine zq_11 ?_
      refine zh_65 ?_
      refine zE_g fun hg => ?_
      refine zq_92_4i hg rfl rfl (zgx_ok fun hw => gM_part_ok (E := E) hw _ _ _ _ _) fun v132 s133 => ?_
      refine zq_46 ?_ ?_
      · exact zE_w [true, true, true, true] (hq17 _ _ _ _ _)
      refine zq_1 ?_
      exact zq_96c (by decide)
    refine zq_sw ?_ ?_
    · refine zq_6_1 ?_
      refine zq_6_0 ?_
      refine zq_4_3 ?_
      refine zq_1 ?_
      refine zq_11 ?_
      refine zh_65 ?_
      refine zq_6_0 ?_
      refine zq_4_3 ?_
      refine zq_1 ?_
      refine zq_11 ?_
      refine zh_65 ?_
      refine zq_6_0 ?_
      refine zq_4_3 ?_
      refine zq_1 ?_
      refine zq_11 ?_
      refine zh_65 ?_
      refine zE_g fun hg => ?_
      refine zq_92_4i hg rfl rfl (fH_heard_ok (E := E) _ _ _ _ _ _) fun v137 s138 => ?_
      refine zq_6_2 ?_
      refine zq_6_0 ?_
      refine zq_4_3 ?_
      refine zq_1 ?_
      refine zq_11 ?_
      refine zh_65 ?_
      refine zq_6_0 ?_
      refine zq_4_3 ?_
      refine zq_1 ?_
      refine zq_11 ?_
      refine zh_65 ?_
      refine zq_6_0 ?_
      refine zq_4_3 ?_
      refine zq_1 ?_
      refine zq_11 ?_
      refine zh_65 ?_
      refine zE_g fun hg => ?_
      refine zq_92_4i hg rfl rfl (zgx_ok fun hw => gM_heard_ok (E := E) hw _ _ _ _ _) fun v142 s143 => ?_
      refine zq_46 ?_ ?_
      · exact zE_w [true, true, true, true] (hq17 _ _ _ _ _)
      refine zq_1 ?_
      exact zq_96c (by decide)
    refine zq_sw ?_ ?_
    · refine zq_6_1 ?_
      refine zq_6_0 ?_
      refine zq_4_3 ?_
      refine zq_1 ?_
      refine zq_11 ?_
      refine zh_65 ?_
      refine zq_6_0 ?_
      refine zq_4_3 ?_
      refine zq_1 ?_
      refine zq_11 ?_
      refine zh_65 ?_
      refine zq_6_0 ?_
      refine zq_4_3 ?_
      refine zq_1 ?_
      refine zq_11 ?_
      refine zh_65 ?_
      refine zE_g fun hg => ?_
      refine zq_92_4i hg rfl rfl (fH_plate_ok (E := E) _ _ _ _ _ _) fun v147 s148 => ?_
      refine zq_6_2 ?_
      refine zq_6_0 ?_
      refine zq_4_3 ?_
      refine zq_1 ?_
      refine zq_11 ?_
      refine zh_65 ?_
      refine zq_6_0 ?_
      refine zq_4_3 ?_
      refine zq_1 ?_
      refine zq_11 ?_
      refine zh_65 ?_
      refine zq_6_0 ?_
      refine zq_4_3 ?_
      refine zq_1 ?_
      refine zq_11 ?_
      refine zh_65 ?_
      refine zE_g fun hg => ?_
      refine zq_92_4i hg rfl rfl (zgx_ok fun hw => gM_plate_ok (E := E) hw _ _ _ _ _) fun v152 s153 => ?_
      refine zq_46 ?_ ?_
      · exact zE_w [true, true, true, true] (hq17 _ _ _ _ _)
      refine zq_1 ?_
      exact zq_96c (by decide)
    refine zq_sw ?_ ?_
    · refine zq_6_1 ?_
      refine zq_6_0 ?_
      refine zq_4_3 ?_
      refine zq_1 ?_
      refine zq_11 ?_
      refine zh_65 ?_
      refine zq_6_0 ?_
      refine zq_4_3 ?_
      refine zq_1 ?_
      refine zq_11 ?_
      refine zh_65 ?_
      refine zq_6_0 ?_
      refine zq_4_3 ?_
      refine zq_1 ?_
      refine zq_11 ?_
      refine zh_65 ?_
      refine zq_6_0 ?_
      refine zq_4_3 ?_
      refine zq_1 ?_
      refine zq_11 ?_
      refine zh_65 ?_
      refine zE_g fun hg => ?_
      refine zq_92_5i hg rfl rfl (fH_mend_ok (E := E) _ _ _ _ _ _ _) fun v158 s159 => ?_
      refine zq_6_2 ?_
      refine zq_6_0 ?_
      refine zq_4_3 ?_
      refine zq_1 ?_
      refine zq_11 ?_
      refine zh_65 ?_
      refine zq_6_0 ?_
      refine zq_4_3 ?_
      refine zq_1 ?_
      refine zq_11 ?_
      refine zh_65 ?_
      refine zq_6_0 ?_
      refine zq_4_3 ?_
      refine zq_1 ?_
      refine zq_11 ?_
      refine zh_65 ?_
      refine zq_6_0 ?_
      refine zq_4_3 ?_
      refine zq_1 ?_
      refine zq_11 ?_
      refine zh_65 ?_
      refine zE_g fun hg => ?_
      refine zq_92_5i hg rfl rfl (zgx_ok fun hw => gM_mend_ok (E := E) hw _ _ _ _ _ _) fun v164 s165 => ?_
      refine zq_46 ?_ ?_
      · exact zE_w [true, true, true, true] (hq17 _ _ _ _ _)
      refine zq_1 ?_
      exact zq_96c (by decide)
    refine zq_sw ?_ ?_
    · refine zq_6_1 ?_
      refine zq_6_0 ?_
      refine zq_4_3 ?_
      refine zq_1 ?_
      refine zq_11 ?_
      refine zh_65 ?_
      refine zq_6_0 ?_
      refine zq_4_3 ?_
      refine zq_1 ?_
      refine zq_11 ?_
      refine zh_65 ?_
      refine zE_g fun hg => ?_
      refine zq_92_3i hg rfl rfl (fH_differs_ok (E := E) _ _ _ _ _) fun v168 s169 => ?_
      refine zq_6_2 ?_
      refine zq_6_0 ?_
      refine zq_4_3 ?_
      refine zq_1 ?_
      refine zq_11 ?_
      refine zh_65 ?_
      refine zq_6_0 ?_
      refine zq_4_3 ?_
      refine zq_1 ?_
      refine zq_11 ?_
      refine zh_65 ?_
      refine zE_g fun hg => ?_
      refine zq_92_3i hg rfl rfl (zgx_ok fun hw => gM_differs_ok (E := E) hw _ _ _ _) fun v172 s173 => ?_
      refine zq_46 ?_ ?_
      · exact zE_w [true, true, true, true] (hq17 _ _ _ _ _)
      refine zq_1 ?_
      exact zq_96c (by decide)
    refine zq_sw ?_ ?_
    · refine zq_6_1 ?_
      refine zq_6_0 ?_
      refine zq_4_3 ?_
      refine zq_1 ?_
      refine zq_11 ?_
      refine zh_65 ?_
      refine zE_g fun hg => ?_
      refine zq_92_2i hg rfl rfl (fH_press_ok (E := E) _ _ _ _) fun v175 s176 => ?_
      refine zq_6_2 ?_
      refine zq_6_0 ?_
      refine zq_4_3 ?_
      refine zq_1 ?_
      refine zq_11 ?_
      refine zh_65 ?_
      refine zE_g fun hg => ?_
      refine zq_92_2i hg rfl rfl (zgx_ok fun hw => gM_press_ok (E := E) hw _ _ _) fun v178 s179 => ?_
      refine zq_46 ?_ ?_
      · exact zE_w [true, true, true, true] (hq17 _ _ _ _ _)
      refine zq_1 ?_
      exact zq_96c (by decide)
    refine zq_sw ?_ ?_
    · refine zq_6_1 ?_
      refine zE_g fun hg => ?_
      refine zq_92_1i hg rfl rfl (fH_edition_ok (E := E) _ _ _) fun v180 s181 => ?_
      refine zq_6_2 ?_
      refine zE_g fun hg => ?_
      refine zq_92_1i hg rfl rfl (zgx_ok fun hw => gM_edition_ok (E := E) hw _ _) fun v182 s183 => ?_
      refine zq_46 ?_ ?_
      · exact zE_w [true, true, true, true] (hq17 _ _ _ _ _)
      refine zq_1 ?_
      exact zq_96c (by decide)
    refine zq_sw ?_ ?_
    · refine zq_6_1 ?_
      refine zq_6_0 ?_
      refine zq_4_3 ?_
      refine zq_1 ?_
      refine zq_11 ?_
      refine zh_65 ?_
      refine zq_6_0 ?_
      refine zq_4_3 ?_
      refine zq_1 ?_
      refine zq_11 ?_
      refine zh_65 ?_
      refine zq_6_0 ?_
      refine zq_4_3 ?_
      refine zq_1 ?_
      refine zq_11 ?_
      refine zh_65 ?_
      refine zq_6_0 ?_
      refine zq_4_3 ?_
      refine zq_1 ?_
      refine zq_11 ?_
      refine zh_65 ?_
      refine zq_6_0 ?_
      refine zq_4_3 ?_
      refine zq_1 ?_
      refine zq_11 ?_
      refine zh_65 ?_
      refine zE_g fun hg => ?_
      refine zq_92_6i hg rfl rfl (fH_printed_ok (E := E) _ _ _ _ _ _ _ _) fun v189 s190 => ?_
      refine zq_6_2 ?_
      refine zq_6_0 ?_
      refine zq_4_3 ?_
      refine zq_1 ?_
      refine zq_11 ?_
      refine zh_65 ?_
      refine zq_6_0 ?_
      refine zq_4_3 ?_
      refine zq_1 ?_
      refine zq_11 ?_
      refine zh_65 ?_
      refine zq_6_0 ?_
      refine zq_4_3 ?_
      refine zq_1 ?_
      refine zq_11 ?_
      refine zh_65 ?_
      refine zq_6_0 ?_
      refine zq_4_3 ?_
      refine zq_1 ?_
      refine zq_11 ?_
      refine zh_65 ?_
      refine zq_6_0 ?_
      refine zq_4_3 ?_
      refine zq_1 ?_
      refine zq_11 ?_
      refine zh_65 ?_
      refine zE_g fun hg => ?_
      refine zq_92_6i hg rfl rfl (zgx_ok fun hw => gM_printed_ok (E := E) hw _ _ _ _ _ _ _) fun v196 s197 => ?_
      refine zq_46 ?_ ?_
      · exact zE_w [true, true, true, true] (hq17 _ _ _ _ _)
      refine zq_1 ?_
      exact zq_96c (by decide)
    refine zq_sw ?_ ?_
    · refine zq_6_1 ?_
      refine zq_6_0 ?_
      refine zq_4_3 ?_
      refine zq_1 ?_
      refine zq_11 ?_
      refine zh_65 ?_
      refine zq_6_0 ?_
      refine zq_4_3 ?_
      refine zq_1 ?_
      refine zq_11 ?_
      refine zh_65 ?_
      refine zq_6_0 ?_
      refine zq_4_3 ?_
      refine zq_1 ?_
      refine zq_11 ?_
      refine zh_65 ?_
      refine zq_6_0 ?_
      refine zq_4_3 ?_
      refine zq_1 ?_
      refine zq_11 ?_
      refine zh_65 ?_
      refine zq_6_0 ?_
      refine zq_4_3 ?_
      refine zq_1 ?_
      refine zq_11 ?_
      refine zh_65 ?_
      refine zq_6_0 ?_
      refine zq_4_3 ?_
      refine zq_1 ?_
      refine zq_11 ?_
      refine zh_65 ?_
      refine zE_g fun hg => ?_
      refine zq_92_7i hg rfl rfl (fH_erratum_ok (E := E) _ _ _ _ _ _ _ _ _) fun v204 s205 => ?_
      refine zq_6_2 ?_
      refine zq_6_0 ?_
      refine zq_4_3 ?_
      refine zq_1 ?_
      refine zq_11 ?_
      refine zh_65 ?_
      refine zq_6_0 ?_
      refine zq_4_3 ?_
      refine zq_1 ?_
      refine zq_11 ?_
      refine zh_65 ?_
      refine zq_6_0 ?_
      refine zq_4_3 ?_
      refine zq_1 ?_
      refine zq_11 ?_
      refine zh_65 ?_
      refine zq_6_0 ?_
      refine zq_4_3 ?_
      refine zq_1 ?_
      refine zq_11 ?_
      refine zh_65 ?_
      refine zq_6_0 ?_
      refine zq_4_3 ?_
      refine zq_1 ?_
      refine zq_11 ?_
      refine zh_65 ?_
      refine zq_6_0 ?_
      refine zq_4_3 ?_
      refine zq_1 ?_
      refine zq_11 ?_
      refine zh_65 ?_
      refine zE_g fun hg => ?_
      refine zq_92_7i hg rfl rfl (zgx_ok fun hw => gM_erratum_ok (E := E) hw _ _ _ _ _ _ _ _) fun v212 s213 => ?_
      refine zq_46 ?_ ?_
      · exact zE_w [true, true, true, true] (hq17 _ _ _ _ _)
      refine zq_1 ?_
      exact zq_96c (by decide)
    refine zq_sw ?_ ?_
    · refine zq_6_1 ?_
      refine zq_6_0 ?_
      refine zq_4_3 ?_
      refine zq_1 ?_
      refine zq_11 ?_
      refine zh_65 ?_
      refine zE_g fun hg => ?_
      refine zq_92_2i hg rfl rfl (fH_idle_ok (E := E) _ _ _ _) fun v215 s216 => ?_
      refine zq_6_2 ?_
      refine zq_6_0 ?_
      refine zq_4_3 ?_
      refine zq_1 ?_
      refine zq_11 ?_
      refine zh_65 ?_
      refine zE_g fun hg => ?_
      refine zq_92_2i hg rfl rfl (zgx_ok fun hw => gM_idle_ok (E := E) hw _ _ _) fun v218 s219 => ?_
      refine zq_46 ?_ ?_
      · exact zE_w [true, true, true, true] (hq17 _ _ _ _ _)
      refine zq_1 ?_
      exact zq_96c (by decide)
    refine zq_sw ?_ ?_
    · refine zq_6_1 ?_
      refine zq_6_0 ?_
      refine zq_4_3 ?_
      refine zq_1 ?_
      refine zq_11 ?_
      refine zh_65 ?_
      refine zq_6_0 ?_
      refine zq_4_3 ?_
      refine zq_1 ?_
      refine zq_11 ?_
      refine zh_65 ?_
      refine zq_6_0 ?_
      refine zq_4_3 ?_
      refine zq_1 ?_
      refine zq_11 ?_
      refine zh_65 ?_
      refine zE_g fun hg => ?_
      refine zq_92_4i hg rfl rfl (fH_changes_ok (E := E) _ _ _ _ _ _) fun v223 s224 => ?_
      refine zq_6_2 ?_
      refine zq_6_0 ?_
      refine zq_4_3 ?_
      refine zq_1 ?_
      refine zq_11 ?_
      refine zh_65 ?_
      refine zq_6_0 ?_
      refine zq_4_3 ?_
      refine zq_1 ?_
      refine zq_11 ?_
      refine zh_65 ?_
      refine zq_6_0 ?_
      refine zq_4_3 ?_
      refine zq_1 ?_
      refine zq_11 ?_
      refine zh_65 ?_
      refine zE_g fun hg => ?_
      refine zq_92_4i hg rfl rfl (zgx_ok fun hw => gM_changes_ok (E := E) hw _ _ _ _ _) fun v228 s229 => ?_
      refine zq_46 ?_ ?_
      · exact zE_w [true, true, true, true] (hq17 _ _ _ _ _)
      refine zq_1 ?_
      exact zq_96c (by decide)
    refine zq_sw ?_ ?_
    · refine zq_6_1 ?_
      refine zq_6_0 ?_
      refine zq_4_3 ?_
      refine zq_1 ?_
      refine zq_11 ?_
      refine zh_65 ?_
      refine zE_g fun hg => ?_
      refine zq_92_2i hg rfl rfl (fH_hangs_ok (E := E) _ _ _ _) fun v231 s232 => ?_
      refine zq_6_2 ?_
      refine zq_6_0 ?_
      refine zq_4_3 ?_
      refine zq_1 ?_
      refine zq_11 ?_
      refine zh_65 ?_
      refine zE_g fun hg => ?_
      refine zq_92_2i hg rfl rfl (zgx_ok fun hw => gM_hangs_ok (E := E) hw _ _ _) fun v234 s235 => ?_
      refine zq_46 ?_ ?_
      · exact zE_w [true, true, true, true] (hq17 _ _ _ _ _)
      refine zq_1 ?_
      exact zq_96c (by decide)
    refine zq_sw ?_ ?_
    · refine zq_6_1 ?_
      refine zq_6_0 ?_
      refine zq_4_3 ?_
      refine zq_1 ?_
      refine zq_11 ?_
      refine zh_65 ?_
      refine zq_6_0 ?_
      refine zq_4_3 ?_
      refine zq_1 ?_
      refine zq_11 ?_
      refine zh_65 ?_
      refine zq_6_0 ?_
      refine zq_4_3 ?_
      refine zq_1 ?_
      refine zq_11 ?_
      refine zh_65 ?_
      refine zq_6_0 ?_
      refine zq_4_3 ?_
      refine zq_1 ?_
      refine zq_11 ?_
      refine zh_65 ?_
      refine zE_g fun hg => ?_
      refine zq_92_5i hg rfl rfl (fH_pages_ok (E := E) _ _ _ _ _ _ _) fun v240 s241 => ?_
      refine zq_6_2 ?_
      refine zq_6_0 ?_
      refine zq_4_3 ?_
      refine zq_1 ?_
      refine zq_11 ?_
      refine zh_65 ?_
      refine zq_6_0 ?_
      refine zq_4_3 ?_
      refine zq_1 ?_
      refine zq_11 ?_
      refine zh_65 ?_
      refine zq_6_0 ?_
      refine zq_4_3 ?_
      refine zq_1 ?_
      refine zq_11 ?_
      refine zh_65 ?_
      refine zq_6_0 ?_
      refine zq_4_3 ?_
      refine zq_1 ?_
      refine zq_11 ?_
      refine zh_65 ?_
      refine zE_g fun hg => ?_
      refine zq_92_5i hg rfl rfl (zgx_ok fun hw => gM_pages_ok (E := E) hw _ _ _ _ _ _) fun v246 s247 => ?_
      refine zq_46 ?_ ?_
      · exact zE_w [true, true, true, true] (hq17 _ _ _ _ _)
      refine zq_1 ?_
      exact zq_96c (by decide)
    refine zq_sw ?_ ?_
    · refine zq_6_1 ?_
      refine zq_6_0 ?_
      refine zq_4_3 ?_
      refine zq_1 ?_
      refine zq_11 ?_
      refine zh_65 ?_
      refine zq_6_0 ?_
      refine zq_4_3 ?_
      refine zq_1 ?_
      refine zq_11 ?_
      refine zh_65 ?_
      refine zE_g fun hg => ?_
      refine zq_92_3i hg rfl rfl (fH_feed_ok (E := E) _ _ _ _ _) fun v250 s251 => ?_
      refine zq_6_2 ?_
      refine zq_6_0 ?_
      refine zq_4_3 ?_
      refine zq_1 ?_
      refine zq_11 ?_
      refine zh_65 ?_
      refine zq_6_0 ?_
      refine zq_4_3 ?_
      refine zq_1 ?_
      refine zq_11 ?_
      refine zh_65 ?_
      refine zE_g fun hg => ?_
      refine zq_92_3i hg rfl rfl (zgx_ok fun hw => gM_feed_ok (E := E) hw _ _ _ _) fun v254 s255 => ?_
      refine zq_46 ?_ ?_
      · exact zE_w [true, true, true, true] (hq17 _ _ _ _ _)
      refine zq_1 ?_
      exact zq_96c (by decide)
    refine zq_sw ?_ ?_
    · refine zq_6_1 ?_
      refine zq_6_0 ?_
      refine zq_4_3 ?_
      refine zq_1 ?_
      refine zq_11 ?_
      refine zh_65 ?_
      refine zq_6_0 ?_
      refine zq_4_3 ?_
      refine zq_1 ?_
      refine zq_11 ?_
      refine zh_65 ?_
      refine zE_g fun hg => ?_
      refine zq_92_3i hg rfl rfl (fH_contract_ok (E := E) _ _ _ _ _) fun v258 s259 => ?_
      refine zq_6_2 ?_
      refine zq_6_0 ?_
      refine zq_4_3 ?_
      refine zq_1 ?_
      refine zq_11 ?_
      refine zh_65 ?_
      refine zq_6_0 ?_
      refine zq_4_3 ?_
      refine zq_1 ?_
      refine zq_11 ?_
      refine zh_65 ?_
      refine zE_g fun hg => ?_
      refine zq_92_3i hg rfl rfl (zgx_ok fun hw => gM_contract_ok (E := E) hw _ _ _ _) fun v262 s263 => ?_
      refine zq_46 ?_ ?_
      · exact zE_w [true, true, true, true] (hq17 _ _ _ _ _)
      refine zq_1 ?_
      exact zq_96c (by decide)
    refine zq_sw ?_ ?_
    · refine zq_6_1 ?_
      refine zq_6_0 ?_
      refine zq_4_3 ?_
      refine zq_1 ?_
      refine zq_11 ?_
      refine zh_65 ?_
      refine zq_6_0 ?_
      refine zq_4_3 ?_
      refine zq_1 ?_
      refine zq_11 ?_
      refine zh_65 ?_
      refine zq_6_0 ?_
      refine zq_4_3 ?_
      refine zq_1 ?_
      refine zq_11 ?_
      refine zh_65 ?_
      refine zE_g fun hg => ?_
      refine zq_92_4i hg rfl rfl (fH_lawful_ok (E := E) _ _ _ _ _ _) fun v267 s268 => ?_
      refine zq_6_2 ?_
      refine zq_6_0 ?_
      refine zq_4_3 ?_
      refine zq_1 ?_
      refine zq_11 ?_
      refine zh_65 ?_
      refine zq_6_0 ?_
      refine zq_4_3 ?_
      refine zq_1 ?_
      refine zq_11 ?_
      refine zh_65 ?_
      refine zq_6_0 ?_
      refine zq_4_3 ?_
      refine zq_1 ?_
      refine zq_11 ?_
      refine zh_65 ?_
      refine zE_g fun hg => ?_
      refine zq_92_4i hg rfl rfl (zgx_ok fun hw => gM_lawful_ok (E := E) hw _ _ _ _ _) fun v272 s273 => ?_
      refine zq_46 ?_ ?_
      · exact zE_w [true, true, true, true] (hq17 _ _ _ _ _)
      refine zq_1 ?_
      exact zq_96c (by decide)
    refine zq_sw ?_ ?_
    · refine zq_6_1 ?_
      refine zq_6_0 ?_
      refine zq_4_3 ?_
      refine zq_1 ?_
      refine zq_11 ?_
      refine zh_65 ?_
      refine zq_6_0 ?_
      refine zq_4_3 ?_
      refine zq_1 ?_
      refine zq_11 ?_
      refine zh_65 ?_
      refine zq_6_0 ?_
      refine zq_4_3 ?_
      refine zq_1 ?_
      refine zq_11 ?_
      refine zh_65 ?_
      refine zE_g fun hg => ?_
      refine zq_92_4i hg rfl rfl (fH_right_ok (E := E) _ _ _ _ _ _) fun v277 s278 => ?_
      refine zq_6_2 ?_
      refine zq_6_0 ?_
      refine zq_4_3 ?_
      refine zq_1 ?_
      refine zq_11 ?_
      refine zh_65 ?_
      refine zq_6_0 ?_
      refine zq_4_3 ?_
      refine zq_1 ?_
      refine zq_11 ?_
      refine zh_65 ?_
      refine zq_6_0 ?_
      refine zq_4_3 ?_
      refine zq_1 ?_
      refine zq_11 ?_
      refine zh_65 ?_
      refine zE_g fun hg => ?_
      refine zq_92_4i hg rfl rfl (zgx_ok fun hw => gM_right_ok (E := E) hw _ _ _ _ _) fun v282 s283 => ?_
      refine zq_46 ?_ ?_
      · exact zE_w [true, true, true, true] (hq17 _ _ _ _ _)
      refine zq_1 ?_
      exact zq_96c (by decide)
    refine zq_sw ?_ ?_
    · refine zq_6_1 ?_
      refine zq_6_0 ?_
      refine zq_4_3 ?_
      refine zq_1 ?_
      refine zq_11 ?_
      refine zh_65 ?_
      refine zq_6_0 ?_
      refine zq_4_3 ?_
      refine zq_1 ?_
      refine zq_11 ?_
      refine zh_65 ?_
      refine zq_6_0 ?_
      refine zq_4_3 ?_
      refine zq_1 ?_
      refine zq_11 ?_
      refine zh_65 ?_
      refine zq_6_0 ?_
      refine zq_4_3 ?_
      refine zq_1 ?_
      refine zq_11 ?_
      refine zh_65 ?_
      refine zq_6_0 ?_
      refine zq_4_3 ?_
      refine zq_1 ?_
      refine zq_11 ?_
      refine zh_65 ?_
      refine zq_6_0 ?_
      refine zq_4_3 ?_
      refine zq_1 ?_
      refine zq_11 ?_
      refine zh_65 ?_
      refine zq_6_0 ?_
      refine zq_4_3 ?_
      refine zq_1 ?_
      refine zq_11 ?_
      refine zh_65 ?_
      refine zE_g fun hg => ?_
      refine zq_92_8i hg rfl rfl (fH_paid_ok (E := E) _ _ _ _ _ _ _ _ _ _) fun v291 s292 => ?_
      refine zq_6_2 ?_
      refine zq_6_0 ?_
      refine zq_4_3 ?_
      refine zq_1 ?_
      refine zq_11 ?_
      refine zh_65 ?_
      refine zq_6_0 ?_
      refine zq_4_3 ?_
      refine zq_1 ?_
      refine zq_11 ?_
      refine zh_65 ?_
      refine zq_6_0 ?_
      refine zq_4_3 ?_
      refine zq_1 ?_
      refine zq_11 ?_
      refine zh_65 ?_
      refine zq_6_0 ?_
      refine zq_4_3 ?_
      refine zq_1 ?_
      refine zq_11 ?_
      refine zh_65 ?_
      refine zq_6_0 ?_
      refine zq_4_3 ?_
      refine zq_1 ?_
      refine zq_11 ?_
      refine zh_65 ?_
      refine zq_6_0 ?_
      refine zq_4_3 ?_
      refine zq_1 ?_
      refine zq_11 ?_
      refine zh_65 ?_
      refine zq_6_0 ?_
      refine zq_4_3 ?_
      refine zq_1 ?_
      refine zq_11 ?_
      refine zh_65 ?_
      refine zE_g fun hg => ?_
      refine zq_92_8i hg rfl rfl (zgx_ok fun hw => gM_paid_ok (E := E) hw _ _ _ _ _ _ _ _ _) fun v300 s301 => ?_
      refine zq_46 ?_ ?_
      · exact zE_w [true, true, true, true] (hq17 _ _ _ _ _)
      refine zq_1 ?_
      exact zq_96c (by decide)
    refine zq_sw ?_ ?_
    · refine zq_6_1 ?_
      refine zq_6_0 ?_
      refine zq_4_3 ?_
      refine zq_1 ?_
      refine zq_11 ?_
      refine zh_65 ?_
      refine zE_g fun hg => ?_
      refine zq_92_2i hg rfl rfl (fH_set_ok (E := E) _ _ _ _) fun v303 s304 => ?_
      refine zq_6_2 ?_
      refine zq_6_0 ?_
      refine zq_4_3 ?_
      refine zq_1 ?_
      refine zq_11 ?_
      refine zh_65 ?_
      refine zE_g fun hg => ?_
      refine zq_92_2i hg rfl rfl (zgx_ok fun hw => gM_set_ok (E := E) hw _ _ _) fun v306 s307 => ?_
      refine zq_46 ?_ ?_
      · exact zE_w [true, true, true, true] (hq17 _ _ _ _ _)
      refine zq_1 ?_
      exact zq_96c (by decide)
    refine zq_sw ?_ ?_
    · refine zq_6_1 ?_
      refine zq_6_0 ?_
      refine zq_4_3 ?_
      refine zq_1 ?_
      refine zq_11 ?_
      refine zh_65 ?_
      refine zq_6_0 ?_
      refine zq_4_3 ?_
      refine zq_1 ?_
      refine zq_11 ?_
      refine zh_65 ?_
      refine zE_g fun hg => ?_
      refine zq_92_3i hg rfl rfl (fH_stands_ok (E := E) _ _ _ _ _) fun v310 s311 => ?_
      refine zq_6_2 ?_
      refine zq_6_0 ?_
      refine zq_4_3 ?_
      refine zq_1 ?_
      refine zq_11 ?_
      refine zh_65 ?_
      refine zq_6_0 ?_
      refine zq_4_3 ?_
      refine zq_1 ?_
      refine zq_11 ?_
      refine zh_65 ?_
      refine zE_g fun hg => ?_
      refine zq_92_3i hg rfl rfl (zgx_ok fun hw => gM_stands_ok (E := E) hw _ _ _ _) fun v314 s315 => ?_
      refine zq_46 ?_ ?_
      · exact zE_w [true, true, true, true] (hq17 _ _ _ _ _)
      refine zq_1 ?_
      exact zq_96c (by decide)
    refine zq_sw ?_ ?_
    · refine zq_6_1 ?_
      refine zq_6_0 ?_
      refine zq_4_3 ?_
      refine zq_1 ?_
      refine zq_11 ?_
      refine zh_65 ?_
      refine zq_6_0 ?_
      refine zq_4_3 ?_
      refine zq_1 ?_
      refine zq_11 ?_
      refine zh_65 ?_
      refine zq_6_0 ?_
      refine zq_4_3 ?_
      refine zq_1 ?_
      refine zq_11 ?_
      refine zh_65 ?_
      refine zE_g fun hg => ?_
      refine zq_92_4i hg rfl rfl (fH_way_ok (E := E) _ _ _ _ _ _) fun v319 s320 => ?_
      refine zq_6_2 ?_
      refine zq_6_0 ?_
      refine zq_4_3 ?_
      refine zq_1 ?_
      refine zq_11 ?_
      refine zh_65 ?_
      refine zq_6_0 ?_
      refine zq_4_3 ?_
      refine zq_1 ?_
      refine zq_11 ?_
      refine zh_65 ?_
      refine zq_6_0 ?_
      refine zq_4_3 ?_
      refine zq_1 ?_
      refine zq_11 ?_
      refine zh_65 ?_
      refine zE_g fun hg => ?_
      refine zq_92_4i hg rfl rfl (zgx_ok fun hw => gM_way_ok (E := E) hw _ _ _ _ _) fun v324 s325 => ?_
      refine zq_46 ?_ ?_
      · exact zE_w [true, true, true, true] (hq17 _ _ _ _ _)
      refine zq_1 ?_
      exact zq_96c (by decide)
    refine zq_sw ?_ ?_
    · refine zq_6_1 ?_
      refine zq_6_0 ?_
      refine zq_4_3 ?_
      refine zq_1 ?_
      refine zq_11 ?_
      refine zh_65 ?_
      refine zq_6_0 ?_
      refine zq_4_3 ?_
      refine zq_1 ?_
      refine zq_11 ?_
      refine zh_65 ?_
      refine zq_6_0 ?_
      refine zq_4_3 ?_
      refine zq_1 ?_
      refine zq_11 ?_
      refine zh_65 ?_
      refine zq_6_0 ?_
      refine zq_4_3 ?_
      refine zq_1 ?_
      refine zq_11 ?_
      refine zh_65 ?_
      refine zE_g fun hg => ?_
      refine zq_92_5i hg rfl rfl (fH_ask_ok (E := E) _ _ _ _ _ _ _) fun v330 s331 => ?_
      refine zq_6_2 ?_
      refine zq_6_0 ?_
      refine zq_4_3 ?_
      refine zq_1 ?_
      refine zq_11 ?_
      refine zh_65 ?_
      refine zq_6_0 ?_
      refine zq_4_3 ?_
      refine zq_1 ?_
      refine zq_11 ?_
      refine zh_65 ?_
      refine zq_6_0 ?_
      refine zq_4_3 ?_
      refine zq_1 ?_
      refine zq_11 ?_
      refine zh_65 ?_
      refine zq_6_0 ?_
      refine zq_4_3 ?_
      refine zq_1 ?_
      refine zq_11 ?_
      refine zh_65 ?_
      refine zE_g fun hg => ?_
      refine zq_92_5i hg rfl rfl (zgx_ok fun hw => gM_ask_ok (E := E) hw _ _ _ _ _ _) fun v336 s337 => ?_
      refine zq_46 ?_ ?_
      · exact zE_w [true, true, true, true] (hq17 _ _ _ _ _)
      refine zq_1 ?_
      exact zq_96c (by decide)
    refine zq_sw ?_ ?_
    · refine zq_6_1 ?_
      refine zE_g fun hg => ?_
      refine zq_92_1i hg rfl rfl (fH_askless_ok (E := E) _ _ _) fun v338 s339 => ?_
      refine zq_6_2 ?_
      refine zE_g fun hg => ?_
      refine zq_92_1i hg rfl rfl (zgx_ok fun hw => gM_askless_ok (E := E) hw _ _) fun v340 s341 => ?_
      refine zq_46 ?_ ?_
      · exact zE_w [true, true, true, true] (hq17 _ _ _ _ _)
      refine zq_1 ?_
      exact zq_96c (by decide)
    refine zq_sw ?_ ?_
    · refine zq_6_1 ?_
      refine zq_6_0 ?_
      refine zq_4_3 ?_
      refine zq_1 ?_
      refine zq_11 ?_
      refine zh_65 ?_
      refine zq_6_0 ?_
      refine zq_4_3 ?_
      refine zq_1 ?_
      refine zq_11 ?_
      refine zh_65 ?_
      refine zE_g fun hg => ?_
      refine zq_92_3i hg rfl rfl (fH_hire_ok (E := E) _ _ _ _ _) fun v344 s345 => ?_
      refine zq_6_2 ?_
      refine zq_6_0 ?_
      refine zq_4_3 ?_
      refine zq_1 ?_
      refine zq_11 ?_
      refine zh_65 ?_
      refine zq_6_0 ?_
      refine zq_4_3 ?_
      refine zq_1 ?_
      refine zq_11 ?_
      refine zh_65 ?_
      refine zE_g fun hg => ?_
      refine zq_92_3i hg rfl rfl (zgx_ok fun hw => gM_hire_ok (E := E) hw _ _ _ _) fun v348 s349 => ?_
      refine zq_46 ?_ ?_
      · exact zE_w [true, true, true, true] (hq17 _ _ _ _ _)
      refine zq_1 ?_
      exact zq_96c (by decide)
    refine zq_sw ?_ ?_
    · refine zq_6_1 ?_
      refine zq_6_0 ?_
      refine zq_4_3 ?_
      refine zq_1 ?_
      refine zq_11 ?_
      refine zh_65 ?_
      refine zE_g fun hg => ?_
      refine zq_92_2i hg rfl rfl (fH_month_ok (E := E) _ _ _ _) fun v351 s352 => ?_
      refine zq_6_2 ?_
      refine zq_6_0 ?_
      refine zq_4_3 ?_
      refine zq_1 ?_
      refine zq_11 ?_
      refine zh_65 ?_
      refine zE_g fun hg => ?_
      refine zq_92_2i hg rfl rfl (zgx_ok fun hw => gM_month_ok (E := E) hw _ _ _) fun v354 s355 => ?_
      refine zq_46 ?_ ?_
      · exact zE_w [true, true, true, true] (hq17 _ _ _ _ _)
      refine zq_1 ?_
      exact zq_96c (by decide)
    refine zq_sw ?_ ?_
    · refine zq_6_1 ?_
      refine zq_6_0 ?_
      refine zq_4_3 ?_
      refine zq_1 ?_
      refine zq_11 ?_
      refine zh_65 ?_
      refine zq_6_0 ?_
      refine zq_4_3 ?_
      refine zq_1 ?_
      refine zq_11 ?_
      refine zh_65 ?_
      refine zq_6_0 ?_
      refine zq_4_3 ?_
      refine zq_1 ?_
      refine zq_11 ?_
      refine zh_65 ?_
      refine zE_g fun hg => ?_
      refine zq_92_4i hg rfl rfl (fH_costs_ok (E := E) _ _ _ _ _ _) fun v359 s360 => ?_
      refine zq_6_2 ?_
      refine zq_6_0 ?_
      refine zq_4_3 ?_
      refine zq_1 ?_
      refine zq_11 ?_
      refine zh_65 ?_
      refine zq_6_0 ?_
      refine zq_4_3 ?_
      refine zq_1 ?_
      refine zq_11 ?_
      refine zh_65 ?_
      refine zq_6_0 ?_
      refine zq_4_3 ?_
      refine zq_1 ?_
      refine zq_11 ?_
      refine zh_65 ?_
      refine zE_g fun hg => ?_
      refine zq_92_4i hg rfl rfl (zgx_ok fun hw => gM_costs_ok (E := E) hw _ _ _ _ _) fun v364 s365 => ?_
      refine zq_46 ?_ ?_
      · exact zE_w [true, true, true, true] (hq17 _ _ _ _ _)
      refine zq_1 ?_
      exact zq_96c (by decide)
    refine zq_sw ?_ ?_
    · refine zq_6_1 ?_
      refine zq_6_0 ?_
      refine zq_4_3 ?_
      refine zq_1 ?_
      refine zq_11 ?_
      refine zh_65 ?_
      refine zE_g fun hg => ?_
      refine zq_92_2i hg rfl rfl (fH_prints_ok (E := E) _ _ _ _) fun v367 s368 => ?_
      refine zq_6_2 ?_
      refine zq_6_0 ?_
      refine zq_4_3 ?_
      refine zq_1 ?_
      refine zq_11 ?_
      refine zh_65 ?_
      refine zE_g fun hg => ?_
      refine zq_92_2i hg rfl rfl (zgx_ok fun hw => gM_prints_ok (E := E) hw _ _ _) fun v370 s371 => ?_
      refine zq_46 ?_ ?_
      · exact zE_w [true, true, true, true] (hq17 _ _ _ _ _)
      refine zq_1 ?_
      exact zq_96c (by decide)
    refine zq_sw ?_ ?_
    · refine zq_6_1 ?_
      refine zq_6_0 ?_
      refine zq_4_3 ?_
      refine zq_1 ?_
      refine zq_11 ?_
      refine zh_65 ?_
      refine zq_6_0 ?_
      refine zq_4_3 ?_
      refine zq_1 ?_
      refine zq_11 ?_
      refine zh_65 ?_
      refine zq_6_0 ?_
      refine zq_4_3 ?_
      refine zq_1 ?_
      refine zq_11 ?_
      refine zh_65 ?_
      refine zE_g fun hg => ?_
      refine zq_92_4i hg rfl rfl (fH_proof_ok (E := E) _ _ _ _ _ _) fun v375 s376 => ?_
      refine zq_6_2 ?_
      refine zq_6_0 ?_
      refine zq_4_3 ?_
      refine zq_1 ?_
      refine zq_11 ?_
      refine zh_65 ?_
      refine zq_6_0 ?_
      refine zq_4_3 ?_
      refine zq_1 ?_
      refine zq_11 ?_
      refine zh_65 ?_
      refine zq_6_0 ?_
      refine zq_4_3 ?_
      refine zq_1 ?_
      refine zq_11 ?_
      refine zh_65 ?_
      refine zE_g fun hg => ?_
      refine zq_92_4i hg rfl rfl (zgx_ok fun hw => gM_proof_ok (E := E) hw _ _ _ _ _) fun v380 s381 => ?_
      refine zq_46 ?_ ?_
      · exact zE_w [true, true, true, true] (hq17 _ _ _ _ _)
      refine zq_1 ?_
      exact zq_96c (by decide)
    refine zq_sw ?_ ?_
    · refine zq_6_1 ?_
      refine zq_6_0 ?_
      refine zq_4_3 ?_
      refine zq_1 ?_
      refine zq_11 ?_
      refine zh_65 ?_
      refine zq_6_0 ?_
      refine zq_4_3 ?_
      refine zq_1 ?_
      refine zq_11 ?_
      refine zh_65 ?_
      refine zq_6_0 ?_
      refine zq_4_3 ?_
      refine zq_1 ?_
      refine zq_11 ?_
      refine zh_65 ?_
      refine zq_6_0 ?_
      refine zq_4_3 ?_
      refine zq_1 ?_
      refine zq_11 ?_
      refine zh_65 ?_
      refine zE_g fun hg => ?_
      refine zq_92_5l hg rfl rfl (fH_left_ok (E := E) _ _ _ _ _ _ _) fun v386 s387 => ?_
      refine zq_6_2 ?_
      refine zq_6_0 ?_
      refine zq_4_3 ?_
      refine zq_1 ?_
      refine zq_11 ?_
      refine zh_65 ?_
      refine zq_6_0 ?_
      refine zq_4_3 ?_
      refine zq_1 ?_
      refine zq_11 ?_
      refine zh_65 ?_
      refine zq_6_0 ?_
      refine zq_4_3 ?_
      refine zq_1 ?_
      refine zq_11 ?_
      refine zh_65 ?_
      refine zq_6_0 ?_
      refine zq_4_3 ?_
      refine zq_1 ?_
      refine zq_11 ?_
      refine zh_65 ?_
      refine zE_g fun hg => ?_
      refine zq_92_5l hg rfl rfl (zgx_ok fun hw => gM_left_ok (E := E) hw _ _ _ _ _ _) fun v392 s393 => ?_
      refine zq_31 ?_
      refine zq_40 ?_ ?_
      · exact zE_w [true, true, true, true] (hq17 _ _ _ _ _)
      refine zq_1 ?_
      exact zq_96c (by decide)
    refine zq_sw ?_ ?_
    · refine zq_6_1 ?_
      refine zq_6_0 ?_
      refine zq_4_3 ?_
      refine zq_1 ?_
      refine zq_11 ?_
      refine zh_65 ?_
      refine zq_6_0 ?_
      refine zq_4_3 ?_
      refine zq_1 ?_
      refine zq_11 ?_
      refine zh_65 ?_
      refine zE_g fun hg => ?_
      refine zq_92_3i hg rfl rfl (fH_missed_ok (E := E) _ _ _ _ _) fun v396 s397 => ?_
      refine zq_6_2 ?_
      refine zq_6_0 ?_
      refine zq_4_3 ?_
      refine zq_1 ?_
      refine zq_11 ?_
      refine zh_65 ?_
      refine zq_6_0 ?_
      refine zq_4_3 ?_
      refine zq_1 ?_
      refine zq_11 ?_
      refine zh_65 ?_
      refine zE_g fun hg => ?_
      refine zq_92_3i hg rfl rfl (zgx_ok fun hw => gM_missed_ok (E := E) hw _ _ _ _) fun v400 s401 => ?_
      refine zq_46 ?_ ?_
      · exact zE_w [true, true, true, true] (hq17 _ _ _ _ _)
      refine zq_1 ?_
      exact zq_96c (by decide)
    refine zq_sw ?_ ?_
    · refine zq_6_1 ?_
      refine zq_6_0 ?_
      refine zq_4_3 ?_
      refine zq_1 ?_
      refine zq_11 ?_
      refine zh_65 ?_
      refine zq_6_0 ?_
      refine zq_4_3 ?_
      refine zq_1 ?_
      refine zq_11 ?_
      refine zh_65 ?_
      refine zq_6_0 ?_
      refine zq_4_3 ?_
      refine zq_1 ?_
      refine zq_11 ?_
      refine zh_65 ?_
      refine zE_g fun hg => ?_
      refine zq_92_4i hg rfl rfl (fH_act_ok (E := E) _ _ _ _ _ _) fun v405 s406 => ?_
      refine zq_6_2 ?_
      refine zq_6_0 ?_
      refine zq_4_3 ?_
      refine zq_1 ?_
      refine zq_11 ?_
      refine zh_65 ?_
      refine zq_6_0 ?_
      refine zq_4_3 ?_
      refine zq_1 ?_
      refine zq_11 ?_
      refine zh_65 ?_
      refine zq_6_0 ?_
      refine zq_4_3 ?_
      refine zq_1 ?_
      refine zq_11 ?_
      refine zh_65 ?_
      refine zE_g fun hg => ?_
      refine zq_92_4i hg rfl rfl (zgx_ok fun hw => gM_act_ok (E := E) hw _ _ _ _ _) fun v410 s411 => ?_
      refine zq_46 ?_ ?_
      · exact zE_w [true, true, true, true] (hq17 _ _ _ _ _)
      refine zq_1 ?_
      exact zq_96c (by decide)
    refine zq_sw ?_ ?_
    · refine zq_6_1 ?_
      refine zq_6_0 ?_
      refine zq_4_3 ?_
      refine zq_1 ?_
      refine zq_11 ?_
      refine zh_65 ?_
      refine zE_g fun hg => ?_
      refine zq_92_2i hg rfl rfl (fH_trace_ok (E := E) _ _ _ _) fun v413 s414 => ?_
      refine zq_6_2 ?_
      refine zq_6_0 ?_
      refine zq_4_3 ?_
      refine zq_1 ?_
      refine zq_11 ?_
      refine zh_65 ?_
      refine zE_g fun hg => ?_
      refine zq_92_2i hg rfl rfl (zgx_ok fun hw => gM_trace_ok (E := E) hw _ _ _) fun v416 s417 => ?_
      refine zq_46 ?_ ?_
      · exact zE_w [true, true, true, true] (hq17 _ _ _ _ _)
      refine zq_1 ?_
      exact zq_96c (by decide)
    refine zq_sw ?_ ?_
    · refine zq_6_1 ?_
      refine zq_6_0 ?_
      refine zq_4_3 ?_
      refine zq_1 ?_
      refine zq_11 ?_
      refine zh_65 ?_
      refine zq_6_0 ?_
      refine zq_4_3 ?_
      refine zq_1 ?_
      refine zq_11 ?_
      refine zh_65 ?_
      refine zE_g fun hg => ?_
      refine zq_92_3i hg rfl rfl (fH_taken_ok (E := E) _ _ _ _ _) fun v420 s421 => ?_
      refine zq_6_2 ?_
      refine zq_6_0 ?_
      refine zq_4_3 ?_
      refine zq_1 ?_
      refine zq_11 ?_
      refine zh_65 ?_
      refine zq_6_0 ?_
      refine zq_4_3 ?_
      refine zq_1 ?_
      refine zq_11 ?_
      refine zh_65 ?_
      refine zE_g fun hg => ?_
      refine zq_92_3i hg rfl rfl (zgx_ok fun hw => gM_taken_ok (E := E) hw _ _ _ _) fun v424 s425 => ?_
      refine zq_46 ?_ ?_
      · exact zE_w [true, true, true, true] (hq17 _ _ _ _ _)
      refine zq_1 ?_
      exact zq_96c (by decide)
    refine zq_sw ?_ ?_
    · refine zq_6_1 ?_
      refine zq_6_0 ?_
      refine zq_4_3 ?_
      refine zq_1 ?_
      refine zq_11 ?_
      refine zh_65 ?_
      refine zE_g fun hg => ?_
      refine zq_92_2i hg rfl rfl (fH_count_ok (E := E) _ _ _ _) fun v427 s428 => ?_
      refine zq_6_2 ?_
      refine zq_6_0 ?_
      refine zq_4_3 ?_
      refine zq_1 ?_
      refine zq_11 ?_
      refine zh_65 ?_
      refine zE_g fun hg => ?_
      refine zq_92_2i hg rfl rfl (zgx_ok fun hw => gM_count_ok (E := E) hw _ _ _) fun v430 s431 => ?_
      refine zq_46 ?_ ?_
      · exact zE_w [true, true, true, true] (hq17 _ _ _ _ _)
      refine zq_1 ?_
      exact zq_96c (by decide)
    refine zq_sw ?_ ?_
    · refine zq_6_1 ?_
      refine zq_6_0 ?_
      refine zq_4_3 ?_
      refine zq_1 ?_
      refine zq_11 ?_
      refine zh_65 ?_
      refine zq_6_0 ?_
      refine zq_4_3 ?_
      refine zq_1 ?_
      refine zq_11 ?_
      refine zh_65 ?_
      refine zq_6_0 ?_
      refine zq_4_3 ?_
      refine zq_1 ?_
      refine zq_11 ?_
      refine zh_65 ?_
      refine zE_g fun hg => ?_
      refine zq_92_4i hg rfl rfl (fH_tape_ok (E := E) _ _ _ _ _ _) fun v435 s436 => ?_
      refine zq_6_2 ?_
      refine zq_6_0 ?_
      refine zq_4_3 ?_
      refine zq_1 ?_
      refine zq_11 ?_
      refine zh_65 ?_
      refine zq_6_0 ?_
      refine zq_4_3 ?_
      refine zq_1 ?_
      refine zq_11 ?_
      refine zh_65 ?_
      refine zq_6_0 ?_
      refine zq_4_3 ?_
      refine zq_1 ?_
      refine zq_11 ?_
      refine zh_65 ?_
      refine zE_g fun hg => ?_
      refine zq_92_4i hg rfl rfl (zgx_ok fun hw => gM_tape_ok (E := E) hw _ _ _ _ _) fun v440 s441 => ?_
      refine zq_46 ?_ ?_
      · exact zE_w [true, true, true, true] (hq17 _ _ _ _ _)
      refine zq_1 ?_
      exact zq_96c (by decide)
    refine zq_sw ?_ ?_
    · refine zq_6_1 ?_
      refine zq_6_0 ?_
      refine zq_4_3 ?_
      refine zq_1 ?_
      refine zq_11 ?_
      refine zh_65 ?_
      refine zq_6_0 ?_
      refine zq_4_3 ?_
      refine zq_1 ?_
      refine zq_11 ?_
      refine zh_65 ?_
      refine zq_6_0 ?_
      refine zq_4_3 ?_
      refine zq_1 ?_
      refine zq_11 ?_
      refine zh_65 ?_
      refine zE_g fun hg => ?_
      refine zq_92_4i hg rfl rfl (fH_item_ok (E := E) _ _ _ _ _ _) fun v445 s446 => ?_
      refine zq_6_2 ?_
      refine zq_6_0 ?_
      refine zq_4_3 ?_
      refine zq_1 ?_
      refine zq_11 ?_
      refine zh_65 ?_
      refine zq_6_0 ?_
      refine zq_4_3 ?_
      refine zq_1 ?_
      refine zq_11 ?_
      refine zh_65 ?_
      refine zq_6_0 ?_
      refine zq_4_3 ?_
      refine zq_1 ?_
      refine zq_11 ?_
      refine zh_65 ?_
      refine zE_g fun hg => ?_
      refine zq_92_4i hg rfl rfl (zgx_ok fun hw => gM_item_ok (E := E) hw _ _ _ _ _) fun v450 s451 => ?_
      refine zq_46 ?_ ?_
      · exact zE_w [true, true, true, true] (hq17 _ _ _ _ _)
      refine zq_1 ?_
      exact zq_96c (by decide)
    refine zq_sw ?_ ?_
    · refine zq_6_1 ?_
      refine zq_6_0 ?_
      refine zq_4_3 ?_
      refine zq_1 ?_
      refine zq_11 ?_
      refine zh_65 ?_
      refine zq_6_0 ?_
      refine zq_4_3 ?_
      refine zq_1 ?_
      refine zq_11 ?_
      refine zh_65 ?_
      refine zE_g fun hg => ?_
      refine zq_92_3l hg rfl rfl (fH_read_ok (E := E) _ _ _ _ _) fun v454 s455 => ?_
      refine zq_6_2 ?_
      refine zq_6_0 ?_
      refine zq_4_3 ?_
      refine zq_1 ?_
      refine zq_11 ?_
      refine zh_65 ?_
      refine zq_6_0 ?_
      refine zq_4_3 ?_
      refine zq_1 ?_
      refine zq_11 ?_
      refine zh_65 ?_
      refine zE_g fun hg => ?_
      refine zq_92_3l hg rfl rfl (zgx_ok fun hw => gM_read_ok (E := E) hw _ _ _ _) fun v458 s459 => ?_
      refine zq_31 ?_
      refine zq_40 ?_ ?_
      · exact zE_w [true, true, true, true] (hq17 _ _ _ _ _)
      refine zq_1 ?_
      exact zq_96c (by decide)
    refine zq_sw ?_ ?_
    · refine zq_6_1 ?_
      refine zq_6_0 ?_
      refine zq_4_3 ?_
      refine zq_1 ?_
      refine zq_11 ?_
      refine zh_65 ?_
      refine zq_6_0 ?_
      refine zq_4_3 ?_
      refine zq_1 ?_
      refine zq_11 ?_
      refine zh_65 ?_
      refine zq_6_0 ?_
      refine zq_4_3 ?_
      refine zq_1 ?_
      refine zq_11 ?_
      refine zh_65 ?_
      refine zq_6_0 ?_
      refine zq_4_3 ?_
      refine zq_1 ?_
      refine zq_11 ?_
      refine zh_65 ?_
      refine zq_6_0 ?_
      refine zq_4_3 ?_
      refine zq_1 ?_
      refine zq_11 ?_
      refine zh_65 ?_
      refine zE_g fun hg => ?_
      refine zq_92_6i hg rfl rfl (fH_shift_ok (E := E) _ _ _ _ _ _ _ _) fun v465 s466 => ?_
      refine zq_6_2 ?_
      refine zq_6_0 ?_
      refine zq_4_3 ?_
      refine zq_1 ?_
      refine zq_11 ?_
      refine zh_65 ?_
      refine zq_6_0 ?_
      refine zq_4_3 ?_
      refine zq_1 ?_
      refine zq_11 ?_
      refine zh_65 ?_
      refine zq_6_0 ?_
      refine zq_4_3 ?_
      refine zq_1 ?_
      refine zq_11 ?_
      refine zh_65 ?_
      refine zq_6_0 ?_
      refine zq_4_3 ?_
      refine zq_1 ?_
      refine zq_11 ?_
      refine zh_65 ?_
      refine zq_6_0 ?_
      refine zq_4_3 ?_
      refine zq_1 ?_
      refine zq_11 ?_
      refine zh_65 ?_
      refine zE_g fun hg => ?_
      refine zq_92_6i hg rfl rfl (zgx_ok fun hw => gM_shift_ok (E := E) hw _ _ _ _ _ _ _) fun v472 s473 => ?_
      refine zq_46 ?_ ?_
      · exact zE_w [true, true, true, true] (hq17 _ _ _ _ _)
      refine zq_1 ?_
      exact zq_96c (by decide)
    exact zE_w [true, true, true, true] (hq17 _ _ _ _ _)
noncomputable def fW_law (E : Nat → Nat) (a0 : Nat) (s : zHp) : Option (Int × zHp) :=
  ynw 10 20 s fun p1 s2 =>
  yn0 p1 <| ybd (fH_init p1 s2) fun _ s3 =>
  ynw 11 82 s3 fun p4 s5 =>
  yn0 p4 <| ybd (fM_init p4 s5) fun _ s6 =>
  fW_law_l1 E zFU a0 p1 p4 0 s6
set_option maxRecDepth 20000 in
set_option maxHeartbeats 4000000 in
theorem fW_law_ok {E : Nat → Nat} (d : Nat) (a0 : Nat) (s : zHp) : zE zI Ji E (d + 47) 301 (zB 301 0) (zent 4 [.inr (.inr a0)]) [] s (fW_law E a0 s) := by
  show zE _ _ _ _ _ _ [some (.inr (.inr a0)), none, none, none] _ _ _
  unfold fW_law
  refine zh_73 ?_
  refine zq_33 ?_
  refine zq_91_1v rfl rfl (fH_init_ok (E := E) _ _ _) fun _ s3 => ?_
  refine zq_9_1 rfl ?_
  refine zh_73 ?_
  refine zq_33 ?_
  refine zq_91_1v rfl rfl (fM_init_ok (E := E) _ _ _) fun _ s6 => ?_
  refine zq_9_2 rfl ?_
  refine zq_1 ?_
  refine zq_7_3 rfl ?_
  refine zq_57 ?_
  exact zE_w [true, true, true, true] (fW_law_l1_ok (E := E) d zFU _ _ _ _ _)
