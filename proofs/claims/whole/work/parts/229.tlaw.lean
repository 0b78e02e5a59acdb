/-! The law's loop over the four pictures. Written by wip/whole/decompT.py. -/
def TL_law_L18 (ct : Nat → ClassId) (xs : Nat → Int32) (L : Nat) : Nat → Int32 → SS → Option (SS)
  | 0, _, _ => none
  | n + 1, l3, S => (if ((Int32.ofNat L) - 7) < l3 then some S else
  (sI xs L l3).bind fun v1 =>
  (if (v1 &&& 63) = 0 then (sI xs L (l3 + 1)).bind fun v2 =>
  (sI xs L (l3 + 2)).bind fun v3 =>
  (sI xs L (l3 + 3)).bind fun v4 =>
  (sI xs L (l3 + 4)).bind fun v5 =>
  (TX6_cell v2 v3 v4 v5 S).bind fun q6 =>
  (sI xs L (l3 + 1)).bind fun v7 =>
  (sI xs L (l3 + 2)).bind fun v8 =>
  (sI xs L (l3 + 3)).bind fun v9 =>
  (sI xs L (l3 + 4)).bind fun v10 =>
  (TX7_cell v7 v8 v9 v10 q6.2).bind fun q11 =>
  (if q6.1 = q11.1 then TL_law_L18 ct xs L n (l3 + 7) q11.2 else
  none) else
  (if (v1 &&& 63) = 1 then (TX6_drop S).bind fun q13 =>
  (TX7_drop q13.2).bind fun q14 =>
  (if q13.1 = q14.1 then TL_law_L18 ct xs L n (l3 + 7) q14.2 else
  none) else
  (if (v1 &&& 63) = 2 then (sI xs L (l3 + 1)).bind fun v16 =>
  (sI xs L (l3 + 2)).bind fun v17 =>
  (sI xs L (l3 + 3)).bind fun v18 =>
  (TX6_set v16 v17 v18 S).bind fun q19 =>
  (sI xs L (l3 + 1)).bind fun v20 =>
  (sI xs L (l3 + 2)).bind fun v21 =>
  (sI xs L (l3 + 3)).bind fun v22 =>
  (TX7_set v20 v21 v22 q19.2).bind fun q23 =>
  (if q19.1 = q23.1 then TL_law_L18 ct xs L n (l3 + 7) q23.2 else
  none) else
  (if (v1 &&& 63) = 3 then (sI xs L (l3 + 1)).bind fun v25 =>
  (sI xs L (l3 + 2)).bind fun v26 =>
  (TX6_heat v25 v26 S).bind fun q27 =>
  (sI xs L (l3 + 1)).bind fun v28 =>
  (sI xs L (l3 + 2)).bind fun v29 =>
  (TX7_heat v28 v29 q27.2).bind fun q30 =>
  (if q27.1 = q30.1 then TL_law_L18 ct xs L n (l3 + 7) q30.2 else
  none) else
  (if (v1 &&& 63) = 4 then (sI xs L (l3 + 1)).bind fun v32 =>
  (sI xs L (l3 + 2)).bind fun v33 =>
  (TX6_of v32 v33 S).bind fun v34 =>
  (sI xs L (l3 + 1)).bind fun v35 =>
  (sI xs L (l3 + 2)).bind fun v36 =>
  (TX7_of v35 v36 S).bind fun v37 =>
  (if v34 = v37 then TL_law_L18 ct xs L n (l3 + 7) S else
  none) else
  (if (v1 &&& 63) = 5 then (sI xs L (l3 + 1)).bind fun v39 =>
  (sI xs L (l3 + 2)).bind fun v40 =>
  (TX6_taken v39 v40 S).bind fun v41 =>
  (sI xs L (l3 + 1)).bind fun v42 =>
  (sI xs L (l3 + 2)).bind fun v43 =>
  (TX7_taken v42 v43 S).bind fun v44 =>
  (if v41 = v44 then TL_law_L18 ct xs L n (l3 + 7) S else
  none) else
  (if (v1 &&& 63) = 6 then (sI xs L (l3 + 1)).bind fun v46 =>
  (TX6_kin v46 S).bind fun v47 =>
  (sI xs L (l3 + 1)).bind fun v48 =>
  (TX7_kin v48 S).bind fun v49 =>
  (if v47 = v49 then TL_law_L18 ct xs L n (l3 + 7) S else
  none) else
  (if (v1 &&& 63) = 7 then (sI xs L (l3 + 1)).bind fun v51 =>
  (sI xs L (l3 + 2)).bind fun v52 =>
  (TX6_end v51 v52 S).bind fun q53 =>
  (sI xs L (l3 + 1)).bind fun v54 =>
  (sI xs L (l3 + 2)).bind fun v55 =>
  (TX7_end v54 v55 q53.2).bind fun q56 =>
  (if q53.1 = q56.1 then TL_law_L18 ct xs L n (l3 + 7) q56.2 else
  none) else
  (if (v1 &&& 63) = 8 then (sI xs L (l3 + 1)).bind fun v58 =>
  (sI xs L (l3 + 2)).bind fun v59 =>
  (TX6_rule v58 v59 S).bind fun q60 =>
  (sI xs L (l3 + 1)).bind fun v61 =>
  (sI xs L (l3 + 2)).bind fun v62 =>
  (TX7_rule v61 v62 q60.2).bind fun q63 =>
  (if q60.1 = q63.1 then TL_law_L18 ct xs L n (l3 + 7) q63.2 else
  none) else
  (if (v1 &&& 63) = 9 then (sI xs L (l3 + 1)).bind fun v65 =>
  (sI xs L (l3 + 2)).bind fun v66 =>
  (TX6_t v65 v66 S).bind fun v67 =>
  (sI xs L (l3 + 1)).bind fun v68 =>
  (sI xs L (l3 + 2)).bind fun v69 =>
  (TX7_t v68 v69 S).bind fun v70 =>
  (if v67 = v70 then TL_law_L18 ct xs L n (l3 + 7) S else
  none) else
  (if (v1 &&& 63) = 10 then (TX6_line S).bind fun v72 =>
  (TX7_line S).bind fun v73 =>
  (if v72 = v73 then TL_law_L18 ct xs L n (l3 + 7) S else
  none) else
  (if (v1 &&& 63) = 11 then (sI xs L (l3 + 1)).bind fun v75 =>
  (TX6_joint v75 S).bind fun v76 =>
  (sI xs L (l3 + 1)).bind fun v77 =>
  (TX7_joint v77 S).bind fun v78 =>
  (if v76 = v78 then TL_law_L18 ct xs L n (l3 + 7) S else
  none) else
  (if (v1 &&& 63) = 12 then (sI xs L (l3 + 1)).bind fun v80 =>
  (sI xs L (l3 + 2)).bind fun v81 =>
  (TX6_flow v80 v81 S).bind fun v82 =>
  (sI xs L (l3 + 1)).bind fun v83 =>
  (sI xs L (l3 + 2)).bind fun v84 =>
  (TX7_flow v83 v84 S).bind fun q85 =>
  (if v82 = q85.1 then TL_law_L18 ct xs L n (l3 + 7) q85.2 else
  none) else
  (if (v1 &&& 63) = 13 then (sI xs L (l3 + 1)).bind fun v87 =>
  (TX6_stable v87 S).bind fun v88 =>
  (sI xs L (l3 + 1)).bind fun v89 =>
  (TX7_stable v89 S).bind fun v90 =>
  (if v88 = v90 then TL_law_L18 ct xs L n (l3 + 7) S else
  none) else
  (if (v1 &&& 63) = 14 then (TX6_need S).bind fun v92 =>
  (TX7_need S).bind fun v93 =>
  (if v92 = v93 then TL_law_L18 ct xs L n (l3 + 7) S else
  none) else
  (if (v1 &&& 63) = 15 then (sI xs L (l3 + 1)).bind fun v95 =>
  (TX6_sum v95 S).bind fun v96 =>
  (sI xs L (l3 + 1)).bind fun v97 =>
  (TX7_sum v97 S).bind fun v98 =>
  (if v96 = v98 then TL_law_L18 ct xs L n (l3 + 7) S else
  none) else
  (if (v1 &&& 63) = 16 then (sI xs L (l3 + 1)).bind fun v100 =>
  (TX6_most v100 S).bind fun v101 =>
  (sI xs L (l3 + 1)).bind fun v102 =>
  (TX7_most v102 S).bind fun v103 =>
  (if v101 = v103 then TL_law_L18 ct xs L n (l3 + 7) S else
  none) else
  (if (v1 &&& 63) = 17 then (sI xs L (l3 + 1)).bind fun v105 =>
  (TX6_step v105 S).bind fun q106 =>
  (sI xs L (l3 + 1)).bind fun v107 =>
  (TX7_step v107 q106.2).bind fun q108 =>
  (if q106.1 = q108.1 then TL_law_L18 ct xs L n (l3 + 7) q108.2 else
  none) else
  (if (v1 &&& 63) = 18 then (sI xs L (l3 + 1)).bind fun v110 =>
  (sI xs L (l3 + 2)).bind fun v111 =>
  (sI xs L (l3 + 3)).bind fun v112 =>
  (TX6_then v110 v111 v112 S).bind fun q113 =>
  (sI xs L (l3 + 1)).bind fun v114 =>
  (sI xs L (l3 + 2)).bind fun v115 =>
  (sI xs L (l3 + 3)).bind fun v116 =>
  (TX7_then v114 v115 v116 q113.2).bind fun q117 =>
  (if q113.1 = q117.1 then TL_law_L18 ct xs L n (l3 + 7) q117.2 else
  none) else
  (if (v1 &&& 63) = 19 then (sI xs L (l3 + 1)).bind fun v119 =>
  (TX6_spent v119 S).bind fun q120 =>
  (sI xs L (l3 + 1)).bind fun v121 =>
  (TX7_spent v121 q120.2).bind fun q122 =>
  (if q120.1 = q122.1 then TL_law_L18 ct xs L n (l3 + 7) q122.2 else
  none) else
  (if (v1 &&& 63) = 20 then (sI xs L (l3 + 1)).bind fun v124 =>
  (TX6_rises v124 S).bind fun q125 =>
  (sI xs L (l3 + 1)).bind fun v126 =>
  (TX7_rises v126 q125.2).bind fun q127 =>
  (if q125.1 = q127.1 then TL_law_L18 ct xs L n (l3 + 7) q127.2 else
  none) else
  (if (v1 &&& 63) = 21 then (sI xs L (l3 + 1)).bind fun v129 =>
  (TX6_calm v129 S).bind fun q130 =>
  (sI xs L (l3 + 1)).bind fun v131 =>
  (TX7_calm v131 q130.2).bind fun q132 =>
  (if q130.1 = q132.1 then TL_law_L18 ct xs L n (l3 + 7) q132.2 else
  none) else
  (if (v1 &&& 63) = 22 then (sI xs L (l3 + 1)).bind fun v134 =>
  (sI xs L (l3 + 2)).bind fun v135 =>
  (sI xs L (l3 + 3)).bind fun v136 =>
  (TX6_pulse v134 v135 v136 S).bind fun q137 =>
  (sI xs L (l3 + 1)).bind fun v138 =>
  (sI xs L (l3 + 2)).bind fun v139 =>
  (sI xs L (l3 + 3)).bind fun v140 =>
  (TX7_pulse v138 v139 v140 q137.2).bind fun q141 =>
  (if q137.1 = q141.1 then TL_law_L18 ct xs L n (l3 + 7) q141.2 else
  none) else
  (if (v1 &&& 63) = 23 then (sI xs L (l3 + 1)).bind fun v143 =>
  (sI xs L (l3 + 2)).bind fun v144 =>
  (TX6_pulseOf v143 v144 S).bind fun v145 =>
  (sI xs L (l3 + 1)).bind fun v146 =>
  (sI xs L (l3 + 2)).bind fun v147 =>
  (TX7_pulseOf v146 v147 S).bind fun v148 =>
  (if v145 = v148 then TL_law_L18 ct xs L n (l3 + 7) S else
  none) else
  (if (v1 &&& 63) = 24 then (sI xs L (l3 + 1)).bind fun v150 =>
  (TX6_hush v150 S).bind fun q151 =>
  (sI xs L (l3 + 1)).bind fun v152 =>
  (TX7_hush v152 q151.2).bind fun q153 =>
  (if q151.1 = q153.1 then TL_law_L18 ct xs L n (l3 + 7) q153.2 else
  none) else
  (if (v1 &&& 63) = 25 then (sI xs L (l3 + 1)).bind fun v155 =>
  (sI xs L (l3 + 2)).bind fun v156 =>
  (TX6_steady v155 v156 S).bind fun q157 =>
  (sI xs L (l3 + 1)).bind fun v158 =>
  (sI xs L (l3 + 2)).bind fun v159 =>
  (TX7_steady v158 v159 q157.2).bind fun q160 =>
  (if q157.1 = q160.1 then TL_law_L18 ct xs L n (l3 + 7) q160.2 else
  none) else
  (if (v1 &&& 63) = 26 then (sI xs L (l3 + 1)).bind fun v162 =>
  (sI xs L (l3 + 2)).bind fun v163 =>
  (TX6_steadyFlow v162 v163 S).bind fun q164 =>
  (sI xs L (l3 + 1)).bind fun v165 =>
  (sI xs L (l3 + 2)).bind fun v166 =>
  (TX7_steadyFlow v165 v166 q164.2).bind fun q167 =>
  (if q164.1 = q167.1 then TL_law_L18 ct xs L n (l3 + 7) q167.2 else
  none) else
  (if (v1 &&& 63) = 27 then (TX6_hottest S).bind fun q169 =>
  (TX7_hottest q169.2).bind fun q170 =>
  (if q169.1 = q170.1 then TL_law_L18 ct xs L n (l3 + 7) q170.2 else
  none) else
  (if (v1 &&& 63) = 28 then (TX6_lay S).bind fun q172 =>
  (TX7_lay q172.2).bind fun q173 =>
  (if q172.1 = q173.1 then TL_law_L18 ct xs L n (l3 + 7) q173.2 else
  none) else
  (if (v1 &&& 63) = 29 then (TX6_isSteady S).bind fun v175 =>
  (TX7_isSteady S).bind fun q176 =>
  (if v175 = q176.1 then TL_law_L18 ct xs L n (l3 + 7) q176.2 else
  none) else
  (if (v1 &&& 63) = 30 then (sI xs L (l3 + 1)).bind fun v178 =>
  (sI xs L (l3 + 2)).bind fun v179 =>
  (TX6_buried v178 v179 S).bind fun q180 =>
  (sI xs L (l3 + 1)).bind fun v181 =>
  (sI xs L (l3 + 2)).bind fun v182 =>
  (TX7_buried v181 v182 q180.2).bind fun q183 =>
  (if q180.1 = q183.1 then TL_law_L18 ct xs L n (l3 + 7) q183.2 else
  none) else
  (if (v1 &&& 63) = 31 then (sI xs L (l3 + 1)).bind fun v185 =>
  (sI xs L (l3 + 2)).bind fun v186 =>
  (sI xs L (l3 + 3)).bind fun v187 =>
  (TX6_tells v185 v186 v187 S).bind fun q188 =>
  (sI xs L (l3 + 1)).bind fun v189 =>
  (sI xs L (l3 + 2)).bind fun v190 =>
  (sI xs L (l3 + 3)).bind fun v191 =>
  (TX7_tells v189 v190 v191 q188.2).bind fun q192 =>
  (if q188.1 = q192.1 then TL_law_L18 ct xs L n (l3 + 7) q192.2 else
  none) else
  (if (v1 &&& 63) = 32 then (sI xs L (l3 + 1)).bind fun v194 =>
  (sI xs L (l3 + 2)).bind fun v195 =>
  (sI xs L (l3 + 3)).bind fun v196 =>
  (TX6_film v194 v195 v196 S).bind fun q197 =>
  (sI xs L (l3 + 1)).bind fun v198 =>
  (sI xs L (l3 + 2)).bind fun v199 =>
  (sI xs L (l3 + 3)).bind fun v200 =>
  (TX7_film v198 v199 v200 q197.2).bind fun q201 =>
  (if q197.1 = q201.1 then TL_law_L18 ct xs L n (l3 + 7) q201.2 else
  none) else
  (if (v1 &&& 63) = 33 then (sI xs L (l3 + 1)).bind fun v203 =>
  (sI xs L (l3 + 2)).bind fun v204 =>
  (TX6_drawn v203 v204 S).bind fun q205 =>
  (sI xs L (l3 + 1)).bind fun v206 =>
  (sI xs L (l3 + 2)).bind fun v207 =>
  (TX7_drawn v206 v207 q205.2).bind fun q208 =>
  (if q205.1 = q208.1 then TL_law_L18 ct xs L n (l3 + 7) q208.2 else
  none) else
  (if (v1 &&& 63) = 34 then (sI xs L (l3 + 1)).bind fun v210 =>
  (sI xs L (l3 + 2)).bind fun v211 =>
  (sI xs L (l3 + 3)).bind fun v212 =>
  (sI xs L (l3 + 4)).bind fun v213 =>
  (sI xs L (l3 + 5)).bind fun v214 =>
  (sI xs L (l3 + 6)).bind fun v215 =>
  (TX6_feed v210 v211 v212 v213 v214 v215 S).bind fun q216 =>
  (sI xs L (l3 + 1)).bind fun v217 =>
  (sI xs L (l3 + 2)).bind fun v218 =>
  (sI xs L (l3 + 3)).bind fun v219 =>
  (sI xs L (l3 + 4)).bind fun v220 =>
  (sI xs L (l3 + 5)).bind fun v221 =>
  (sI xs L (l3 + 6)).bind fun v222 =>
  (TX7_feed v217 v218 v219 v220 v221 v222 q216.2).bind fun q223 =>
  (if q216.1 = q223.1 then TL_law_L18 ct xs L n (l3 + 7) q223.2 else
  none) else
  (if (v1 &&& 63) = 35 then (TX6_text ct S).bind fun q225 =>
  (TX7_text q225.2).bind fun q226 =>
  (if q225.1 = q226.1 then TL_law_L18 ct xs L n (l3 + 7) q226.2 else
  none) else
  (if (v1 &&& 63) = 36 then (TX6_image S).bind fun q228 =>
  (TX7_image q228.2).bind fun q229 =>
  (if q228.1 = q229.1 then TL_law_L18 ct xs L n (l3 + 7) q229.2 else
  none) else
  (if (v1 &&& 63) = 37 then (TX6_back S).bind fun q231 =>
  (TX7_back q231.2).bind fun q232 =>
  (if q231.1 = q232.1 then TL_law_L18 ct xs L n (l3 + 7) q232.2 else
  none) else
  (if (v1 &&& 63) = 38 then (sI xs L (l3 + 1)).bind fun v234 =>
  (sI xs L (l3 + 2)).bind fun v235 =>
  (sI xs L (l3 + 3)).bind fun v236 =>
  (sI xs L (l3 + 4)).bind fun v237 =>
  (TX6_load v234 v235 v236 v237 S).bind fun q238 =>
  (sI xs L (l3 + 1)).bind fun v239 =>
  (sI xs L (l3 + 2)).bind fun v240 =>
  (sI xs L (l3 + 3)).bind fun v241 =>
  (sI xs L (l3 + 4)).bind fun v242 =>
  (TX7_load v239 v240 v241 v242 q238.2).bind fun q243 =>
  (if q238.1 = q243.1 then TL_law_L18 ct xs L n (l3 + 7) q243.2 else
  none) else
  (if (v1 &&& 63) = 39 then (sI xs L (l3 + 1)).bind fun v245 =>
  (TX6_count v245 S).bind fun v246 =>
  (sI xs L (l3 + 1)).bind fun v247 =>
  (TX7_count v247 S).bind fun v248 =>
  (if v246 = v248 then TL_law_L18 ct xs L n (l3 + 7) S else
  none) else
  (if (v1 &&& 63) = 40 then (sI xs L (l3 + 1)).bind fun v250 =>
  (sI xs L (l3 + 2)).bind fun v251 =>
  (sI xs L (l3 + 3)).bind fun v252 =>
  (TX6_sheet v250 v251 v252 S).bind fun q253 =>
  (sI xs L (l3 + 1)).bind fun v254 =>
  (sI xs L (l3 + 2)).bind fun v255 =>
  (sI xs L (l3 + 3)).bind fun v256 =>
  (TX7_sheet v254 v255 v256 q253.2).bind fun q257 =>
  (if q253.1 = q257.1 then TL_law_L18 ct xs L n (l3 + 7) q257.2 else
  none) else
  (if (v1 &&& 63) = 41 then (sI xs L (l3 + 1)).bind fun v259 =>
  (sI xs L (l3 + 2)).bind fun v260 =>
  (sI xs L (l3 + 3)).bind fun v261 =>
  (TX6_put v259 v260 v261 S).bind fun q262 =>
  (sI xs L (l3 + 1)).bind fun v263 =>
  (sI xs L (l3 + 2)).bind fun v264 =>
  (sI xs L (l3 + 3)).bind fun v265 =>
  (TX7_put v263 v264 v265 q262.2).bind fun q266 =>
  (if q262.1 = q266.1 then TL_law_L18 ct xs L n (l3 + 7) q266.2 else
  none) else
  (if (v1 &&& 63) = 42 then (sI xs L (l3 + 1)).bind fun v268 =>
  (sI xs L (l3 + 2)).bind fun v269 =>
  (sI xs L (l3 + 3)).bind fun v270 =>
  (sI xs L (l3 + 4)).bind fun v271 =>
  (sI xs L (l3 + 5)).bind fun v272 =>
  (TX6_copy v268 v269 v270 v271 v272 S).bind fun q273 =>
  (sI xs L (l3 + 1)).bind fun v274 =>
  (sI xs L (l3 + 2)).bind fun v275 =>
  (sI xs L (l3 + 3)).bind fun v276 =>
  (sI xs L (l3 + 4)).bind fun v277 =>
  (sI xs L (l3 + 5)).bind fun v278 =>
  (TX7_copy v274 v275 v276 v277 v278 q273.2).bind fun q279 =>
  (if q273.1 = q279.1 then TL_law_L18 ct xs L n (l3 + 7) q279.2 else
  none) else
  TL_law_L18 ct xs L n (l3 + 7) S))))))))))))))))))))))))))))))))))))))))))))
theorem eqL_law_L18 (t : Nat) (ct : Nat → ClassId) (xs : Nat → Int32) (L : Nat) : ∀ (n : Nat), ∀ (l3 : Int32) (S : SS), EQ (L_law_L18 xs L n (t + 0) (t + 64) l3 (HH t ct S)) (TL_law_L18 ct xs L n l3 S) (HH t ct) := by
  intro n
  induction n with
  | zero => intro l3 S; exact e_none
  | succ n ih =>
    intro l3 S
    unfold L_law_L18 TL_law_L18
    refine e_ite ?_ ?_
    · exact e_ret rfl
    · refine e_bind rfl ?_
      intro v1
      refine e_ite ?_ ?_
      · refine e_bind rfl ?_
        intro v2
        refine e_bind rfl ?_
        intro v3
        refine e_bind rfl ?_
        intro v4
        refine e_bind rfl ?_
        intro v5
        refine e_call (eqX6_cell t ct v2 v3 v4 v5 S) ?_
        intro q6
        refine e_bind rfl ?_
        intro v7
        refine e_bind rfl ?_
        intro v8
        refine e_bind rfl ?_
        intro v9
        refine e_bind rfl ?_
        intro v10
        refine e_call (eqX7_cell t ct v7 v8 v9 v10 q6.2) ?_
        intro q11
        refine e_ite ?_ ?_
        · exact ih (l3 + 7) q11.2
        · exact e_none
      refine e_ite ?_ ?_
      · refine e_call (eqX6_drop t ct S) ?_
        intro q13
        refine e_call (eqX7_drop t ct q13.2) ?_
        intro q14
        refine e_ite ?_ ?_
        · exact ih (l3 + 7) q14.2
        · exact e_none
      refine e_ite ?_ ?_
      · refine e_bind rfl ?_
        intro v16
        refine e_bind rfl ?_
        intro v17
        refine e_bind rfl ?_
        intro v18
        refine e_call (eqX6_set t ct v16 v17 v18 S) ?_
        intro q19
        refine e_bind rfl ?_
        intro v20
        refine e_bind rfl ?_
        intro v21
        refine e_bind rfl ?_
        intro v22
        refine e_call (eqX7_set t ct v20 v21 v22 q19.2) ?_
        intro q23
        refine e_ite ?_ ?_
        · exact ih (l3 + 7) q23.2
        · exact e_none
      refine e_ite ?_ ?_
      · refine e_bind rfl ?_
        intro v25
        refine e_bind rfl ?_
        intro v26
        refine e_call (eqX6_heat t ct v25 v26 S) ?_
        intro q27
        refine e_bind rfl ?_
        intro v28
        refine e_bind rfl ?_
        intro v29
        refine e_call (eqX7_heat t ct v28 v29 q27.2) ?_
        intro q30
        refine e_ite ?_ ?_
        · exact ih (l3 + 7) q30.2
        · exact e_none
      refine e_ite ?_ ?_
      · refine e_bind rfl ?_
        intro v32
        refine e_bind rfl ?_
        intro v33
        refine e_call (eqX6_of t ct v32 v33 S) ?_
        intro v34
        refine e_bind rfl ?_
        intro v35
        refine e_bind rfl ?_
        intro v36
        refine e_call (eqX7_of t ct v35 v36 S) ?_
        intro v37
        refine e_ite ?_ ?_
        · exact ih (l3 + 7) S
        · exact e_none
      refine e_ite ?_ ?_
      · refine e_bind rfl ?_
        intro v39
        refine e_bind rfl ?_
        intro v40
        refine e_call (eqX6_taken t ct v39 v40 S) ?_
        intro v41
        refine e_bind rfl ?_
        intro v42
        refine e_bind rfl ?_
        intro v43
        refine e_call (eqX7_taken t ct v42 v43 S) ?_
        intro v44
        refine e_ite ?_ ?_
        · exact ih (l3 + 7) S
        · exact e_none
      refine e_ite ?_ ?_
      · refine e_bind rfl ?_
        intro v46
        refine e_call (eqX6_kin t ct v46 S) ?_
        intro v47
        refine e_bind rfl ?_
        intro v48
        refine e_call (eqX7_kin t ct v48 S) ?_
        intro v49
        refine e_ite ?_ ?_
        · exact ih (l3 + 7) S
        · exact e_none
      refine e_ite ?_ ?_
      · refine e_bind rfl ?_
        intro v51
        refine e_bind rfl ?_
        intro v52
        refine e_call (eqX6_end t ct v51 v52 S) ?_
        intro q53
        refine e_bind rfl ?_
        intro v54
        refine e_bind rfl ?_
        intro v55
        refine e_call (eqX7_end t ct v54 v55 q53.2) ?_
        intro q56
        refine e_ite ?_ ?_
        · exact ih (l3 + 7) q56.2
        · exact e_none
      refine e_ite ?_ ?_
      · refine e_bind rfl ?_
        intro v58
        refine e_bind rfl ?_
        intro v59
        refine e_call (eqX6_rule t ct v58 v59 S) ?_
        intro q60
        refine e_bind rfl ?_
        intro v61
        refine e_bind rfl ?_
        intro v62
        refine e_call (eqX7_rule t ct v61 v62 q60.2) ?_
        intro q63
        refine e_ite ?_ ?_
        · exact ih (l3 + 7) q63.2
        · exact e_none
      refine e_ite ?_ ?_
      · refine e_bind rfl ?_
        intro v65
        refine e_bind rfl ?_
        intro v66
        refine e_call (eqX6_t t ct v65 v66 S) ?_
        intro v67
        refine e_bind rfl ?_
        intro v68
        refine e_bind rfl ?_
        intro v69
        refine e_call (eqX7_t t ct v68 v69 S) ?_
        intro v70
        refine e_ite ?_ ?_
        · exact ih (l3 + 7) S
        · exact e_none
      refine e_ite ?_ ?_
      · refine e_call (eqX6_line t ct S) ?_
        intro v72
        refine e_call (eqX7_line t ct S) ?_
        intro v73
        refine e_ite ?_ ?_
        · exact ih (l3 + 7) S
        · exact e_none
      refine e_ite ?_ ?_
      · refine e_bind rfl ?_
        intro v75
        refine e_call (eqX6_joint t ct v75 S) ?_
        intro v76
        refine e_bind rfl ?_
        intro v77
        refine e_call (eqX7_joint t ct v77 S) ?_
        intro v78
        refine e_ite ?_ ?_
        · exact ih (l3 + 7) S
        · exact e_none
      refine e_ite ?_ ?_
      · refine e_bind rfl ?_
        intro v80
        refine e_bind rfl ?_
        intro v81
        refine e_call (eqX6_flow t ct v80 v81 S) ?_
        intro v82
        refine e_bind rfl ?_
        intro v83
        refine e_bind rfl ?_
        intro v84
        refine e_call (eqX7_flow t ct v83 v84 S) ?_
        intro q85
        refine e_ite ?_ ?_
        · exact ih (l3 + 7) q85.2
        · exact e_none
      refine e_ite ?_ ?_
      · refine e_bind rfl ?_
        intro v87
        refine e_call (eqX6_stable t ct v87 S) ?_
        intro v88
        refine e_bind rfl ?_
        intro v89
        refine e_call (eqX7_stable t ct v89 S) ?_
        intro v90
        refine e_ite ?_ ?_
        · exact ih (l3 + 7) S
        · exact e_none
      refine e_ite ?_ ?_
      · refine e_call (eqX6_need t ct S) ?_
        intro v92
        refine e_call (eqX7_need t ct S) ?_
        intro v93
        refine e_ite ?_ ?_
        · exact ih (l3 + 7) S
        · exact e_none
      refine e_ite ?_ ?_
      · refine e_bind rfl ?_
        intro v95
        refine e_call (eqX6_sum t ct v95 S) ?_
        intro v96
        refine e_bind rfl ?_
        intro v97
        refine e_call (eqX7_sum t ct v97 S) ?_
        intro v98
        refine e_ite ?_ ?_
        · exact ih (l3 + 7) S
        · exact e_none
      refine e_ite ?_ ?_
      · refine e_bind rfl ?_
        intro v100
        refine e_call (eqX6_most t ct v100 S) ?_
        intro v101
        refine e_bind rfl ?_
        intro v102
        refine e_call (eqX7_most t ct v102 S) ?_
        intro v103
        refine e_ite ?_ ?_
        · exact ih (l3 + 7) S
        · exact e_none
      refine e_ite ?_ ?_
      · refine e_bind rfl ?_
        intro v105
        refine e_call (eqX6_step t ct v105 S) ?_
        intro q106
        refine e_bind rfl ?_
        intro v107
        refine e_call (eqX7_step t ct v107 q106.2) ?_
        intro q108
        refine e_ite ?_ ?_
        · exact ih (l3 + 7) q108.2
        · exact e_none
      refine e_ite ?_ ?_
      · refine e_bind rfl ?_
        intro v110
        refine e_bind rfl ?_
        intro v111
        refine e_bind rfl ?_
        intro v112
        refine e_call (eqX6_then t ct v110 v111 v112 S) ?_
        intro q113
        refine e_bind rfl ?_
        intro v114
        refine e_bind rfl ?_
        intro v115
        refine e_bind rfl ?_
        intro v116
        refine e_call (eqX7_then t ct v114 v115 v116 q113.2) ?_
        intro q117
        refine e_ite ?_ ?_
        · exact ih (l3 + 7) q117.2
        · exact e_none
      refine e_ite ?_ ?_
      · refine e_bind rfl ?_
        intro v119
        refine e_call (eqX6_spent t ct v119 S) ?_
        intro q120
        refine e_bind rfl ?_
        intro v121
        refine e_call (eqX7_spent t ct v121 q120.2) ?_
        intro q122
        refine e_ite ?_ ?_
        · exact ih (l3 + 7) q122.2
        · exact e_none
      refine e_ite ?_ ?_
      · refine e_bind rfl ?_
        intro v124
        refine e_call (eqX6_rises t ct v124 S) ?_
        intro q125
        refine e_bind rfl ?_
        intro v126
        refine e_call (eqX7_rises t ct v126 q125.2) ?_
        intro q127
        refine e_ite ?_ ?_
        · exact ih (l3 + 7) q127.2
        · exact e_none
      refine e_ite ?_ ?_
      · refine e_bind rfl ?_
        intro v129
        refine e_call (eqX6_calm t ct v129 S) ?_
        intro q130
        refine e_bind rfl ?_
        intro v131
        refine e_call (eqX7_calm t ct v131 q130.2) ?_
        intro q132
        refine e_ite ?_ ?_
        · exact ih (l3 + 7) q132.2
        · exact e_none
      refine e_ite ?_ ?_
      · refine e_bind rfl ?_
        intro v134
        refine e_bind rfl ?_
        intro v135
        refine e_bind rfl ?_
        intro v136
        refine e_call (eqX6_pulse t ct v134 v135 v136 S) ?_
        intro q137
        refine e_bind rfl ?_
        intro v138
        refine e_bind rfl ?_
        intro v139
        refine e_bind rfl ?_
        intro v140
        refine e_call (eqX7_pulse t ct v138 v139 v140 q137.2) ?_
        intro q141
        refine e_ite ?_ ?_
        · exact ih (l3 + 7) q141.2
        · exact e_none
      refine e_ite ?_ ?_
      · refine e_bind rfl ?_
        intro v143
        refine e_bind rfl ?_
        intro v144
        refine e_call (eqX6_pulseOf t ct v143 v144 S) ?_
        intro v145
        refine e_bind rfl ?_
        intro v146
        refine e_bind rfl ?_
        intro v147
        refine e_call (eqX7_pulseOf t ct v146 v147 S) ?_
        intro v148
        refine e_ite ?_ ?_
        · exact ih (l3 + 7) S
        · exact e_none
      refine e_ite ?_ ?_
      · refine e_bind rfl ?_
        intro v150
        refine e_call (eqX6_hush t ct v150 S) ?_
        intro q151
        refine e_bind rfl ?_
        intro v152
        refine e_call (eqX7_hush t ct v152 q151.2) ?_
        intro q153
        refine e_ite ?_ ?_
        · exact ih (l3 + 7) q153.2
        · exact e_none
      refine e_ite ?_ ?_
      · refine e_bind rfl ?_
        intro v155
        refine e_bind rfl ?_
        intro v156
        refine e_call (eqX6_steady t ct v155 v156 S) ?_
        intro q157
        refine e_bind rfl ?_
        intro v158
        refine e_bind rfl ?_
        intro v159
        refine e_call (eqX7_steady t ct v158 v159 q157.2) ?_
        intro q160
        refine e_ite ?_ ?_
        · exact ih (l3 + 7) q160.2
        · exact e_none
      refine e_ite ?_ ?_
      · refine e_bind rfl ?_
        intro v162
        refine e_bind rfl ?_
        intro v163
        refine e_call (eqX6_steadyFlow t ct v162 v163 S) ?_
        intro q164
        refine e_bind rfl ?_
        intro v165
        refine e_bind rfl ?_
        intro v166
        refine e_call (eqX7_steadyFlow t ct v165 v166 q164.2) ?_
        intro q167
        refine e_ite ?_ ?_
        · exact ih (l3 + 7) q167.2
        · exact e_none
      refine e_ite ?_ ?_
      · refine e_call (eqX6_hottest t ct S) ?_
        intro q169
        refine e_call (eqX7_hottest t ct q169.2) ?_
        intro q170
        refine e_ite ?_ ?_
        · exact ih (l3 + 7) q170.2
        · exact e_none
      refine e_ite ?_ ?_
      · refine e_call (eqX6_lay t ct S) ?_
        intro q172
        refine e_call (eqX7_lay t ct q172.2) ?_
        intro q173
        refine e_ite ?_ ?_
        · exact ih (l3 + 7) q173.2
        · exact e_none
      refine e_ite ?_ ?_
      · refine e_call (eqX6_isSteady t ct S) ?_
        intro v175
        refine e_call (eqX7_isSteady t ct S) ?_
        intro q176
        refine e_ite ?_ ?_
        · exact ih (l3 + 7) q176.2
        · exact e_none
      refine e_ite ?_ ?_
      · refine e_bind rfl ?_
        intro v178
        refine e_bind rfl ?_
        intro v179
        refine e_call (eqX6_buried t ct v178 v179 S) ?_
        intro q180
        refine e_bind rfl ?_
        intro v181
        refine e_bind rfl ?_
        intro v182
        refine e_call (eqX7_buried t ct v181 v182 q180.2) ?_
        intro q183
        refine e_ite ?_ ?_
        · exact ih (l3 + 7) q183.2
        · exact e_none
      refine e_ite ?_ ?_
      · refine e_bind rfl ?_
        intro v185
        refine e_bind rfl ?_
        intro v186
        refine e_bind rfl ?_
        intro v187
        refine e_call (eqX6_tells t ct v185 v186 v187 S) ?_
        intro q188
        refine e_bind rfl ?_
        intro v189
        refine e_bind rfl ?_
        intro v190
        refine e_bind rfl ?_
        intro v191
        refine e_call (eqX7_tells t ct v189 v190 v191 q188.2) ?_
        intro q192
        refine e_ite ?_ ?_
        · exact ih (l3 + 7) q192.2
        · exact e_none
      refine e_ite ?_ ?_
      · refine e_bind rfl ?_
        intro v194
        refine e_bind rfl ?_
        intro v195
        refine e_bind rfl ?_
        intro v196
        refine e_call (eqX6_film t ct v194 v195 v196 S) ?_
        intro q197
        refine e_bind rfl ?_
        intro v198
        refine e_bind rfl ?_
        intro v199
        refine e_bind rfl ?_
        intro v200
        refine e_call (eqX7_film t ct v198 v199 v200 q197.2) ?_
        intro q201
        refine e_ite ?_ ?_
        · exact ih (l3 + 7) q201.2
        · exact e_none
      refine e_ite ?_ ?_
      · refine e_bind rfl ?_
        intro v203
        refine e_bind rfl ?_
        intro v204
        refine e_call (eqX6_drawn t ct v203 v204 S) ?_
        intro q205
        refine e_bind rfl ?_
        intro v206
        refine e_bind rfl ?_
        intro v207
        refine e_call (eqX7_drawn t ct v206 v207 q205.2) ?_
        intro q208
        refine e_ite ?_ ?_
        · exact ih (l3 + 7) q208.2
        · exact e_none
      refine e_ite ?_ ?_
      · refine e_bind rfl ?_
        intro v210
        refine e_bind rfl ?_
        intro v211
        refine e_bind rfl ?_
        intro v212
        refine e_bind rfl ?_
        intro v213
        refine e_bind rfl ?_
        intro v214
        refine e_bind rfl ?_
        intro v215
        refine e_call (eqX6_feed t ct v210 v211 v212 v213 v214 v215 S) ?_
        intro q216
        refine e_bind rfl ?_
        intro v217
        refine e_bind rfl ?_
        intro v218
        refine e_bind rfl ?_
        intro v219
        refine e_bind rfl ?_
        intro v220
        refine e_bind rfl ?_
        intro v221
        refine e_bind rfl ?_
        intro v222
        refine e_call (eqX7_feed t ct v217 v218 v219 v220 v221 v222 q216.2) ?_
        intro q223
        refine e_ite ?_ ?_
        · exact ih (l3 + 7) q223.2
        · exact e_none
      refine e_ite ?_ ?_
      · refine e_call (eqX6_text t ct S) ?_
        intro q225
        refine e_call (eqX7_text t ct q225.2) ?_
        intro q226
        refine e_ite ?_ ?_
        · exact ih (l3 + 7) q226.2
        · exact e_none
      refine e_ite ?_ ?_
      · refine e_call (eqX6_image t ct S) ?_
        intro q228
        refine e_call (eqX7_image t ct q228.2) ?_
        intro q229
        refine e_ite ?_ ?_
        · exact ih (l3 + 7) q229.2
        · exact e_none
      refine e_ite ?_ ?_
      · refine e_call (eqX6_back t ct S) ?_
        intro q231
        refine e_call (eqX7_back t ct q231.2) ?_
        intro q232
        refine e_ite ?_ ?_
        · exact ih (l3 + 7) q232.2
        · exact e_none
      refine e_ite ?_ ?_
      · refine e_bind rfl ?_
        intro v234
        refine e_bind rfl ?_
        intro v235
        refine e_bind rfl ?_
        intro v236
        refine e_bind rfl ?_
        intro v237
        refine e_call (eqX6_load t ct v234 v235 v236 v237 S) ?_
        intro q238
        refine e_bind rfl ?_
        intro v239
        refine e_bind rfl ?_
        intro v240
        refine e_bind rfl ?_
        intro v241
        refine e_bind rfl ?_
        intro v242
        refine e_call (eqX7_load t ct v239 v240 v241 v242 q238.2) ?_
        intro q243
        refine e_ite ?_ ?_
        · exact ih (l3 + 7) q243.2
        · exact e_none
      refine e_ite ?_ ?_
      · refine e_bind rfl ?_
        intro v245
        refine e_call (eqX6_count t ct v245 S) ?_
        intro v246
        refine e_bind rfl ?_
        intro v247
        refine e_call (eqX7_count t ct v247 S) ?_
        intro v248
        refine e_ite ?_ ?_
        · exact ih (l3 + 7) S
        · exact e_none
      refine e_ite ?_ ?_
      · refine e_bind rfl ?_
        intro v250
        refine e_bind rfl ?_
        intro v251
        refine e_bind rfl ?_
        intro v252
        refine e_call (eqX6_sheet t ct v250 v251 v252 S) ?_
        intro q253
        refine e_bind rfl ?_
        intro v254
        refine e_bind rfl ?_
        intro v255
        refine e_bind rfl ?_
        intro v256
        refine e_call (eqX7_sheet t ct v254 v255 v256 q253.2) ?_
        intro q257
        refine e_ite ?_ ?_
        · exact ih (l3 + 7) q257.2
        · exact e_none
      refine e_ite ?_ ?_
      · refine e_bind rfl ?_
        intro v259
        refine e_bind rfl ?_
        intro v260
        refine e_bind rfl ?_
        intro v261
        refine e_call (eqX6_put t ct v259 v260 v261 S) ?_
        intro q262
        refine e_bind rfl ?_
        intro v263
        refine e_bind rfl ?_
        intro v264
        refine e_bind rfl ?_
        intro v265
        refine e_call (eqX7_put t ct v263 v264 v265 q262.2) ?_
        intro q266
        refine e_ite ?_ ?_
        · exact ih (l3 + 7) q266.2
        · exact e_none
      refine e_ite ?_ ?_
      · refine e_bind rfl ?_
        intro v268
        refine e_bind rfl ?_
        intro v269
        refine e_bind rfl ?_
        intro v270
        refine e_bind rfl ?_
        intro v271
        refine e_bind rfl ?_
        intro v272
        refine e_call (eqX6_copy t ct v268 v269 v270 v271 v272 S) ?_
        intro q273
        refine e_bind rfl ?_
        intro v274
        refine e_bind rfl ?_
        intro v275
        refine e_bind rfl ?_
        intro v276
        refine e_bind rfl ?_
        intro v277
        refine e_bind rfl ?_
        intro v278
        refine e_call (eqX7_copy t ct v274 v275 v276 v277 v278 q273.2) ?_
        intro q279
        refine e_ite ?_ ?_
        · exact ih (l3 + 7) q279.2
        · exact e_none
      exact ih (l3 + 7) S
