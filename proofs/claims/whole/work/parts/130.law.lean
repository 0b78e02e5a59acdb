/-! The law. Written by wip/whole/decomp.py. -/
def L_law_L18 (xs : Nat → Int32) (L : Nat) : Nat → Nat → Nat → Int32 → Hs → Option (Hs)
  | 0, _, _, _, _ => none
  | n + 1, l1, l2, l3, x => (if ((Int32.ofNat L) - 7) < l3 then some x else
  (sI xs L l3).bind fun v5 =>
  (if (v5 &&& 63) = 0 then (sI xs L (l3 + 1)).bind fun v6 =>
  (sI xs L (l3 + 2)).bind fun v7 =>
  (sI xs L (l3 + 3)).bind fun v8 =>
  (sI xs L (l3 + 4)).bind fun v9 =>
  (X6_cell l1 v6 v7 v8 v9 x).bind fun q10 =>
  (sI xs L (l3 + 1)).bind fun v11 =>
  (sI xs L (l3 + 2)).bind fun v12 =>
  (sI xs L (l3 + 3)).bind fun v13 =>
  (sI xs L (l3 + 4)).bind fun v14 =>
  (X7_cell l2 v11 v12 v13 v14 q10.2).bind fun q15 =>
  (if q10.1 = q15.1 then L_law_L18 xs L n l1 l2 (l3 + 7) q15.2 else
  none) else
  (if (v5 &&& 63) = 1 then (X6_drop l1 x).bind fun q17 =>
  (X7_drop l2 q17.2).bind fun q18 =>
  (if q17.1 = q18.1 then L_law_L18 xs L n l1 l2 (l3 + 7) q18.2 else
  none) else
  (if (v5 &&& 63) = 2 then (sI xs L (l3 + 1)).bind fun v20 =>
  (sI xs L (l3 + 2)).bind fun v21 =>
  (sI xs L (l3 + 3)).bind fun v22 =>
  (X6_set l1 v20 v21 v22 x).bind fun q23 =>
  (sI xs L (l3 + 1)).bind fun v24 =>
  (sI xs L (l3 + 2)).bind fun v25 =>
  (sI xs L (l3 + 3)).bind fun v26 =>
  (X7_set l2 v24 v25 v26 q23.2).bind fun q27 =>
  (if q23.1 = q27.1 then L_law_L18 xs L n l1 l2 (l3 + 7) q27.2 else
  none) else
  (if (v5 &&& 63) = 3 then (sI xs L (l3 + 1)).bind fun v29 =>
  (sI xs L (l3 + 2)).bind fun v30 =>
  (X6_heat l1 v29 v30 x).bind fun q31 =>
  (sI xs L (l3 + 1)).bind fun v32 =>
  (sI xs L (l3 + 2)).bind fun v33 =>
  (X7_heat l2 v32 v33 q31.2).bind fun q34 =>
  (if q31.1 = q34.1 then L_law_L18 xs L n l1 l2 (l3 + 7) q34.2 else
  none) else
  (if (v5 &&& 63) = 4 then (sI xs L (l3 + 1)).bind fun v36 =>
  (sI xs L (l3 + 2)).bind fun v37 =>
  (X6_of l1 v36 v37 x).bind fun v38 =>
  (sI xs L (l3 + 1)).bind fun v39 =>
  (sI xs L (l3 + 2)).bind fun v40 =>
  (X7_of l2 v39 v40 x).bind fun v41 =>
  (if v38 = v41 then L_law_L18 xs L n l1 l2 (l3 + 7) x else
  none) else
  (if (v5 &&& 63) = 5 then (sI xs L (l3 + 1)).bind fun v43 =>
  (sI xs L (l3 + 2)).bind fun v44 =>
  (X6_taken l1 v43 v44 x).bind fun v45 =>
  (sI xs L (l3 + 1)).bind fun v46 =>
  (sI xs L (l3 + 2)).bind fun v47 =>
  (X7_taken l2 v46 v47 x).bind fun v48 =>
  (if v45 = v48 then L_law_L18 xs L n l1 l2 (l3 + 7) x else
  none) else
  (if (v5 &&& 63) = 6 then (sI xs L (l3 + 1)).bind fun v50 =>
  (X6_kin l1 v50 x).bind fun v51 =>
  (sI xs L (l3 + 1)).bind fun v52 =>
  (X7_kin l2 v52 x).bind fun v53 =>
  (if v51 = v53 then L_law_L18 xs L n l1 l2 (l3 + 7) x else
  none) else
  (if (v5 &&& 63) = 7 then (sI xs L (l3 + 1)).bind fun v55 =>
  (sI xs L (l3 + 2)).bind fun v56 =>
  (X6_end l1 v55 v56 x).bind fun q57 =>
  (sI xs L (l3 + 1)).bind fun v58 =>
  (sI xs L (l3 + 2)).bind fun v59 =>
  (X7_end l2 v58 v59 q57.2).bind fun q60 =>
  (if q57.1 = q60.1 then L_law_L18 xs L n l1 l2 (l3 + 7) q60.2 else
  none) else
  (if (v5 &&& 63) = 8 then (sI xs L (l3 + 1)).bind fun v62 =>
  (sI xs L (l3 + 2)).bind fun v63 =>
  (X6_rule l1 v62 v63 x).bind fun q64 =>
  (sI xs L (l3 + 1)).bind fun v65 =>
  (sI xs L (l3 + 2)).bind fun v66 =>
  (X7_rule l2 v65 v66 q64.2).bind fun q67 =>
  (if q64.1 = q67.1 then L_law_L18 xs L n l1 l2 (l3 + 7) q67.2 else
  none) else
  (if (v5 &&& 63) = 9 then (sI xs L (l3 + 1)).bind fun v69 =>
  (sI xs L (l3 + 2)).bind fun v70 =>
  (X6_t l1 v69 v70 x).bind fun v71 =>
  (sI xs L (l3 + 1)).bind fun v72 =>
  (sI xs L (l3 + 2)).bind fun v73 =>
  (X7_t l2 v72 v73 x).bind fun v74 =>
  (if v71 = v74 then L_law_L18 xs L n l1 l2 (l3 + 7) x else
  none) else
  (if (v5 &&& 63) = 10 then (X6_line l1 x).bind fun v76 =>
  (X7_line l2 x).bind fun v77 =>
  (if v76 = v77 then L_law_L18 xs L n l1 l2 (l3 + 7) x else
  none) else
  (if (v5 &&& 63) = 11 then (sI xs L (l3 + 1)).bind fun v79 =>
  (X6_joint l1 v79 x).bind fun v80 =>
  (sI xs L (l3 + 1)).bind fun v81 =>
  (X7_joint l2 v81 x).bind fun v82 =>
  (if v80 = v82 then L_law_L18 xs L n l1 l2 (l3 + 7) x else
  none) else
  (if (v5 &&& 63) = 12 then (sI xs L (l3 + 1)).bind fun v84 =>
  (sI xs L (l3 + 2)).bind fun v85 =>
  (X6_flow l1 v84 v85 x).bind fun v86 =>
  (sI xs L (l3 + 1)).bind fun v87 =>
  (sI xs L (l3 + 2)).bind fun v88 =>
  (X7_flow l2 v87 v88 x).bind fun q89 =>
  (if v86 = q89.1 then L_law_L18 xs L n l1 l2 (l3 + 7) q89.2 else
  none) else
  (if (v5 &&& 63) = 13 then (sI xs L (l3 + 1)).bind fun v91 =>
  (X6_stable l1 v91 x).bind fun v92 =>
  (sI xs L (l3 + 1)).bind fun v93 =>
  (X7_stable l2 v93 x).bind fun v94 =>
  (if v92 = v94 then L_law_L18 xs L n l1 l2 (l3 + 7) x else
  none) else
  (if (v5 &&& 63) = 14 then (X6_need l1 x).bind fun v96 =>
  (X7_need l2 x).bind fun v97 =>
  (if v96 = v97 then L_law_L18 xs L n l1 l2 (l3 + 7) x else
  none) else
  (if (v5 &&& 63) = 15 then (sI xs L (l3 + 1)).bind fun v99 =>
  (X6_sum l1 v99 x).bind fun v100 =>
  (sI xs L (l3 + 1)).bind fun v101 =>
  (X7_sum l2 v101 x).bind fun v102 =>
  (if v100 = v102 then L_law_L18 xs L n l1 l2 (l3 + 7) x else
  none) else
  (if (v5 &&& 63) = 16 then (sI xs L (l3 + 1)).bind fun v104 =>
  (X6_most l1 v104 x).bind fun v105 =>
  (sI xs L (l3 + 1)).bind fun v106 =>
  (X7_most l2 v106 x).bind fun v107 =>
  (if v105 = v107 then L_law_L18 xs L n l1 l2 (l3 + 7) x else
  none) else
  (if (v5 &&& 63) = 17 then (sI xs L (l3 + 1)).bind fun v109 =>
  (X6_step l1 v109 x).bind fun q110 =>
  (sI xs L (l3 + 1)).bind fun v111 =>
  (X7_step l2 v111 q110.2).bind fun q112 =>
  (if q110.1 = q112.1 then L_law_L18 xs L n l1 l2 (l3 + 7) q112.2 else
  none) else
  (if (v5 &&& 63) = 18 then (sI xs L (l3 + 1)).bind fun v114 =>
  (sI xs L (l3 + 2)).bind fun v115 =>
  (sI xs L (l3 + 3)).bind fun v116 =>
  (X6_then l1 v114 v115 v116 x).bind fun q117 =>
  (sI xs L (l3 + 1)).bind fun v118 =>
  (sI xs L (l3 + 2)).bind fun v119 =>
  (sI xs L (l3 + 3)).bind fun v120 =>
  (X7_then l2 v118 v119 v120 q117.2).bind fun q121 =>
  (if q117.1 = q121.1 then L_law_L18 xs L n l1 l2 (l3 + 7) q121.2 else
  none) else
  (if (v5 &&& 63) = 19 then (sI xs L (l3 + 1)).bind fun v123 =>
  (X6_spent l1 v123 x).bind fun q124 =>
  (sI xs L (l3 + 1)).bind fun v125 =>
  (X7_spent l2 v125 q124.2).bind fun q126 =>
  (if q124.1 = q126.1 then L_law_L18 xs L n l1 l2 (l3 + 7) q126.2 else
  none) else
  (if (v5 &&& 63) = 20 then (sI xs L (l3 + 1)).bind fun v128 =>
  (X6_rises l1 v128 x).bind fun q129 =>
  (sI xs L (l3 + 1)).bind fun v130 =>
  (X7_rises l2 v130 q129.2).bind fun q131 =>
  (if q129.1 = q131.1 then L_law_L18 xs L n l1 l2 (l3 + 7) q131.2 else
  none) else
  (if (v5 &&& 63) = 21 then (sI xs L (l3 + 1)).bind fun v133 =>
  (X6_calm l1 v133 x).bind fun q134 =>
  (sI xs L (l3 + 1)).bind fun v135 =>
  (X7_calm l2 v135 q134.2).bind fun q136 =>
  (if q134.1 = q136.1 then L_law_L18 xs L n l1 l2 (l3 + 7) q136.2 else
  none) else
  (if (v5 &&& 63) = 22 then (sI xs L (l3 + 1)).bind fun v138 =>
  (sI xs L (l3 + 2)).bind fun v139 =>
  (sI xs L (l3 + 3)).bind fun v140 =>
  (X6_pulse l1 v138 v139 v140 x).bind fun q141 =>
  (sI xs L (l3 + 1)).bind fun v142 =>
  (sI xs L (l3 + 2)).bind fun v143 =>
  (sI xs L (l3 + 3)).bind fun v144 =>
  (X7_pulse l2 v142 v143 v144 q141.2).bind fun q145 =>
  (if q141.1 = q145.1 then L_law_L18 xs L n l1 l2 (l3 + 7) q145.2 else
  none) else
  (if (v5 &&& 63) = 23 then (sI xs L (l3 + 1)).bind fun v147 =>
  (sI xs L (l3 + 2)).bind fun v148 =>
  (X6_pulseOf l1 v147 v148 x).bind fun v149 =>
  (sI xs L (l3 + 1)).bind fun v150 =>
  (sI xs L (l3 + 2)).bind fun v151 =>
  (X7_pulseOf l2 v150 v151 x).bind fun v152 =>
  (if v149 = v152 then L_law_L18 xs L n l1 l2 (l3 + 7) x else
  none) else
  (if (v5 &&& 63) = 24 then (sI xs L (l3 + 1)).bind fun v154 =>
  (X6_hush l1 v154 x).bind fun q155 =>
  (sI xs L (l3 + 1)).bind fun v156 =>
  (X7_hush l2 v156 q155.2).bind fun q157 =>
  (if q155.1 = q157.1 then L_law_L18 xs L n l1 l2 (l3 + 7) q157.2 else
  none) else
  (if (v5 &&& 63) = 25 then (sI xs L (l3 + 1)).bind fun v159 =>
  (sI xs L (l3 + 2)).bind fun v160 =>
  (X6_steady l1 v159 v160 x).bind fun q161 =>
  (sI xs L (l3 + 1)).bind fun v162 =>
  (sI xs L (l3 + 2)).bind fun v163 =>
  (X7_steady l2 v162 v163 q161.2).bind fun q164 =>
  (if q161.1 = q164.1 then L_law_L18 xs L n l1 l2 (l3 + 7) q164.2 else
  none) else
  (if (v5 &&& 63) = 26 then (sI xs L (l3 + 1)).bind fun v166 =>
  (sI xs L (l3 + 2)).bind fun v167 =>
  (X6_steadyFlow l1 v166 v167 x).bind fun q168 =>
  (sI xs L (l3 + 1)).bind fun v169 =>
  (sI xs L (l3 + 2)).bind fun v170 =>
  (X7_steadyFlow l2 v169 v170 q168.2).bind fun q171 =>
  (if q168.1 = q171.1 then L_law_L18 xs L n l1 l2 (l3 + 7) q171.2 else
  none) else
  (if (v5 &&& 63) = 27 then (X6_hottest l1 x).bind fun q173 =>
  (X7_hottest l2 q173.2).bind fun q174 =>
  (if q173.1 = q174.1 then L_law_L18 xs L n l1 l2 (l3 + 7) q174.2 else
  none) else
  (if (v5 &&& 63) = 28 then (X6_lay l1 x).bind fun q176 =>
  (X7_lay l2 q176.2).bind fun q177 =>
  (if q176.1 = q177.1 then L_law_L18 xs L n l1 l2 (l3 + 7) q177.2 else
  none) else
  (if (v5 &&& 63) = 29 then (X6_isSteady l1 x).bind fun v179 =>
  (X7_isSteady l2 x).bind fun q180 =>
  (if v179 = q180.1 then L_law_L18 xs L n l1 l2 (l3 + 7) q180.2 else
  none) else
  (if (v5 &&& 63) = 30 then (sI xs L (l3 + 1)).bind fun v182 =>
  (sI xs L (l3 + 2)).bind fun v183 =>
  (X6_buried l1 v182 v183 x).bind fun q184 =>
  (sI xs L (l3 + 1)).bind fun v185 =>
  (sI xs L (l3 + 2)).bind fun v186 =>
  (X7_buried l2 v185 v186 q184.2).bind fun q187 =>
  (if q184.1 = q187.1 then L_law_L18 xs L n l1 l2 (l3 + 7) q187.2 else
  none) else
  (if (v5 &&& 63) = 31 then (sI xs L (l3 + 1)).bind fun v189 =>
  (sI xs L (l3 + 2)).bind fun v190 =>
  (sI xs L (l3 + 3)).bind fun v191 =>
  (X6_tells l1 v189 v190 v191 x).bind fun q192 =>
  (sI xs L (l3 + 1)).bind fun v193 =>
  (sI xs L (l3 + 2)).bind fun v194 =>
  (sI xs L (l3 + 3)).bind fun v195 =>
  (X7_tells l2 v193 v194 v195 q192.2).bind fun q196 =>
  (if q192.1 = q196.1 then L_law_L18 xs L n l1 l2 (l3 + 7) q196.2 else
  none) else
  (if (v5 &&& 63) = 32 then (sI xs L (l3 + 1)).bind fun v198 =>
  (sI xs L (l3 + 2)).bind fun v199 =>
  (sI xs L (l3 + 3)).bind fun v200 =>
  (X6_film l1 v198 v199 v200 x).bind fun q201 =>
  (sI xs L (l3 + 1)).bind fun v202 =>
  (sI xs L (l3 + 2)).bind fun v203 =>
  (sI xs L (l3 + 3)).bind fun v204 =>
  (X7_film l2 v202 v203 v204 q201.2).bind fun q205 =>
  (if q201.1 = q205.1 then L_law_L18 xs L n l1 l2 (l3 + 7) q205.2 else
  none) else
  (if (v5 &&& 63) = 33 then (sI xs L (l3 + 1)).bind fun v207 =>
  (sI xs L (l3 + 2)).bind fun v208 =>
  (X6_drawn l1 v207 v208 x).bind fun q209 =>
  (sI xs L (l3 + 1)).bind fun v210 =>
  (sI xs L (l3 + 2)).bind fun v211 =>
  (X7_drawn l2 v210 v211 q209.2).bind fun q212 =>
  (if q209.1 = q212.1 then L_law_L18 xs L n l1 l2 (l3 + 7) q212.2 else
  none) else
  (if (v5 &&& 63) = 34 then (sI xs L (l3 + 1)).bind fun v214 =>
  (sI xs L (l3 + 2)).bind fun v215 =>
  (sI xs L (l3 + 3)).bind fun v216 =>
  (sI xs L (l3 + 4)).bind fun v217 =>
  (sI xs L (l3 + 5)).bind fun v218 =>
  (sI xs L (l3 + 6)).bind fun v219 =>
  (X6_feed l1 v214 v215 v216 v217 v218 v219 x).bind fun q220 =>
  (sI xs L (l3 + 1)).bind fun v221 =>
  (sI xs L (l3 + 2)).bind fun v222 =>
  (sI xs L (l3 + 3)).bind fun v223 =>
  (sI xs L (l3 + 4)).bind fun v224 =>
  (sI xs L (l3 + 5)).bind fun v225 =>
  (sI xs L (l3 + 6)).bind fun v226 =>
  (X7_feed l2 v221 v222 v223 v224 v225 v226 q220.2).bind fun q227 =>
  (if q220.1 = q227.1 then L_law_L18 xs L n l1 l2 (l3 + 7) q227.2 else
  none) else
  (if (v5 &&& 63) = 35 then (X6_text l1 x).bind fun q229 =>
  (X7_text l2 q229.2).bind fun q230 =>
  (if q229.1 = q230.1 then L_law_L18 xs L n l1 l2 (l3 + 7) q230.2 else
  none) else
  (if (v5 &&& 63) = 36 then (X6_image l1 x).bind fun q232 =>
  (X7_image l2 q232.2).bind fun q233 =>
  (if q232.1 = q233.1 then L_law_L18 xs L n l1 l2 (l3 + 7) q233.2 else
  none) else
  (if (v5 &&& 63) = 37 then (X6_back l1 x).bind fun q235 =>
  (X7_back l2 q235.2).bind fun q236 =>
  (if q235.1 = q236.1 then L_law_L18 xs L n l1 l2 (l3 + 7) q236.2 else
  none) else
  (if (v5 &&& 63) = 38 then (sI xs L (l3 + 1)).bind fun v238 =>
  (sI xs L (l3 + 2)).bind fun v239 =>
  (sI xs L (l3 + 3)).bind fun v240 =>
  (sI xs L (l3 + 4)).bind fun v241 =>
  (X6_load l1 v238 v239 v240 v241 x).bind fun q242 =>
  (sI xs L (l3 + 1)).bind fun v243 =>
  (sI xs L (l3 + 2)).bind fun v244 =>
  (sI xs L (l3 + 3)).bind fun v245 =>
  (sI xs L (l3 + 4)).bind fun v246 =>
  (X7_load l2 v243 v244 v245 v246 q242.2).bind fun q247 =>
  (if q242.1 = q247.1 then L_law_L18 xs L n l1 l2 (l3 + 7) q247.2 else
  none) else
  (if (v5 &&& 63) = 39 then (sI xs L (l3 + 1)).bind fun v249 =>
  (X6_count l1 v249 x).bind fun v250 =>
  (sI xs L (l3 + 1)).bind fun v251 =>
  (X7_count l2 v251 x).bind fun v252 =>
  (if v250 = v252 then L_law_L18 xs L n l1 l2 (l3 + 7) x else
  none) else
  (if (v5 &&& 63) = 40 then (sI xs L (l3 + 1)).bind fun v254 =>
  (sI xs L (l3 + 2)).bind fun v255 =>
  (sI xs L (l3 + 3)).bind fun v256 =>
  (X6_sheet l1 v254 v255 v256 x).bind fun q257 =>
  (sI xs L (l3 + 1)).bind fun v258 =>
  (sI xs L (l3 + 2)).bind fun v259 =>
  (sI xs L (l3 + 3)).bind fun v260 =>
  (X7_sheet l2 v258 v259 v260 q257.2).bind fun q261 =>
  (if q257.1 = q261.1 then L_law_L18 xs L n l1 l2 (l3 + 7) q261.2 else
  none) else
  (if (v5 &&& 63) = 41 then (sI xs L (l3 + 1)).bind fun v263 =>
  (sI xs L (l3 + 2)).bind fun v264 =>
  (sI xs L (l3 + 3)).bind fun v265 =>
  (X6_put l1 v263 v264 v265 x).bind fun q266 =>
  (sI xs L (l3 + 1)).bind fun v267 =>
  (sI xs L (l3 + 2)).bind fun v268 =>
  (sI xs L (l3 + 3)).bind fun v269 =>
  (X7_put l2 v267 v268 v269 q266.2).bind fun q270 =>
  (if q266.1 = q270.1 then L_law_L18 xs L n l1 l2 (l3 + 7) q270.2 else
  none) else
  (if (v5 &&& 63) = 42 then (sI xs L (l3 + 1)).bind fun v272 =>
  (sI xs L (l3 + 2)).bind fun v273 =>
  (sI xs L (l3 + 3)).bind fun v274 =>
  (sI xs L (l3 + 4)).bind fun v275 =>
  (sI xs L (l3 + 5)).bind fun v276 =>
  (X6_copy l1 v272 v273 v274 v275 v276 x).bind fun q277 =>
  (sI xs L (l3 + 1)).bind fun v278 =>
  (sI xs L (l3 + 2)).bind fun v279 =>
  (sI xs L (l3 + 3)).bind fun v280 =>
  (sI xs L (l3 + 4)).bind fun v281 =>
  (sI xs L (l3 + 5)).bind fun v282 =>
  (X7_copy l2 v278 v279 v280 v281 v282 q277.2).bind fun q283 =>
  (if q277.1 = q283.1 then L_law_L18 xs L n l1 l2 (l3 + 7) q283.2 else
  none) else
  L_law_L18 xs L n l1 l2 (l3 + 7) x))))))))))))))))))))))))))))))))))))))))))))
theorem okL_law_L18 (G : JG) (b L : Nat) (xs : Nat → Int32) (nm : String) : ∀ (n : Nat), ∀ (l1 : Nat) (l2 : Nat) (l3 : Int32) (x : Hs), JM G RL cL_law 4 (lwZ G b L xs nm) (fun r : Hs => ((none, r) : JR)) 18 [(0, .ref b), (1, .ref l1), (2, .ref l2), (3, .int l3)] [] x 102 1384 (L_law_L18 xs L n l1 l2 l3 x) := by
  intro n
  induction n with
  | zero => intro l1 l2 l3 x; exact j_none
  | succ n ih =>
    intro l1 l2 l3 x
    unfold L_law_L18
    refine j_iload_n 19 3 dL_law_18 rfl rfl rfl ?_
    refine j_aload_n 20 0 dL_law_19 rfl rfl rfl ?_
    refine j_sN 21 (lwX G b L xs nm) dL_law_20 rfl ?_
    refine j_bipush (v := 7) 23 dL_law_21 rfl bc_7 ?_
    refine j_isub 24 dL_law_23 rfl ?_
    refine j_icmp_gt 1545 27 dL_law_24 (by decide) rfl ?_ ?_
    · refine j_iconst (v := 1) 1546 dL_law_1545 rfl ic_1 ?_
      exact j_lawret dL_law_1546 (Nat.le_of_ble_eq_true rfl) (Nat.le_of_ble_eq_true rfl)
    · refine j_aload_n 28 0 dL_law_27 rfl rfl rfl ?_
      refine j_iload_n 29 3 dL_law_28 rfl rfl rfl ?_
      refine j_sI 30 (lwX G b L xs nm) dL_law_29 rfl ?_
      intro v5
      refine j_bipush (v := 63) 32 dL_law_30 rfl bc_63 ?_
      refine j_iand 33 dL_law_32 rfl ?_
      refine j_ite (fun h16 => ?_) (fun h16 => ?_)
      · refine j_tinE (w := 0) 220 dL_law_33 h16 (by decide) (by decide) rfl (by decide) ?_
        refine j_aload_n 221 1 dL_law_220 rfl rfl rfl ?_
        refine j_aload_n 222 0 dL_law_221 rfl rfl rfl ?_
        refine j_iload_n 223 3 dL_law_222 rfl rfl rfl ?_
        refine j_iconst (v := 1) 224 dL_law_223 rfl ic_1 ?_
        refine j_iadd 225 dL_law_224 rfl ?_
        refine j_sI 226 (lwX G b L xs nm) dL_law_225 rfl ?_
        intro v6
        refine j_aload_n 227 0 dL_law_226 rfl rfl rfl ?_
        refine j_iload_n 228 3 dL_law_227 rfl rfl rfl ?_
        refine j_iconst (v := 2) 229 dL_law_228 rfl ic_2 ?_
        refine j_iadd 230 dL_law_229 rfl ?_
        refine j_sI 231 (lwX G b L xs nm) dL_law_230 rfl ?_
        intro v7
        refine j_aload_n 232 0 dL_law_231 rfl rfl rfl ?_
        refine j_iload_n 233 3 dL_law_232 rfl rfl rfl ?_
        refine j_iconst (v := 3) 234 dL_law_233 rfl ic_3 ?_
        refine j_iadd 235 dL_law_234 rfl ?_
        refine j_sI 236 (lwX G b L xs nm) dL_law_235 rfl ?_
        intro v8
        refine j_aload_n 237 0 dL_law_236 rfl rfl rfl ?_
        refine j_iload_n 238 3 dL_law_237 rfl rfl rfl ?_
        refine j_iconst (v := 4) 239 dL_law_238 rfl ic_4 ?_
        refine j_iadd 240 dL_law_239 rfl ?_
        refine j_sI 241 (lwX G b L xs nm) dL_law_240 rfl ?_
        intro v9
        refine j_callV_iw (ci := 5) (As := [.int v6, .int v7, .int v8, .int v9]) (st := []) 244 (okX6_cell G x l1 v6 v7 v8 v9) kc_X6_cell kl_L_13 ki_X6_cell kv_X6_cell kh_X6 (by decide) (fun _ h => rvX6_cell h) ⟨rfl, rfl, Nat.le_of_ble_eq_true rfl, Nat.le_of_ble_eq_true rfl⟩ (Nat.le_of_ble_eq_true rfl) ⟨Nat.le_of_ble_eq_true rfl, Nat.le_of_ble_eq_true rfl⟩ rfl dL_law_241 rfl rfl ?_
        intro q10
        refine j_aload_n 245 2 dL_law_244 rfl rfl rfl ?_
        refine j_aload_n 246 0 dL_law_245 rfl rfl rfl ?_
        refine j_iload_n 247 3 dL_law_246 rfl rfl rfl ?_
        refine j_iconst (v := 1) 248 dL_law_247 rfl ic_1 ?_
        refine j_iadd 249 dL_law_248 rfl ?_
        refine j_sI 250 (lwX G b L xs nm) dL_law_249 rfl ?_
        intro v11
        refine j_aload_n 251 0 dL_law_250 rfl rfl rfl ?_
        refine j_iload_n 252 3 dL_law_251 rfl rfl rfl ?_
        refine j_iconst (v := 2) 253 dL_law_252 rfl ic_2 ?_
        refine j_iadd 254 dL_law_253 rfl ?_
        refine j_sI 255 (lwX G b L xs nm) dL_law_254 rfl ?_
        intro v12
        refine j_aload_n 256 0 dL_law_255 rfl rfl rfl ?_
        refine j_iload_n 257 3 dL_law_256 rfl rfl rfl ?_
        refine j_iconst (v := 3) 258 dL_law_257 rfl ic_3 ?_
        refine j_iadd 259 dL_law_258 rfl ?_
        refine j_sI 260 (lwX G b L xs nm) dL_law_259 rfl ?_
        intro v13
        refine j_aload_n 261 0 dL_law_260 rfl rfl rfl ?_
        refine j_iload_n 262 3 dL_law_261 rfl rfl rfl ?_
        refine j_iconst (v := 4) 263 dL_law_262 rfl ic_4 ?_
        refine j_iadd 264 dL_law_263 rfl ?_
        refine j_sI 265 (lwX G b L xs nm) dL_law_264 rfl ?_
        intro v14
        refine j_callV_iw (ci := 6) (As := [.int v11, .int v12, .int v13, .int v14]) (st := [.int q10.1]) 268 (okX7_cell G q10.2 l2 v11 v12 v13 v14) kc_X7_cell kl_L_17 ki_X7_cell kv_X7_cell kh_X7 (by decide) (fun _ h => rvX7_cell h) ⟨rfl, rfl, Nat.le_of_ble_eq_true rfl, Nat.le_of_ble_eq_true rfl⟩ (Nat.le_of_ble_eq_true rfl) ⟨Nat.le_of_ble_eq_true rfl, Nat.le_of_ble_eq_true rfl⟩ rfl dL_law_265 rfl rfl ?_
        intro q15
        refine j_icmp_eq 1539 271 dL_law_268 (by decide) rfl ?_ ?_
        · refine j_iinc 1542 3 [(3, .int (l3 + 7)), (0, .ref b), (1, .ref l1), (2, .ref l2)] dL_law_1539 rfl rfl (ii_7 _) (by decide) rfl ?_
          refine j_goto 18 dL_law_1542 (by decide) ?_
          refine j_sub [1, 2, 3, 0] rfl ?_
          exact ih l1 l2 (l3 + 7) q15.2
        · refine j_iconst (v := 0) 272 dL_law_271 rfl ic_0 ?_
          exact j_none
      refine j_ite (fun h19 => ?_) (fun h19 => ?_)
      · refine j_tinE (w := 1) 273 dL_law_33 h19 (by decide) (by decide) rfl (by decide) ?_
        refine j_aload_n 274 1 dL_law_273 rfl rfl rfl ?_
        refine j_callV_iw (ci := 5) (As := []) (st := []) 277 (okX6_drop G x l1) kc_X6_drop kl_L_18 ki_X6_drop kv_X6_drop kh_X6 (by decide) (fun _ h => rvX6_drop h) ⟨rfl, rfl, Nat.le_of_ble_eq_true rfl, Nat.le_of_ble_eq_true rfl⟩ (Nat.le_of_ble_eq_true rfl) ⟨Nat.le_of_ble_eq_true rfl, Nat.le_of_ble_eq_true rfl⟩ rfl dL_law_274 rfl rfl ?_
        intro q17
        refine j_aload_n 278 2 dL_law_277 rfl rfl rfl ?_
        refine j_callV_iw (ci := 6) (As := []) (st := [.int q17.1]) 281 (okX7_drop G q17.2 l2) kc_X7_drop kl_L_22 ki_X7_drop kv_X7_drop kh_X7 (by decide) (fun _ h => rvX7_drop h) ⟨rfl, rfl, Nat.le_of_ble_eq_true rfl, Nat.le_of_ble_eq_true rfl⟩ (Nat.le_of_ble_eq_true rfl) ⟨Nat.le_of_ble_eq_true rfl, Nat.le_of_ble_eq_true rfl⟩ rfl dL_law_278 rfl rfl ?_
        intro q18
        refine j_icmp_eq 1539 284 dL_law_281 (by decide) rfl ?_ ?_
        · refine j_iinc 1542 3 [(3, .int (l3 + 7)), (0, .ref b), (1, .ref l1), (2, .ref l2)] dL_law_1539 rfl rfl (ii_7 _) (by decide) rfl ?_
          refine j_goto 18 dL_law_1542 (by decide) ?_
          refine j_sub [1, 2, 3, 0] rfl ?_
          exact ih l1 l2 (l3 + 7) q18.2
        · refine j_iconst (v := 0) 285 dL_law_284 rfl ic_0 ?_
          exact j_none
      refine j_ite (fun h28 => ?_) (fun h28 => ?_)
      · refine j_tinE (w := 2) 286 dL_law_33 h28 (by decide) (by decide) rfl (by decide) ?_
        refine j_aload_n 287 1 dL_law_286 rfl rfl rfl ?_
        refine j_aload_n 288 0 dL_law_287 rfl rfl rfl ?_
        refine j_iload_n 289 3 dL_law_288 rfl rfl rfl ?_
        refine j_iconst (v := 1) 290 dL_law_289 rfl ic_1 ?_
        refine j_iadd 291 dL_law_290 rfl ?_
        refine j_sI 292 (lwX G b L xs nm) dL_law_291 rfl ?_
        intro v20
        refine j_aload_n 293 0 dL_law_292 rfl rfl rfl ?_
        refine j_iload_n 294 3 dL_law_293 rfl rfl rfl ?_
        refine j_iconst (v := 2) 295 dL_law_294 rfl ic_2 ?_
        refine j_iadd 296 dL_law_295 rfl ?_
        refine j_sI 297 (lwX G b L xs nm) dL_law_296 rfl ?_
        intro v21
        refine j_aload_n 298 0 dL_law_297 rfl rfl rfl ?_
        refine j_iload_n 299 3 dL_law_298 rfl rfl rfl ?_
        refine j_iconst (v := 3) 300 dL_law_299 rfl ic_3 ?_
        refine j_iadd 301 dL_law_300 rfl ?_
        refine j_sI 302 (lwX G b L xs nm) dL_law_301 rfl ?_
        intro v22
        refine j_callV_iw (ci := 5) (As := [.int v20, .int v21, .int v22]) (st := []) 305 (okX6_set G x l1 v20 v21 v22) kc_X6_set kl_L_23 ki_X6_set kv_X6_set kh_X6 (by decide) (fun _ h => rvX6_set h) ⟨rfl, rfl, Nat.le_of_ble_eq_true rfl, Nat.le_of_ble_eq_true rfl⟩ (Nat.le_of_ble_eq_true rfl) ⟨Nat.le_of_ble_eq_true rfl, Nat.le_of_ble_eq_true rfl⟩ rfl dL_law_302 rfl rfl ?_
        intro q23
        refine j_aload_n 306 2 dL_law_305 rfl rfl rfl ?_
        refine j_aload_n 307 0 dL_law_306 rfl rfl rfl ?_
        refine j_iload_n 308 3 dL_law_307 rfl rfl rfl ?_
        refine j_iconst (v := 1) 309 dL_law_308 rfl ic_1 ?_
        refine j_iadd 310 dL_law_309 rfl ?_
        refine j_sI 311 (lwX G b L xs nm) dL_law_310 rfl ?_
        intro v24
        refine j_aload_n 312 0 dL_law_311 rfl rfl rfl ?_
        refine j_iload_n 313 3 dL_law_312 rfl rfl rfl ?_
        refine j_iconst (v := 2) 314 dL_law_313 rfl ic_2 ?_
        refine j_iadd 315 dL_law_314 rfl ?_
        refine j_sI 316 (lwX G b L xs nm) dL_law_315 rfl ?_
        intro v25
        refine j_aload_n 317 0 dL_law_316 rfl rfl rfl ?_
        refine j_iload_n 318 3 dL_law_317 rfl rfl rfl ?_
        refine j_iconst (v := 3) 319 dL_law_318 rfl ic_3 ?_
        refine j_iadd 320 dL_law_319 rfl ?_
        refine j_sI 321 (lwX G b L xs nm) dL_law_320 rfl ?_
        intro v26
        refine j_callV_iw (ci := 6) (As := [.int v24, .int v25, .int v26]) (st := [.int q23.1]) 324 (okX7_set G q23.2 l2 v24 v25 v26) kc_X7_set kl_L_27 ki_X7_set kv_X7_set kh_X7 (by decide) (fun _ h => rvX7_set h) ⟨rfl, rfl, Nat.le_of_ble_eq_true rfl, Nat.le_of_ble_eq_true rfl⟩ (Nat.le_of_ble_eq_true rfl) ⟨Nat.le_of_ble_eq_true rfl, Nat.le_of_ble_eq_true rfl⟩ rfl dL_law_321 rfl rfl ?_
        intro q27
        refine j_icmp_eq 1539 327 dL_law_324 (by decide) rfl ?_ ?_
        · refine j_iinc 1542 3 [(3, .int (l3 + 7)), (0, .ref b), (1, .ref l1), (2, .ref l2)] dL_law_1539 rfl rfl (ii_7 _) (by decide) rfl ?_
          refine j_goto 18 dL_law_1542 (by decide) ?_
          refine j_sub [1, 2, 3, 0] rfl ?_
          exact ih l1 l2 (l3 + 7) q27.2
        · refine j_iconst (v := 0) 328 dL_law_327 rfl ic_0 ?_
          exact j_none
      refine j_ite (fun h35 => ?_) (fun h35 => ?_)
      · refine j_tinE (w := 3) 329 dL_law_33 h35 (by decide) (by decide) rfl (by decide) ?_
        refine j_aload_n 330 1 dL_law_329 rfl rfl rfl ?_
        refine j_aload_n 331 0 dL_law_330 rfl rfl rfl ?_
        refine j_iload_n 332 3 dL_law_331 rfl rfl rfl ?_
        refine j_iconst (v := 1) 333 dL_law_332 rfl ic_1 ?_
        refine j_iadd 334 dL_law_333 rfl ?_
        refine j_sI 335 (lwX G b L xs nm) dL_law_334 rfl ?_
        intro v29
        refine j_aload_n 336 0 dL_law_335 rfl rfl rfl ?_
        refine j_iload_n 337 3 dL_law_336 rfl rfl rfl ?_
        refine j_iconst (v := 2) 338 dL_law_337 rfl ic_2 ?_
        refine j_iadd 339 dL_law_338 rfl ?_
        refine j_sI 340 (lwX G b L xs nm) dL_law_339 rfl ?_
        intro v30
        refine j_callV_iw (ci := 5) (As := [.int v29, .int v30]) (st := []) 343 (okX6_heat G x l1 v29 v30) kc_X6_heat kl_L_28 ki_X6_heat kv_X6_heat kh_X6 (by decide) (fun _ h => rvX6_heat h) ⟨rfl, rfl, Nat.le_of_ble_eq_true rfl, Nat.le_of_ble_eq_true rfl⟩ (Nat.le_of_ble_eq_true rfl) ⟨Nat.le_of_ble_eq_true rfl, Nat.le_of_ble_eq_true rfl⟩ rfl dL_law_340 rfl rfl ?_
        intro q31
        refine j_aload_n 344 2 dL_law_343 rfl rfl rfl ?_
        refine j_aload_n 345 0 dL_law_344 rfl rfl rfl ?_
        refine j_iload_n 346 3 dL_law_345 rfl rfl rfl ?_
        refine j_iconst (v := 1) 347 dL_law_346 rfl ic_1 ?_
        refine j_iadd 348 dL_law_347 rfl ?_
        refine j_sI 349 (lwX G b L xs nm) dL_law_348 rfl ?_
        intro v32
        refine j_aload_n 350 0 dL_law_349 rfl rfl rfl ?_
        refine j_iload_n 351 3 dL_law_350 rfl rfl rfl ?_
        refine j_iconst (v := 2) 352 dL_law_351 rfl ic_2 ?_
        refine j_iadd 353 dL_law_352 rfl ?_
        refine j_sI 354 (lwX G b L xs nm) dL_law_353 rfl ?_
        intro v33
        refine j_callV_iw (ci := 6) (As := [.int v32, .int v33]) (st := [.int q31.1]) 357 (okX7_heat G q31.2 l2 v32 v33) kc_X7_heat kl_L_32 ki_X7_heat kv_X7_heat kh_X7 (by decide) (fun _ h => rvX7_heat h) ⟨rfl, rfl, Nat.le_of_ble_eq_true rfl, Nat.le_of_ble_eq_true rfl⟩ (Nat.le_of_ble_eq_true rfl) ⟨Nat.le_of_ble_eq_true rfl, Nat.le_of_ble_eq_true rfl⟩ rfl dL_law_354 rfl rfl ?_
        intro q34
        refine j_icmp_eq 1539 360 dL_law_357 (by decide) rfl ?_ ?_
        · refine j_iinc 1542 3 [(3, .int (l3 + 7)), (0, .ref b), (1, .ref l1), (2, .ref l2)] dL_law_1539 rfl rfl (ii_7 _) (by decide) rfl ?_
          refine j_goto 18 dL_law_1542 (by decide) ?_
          refine j_sub [1, 2, 3, 0] rfl ?_
          exact ih l1 l2 (l3 + 7) q34.2
        · refine j_iconst (v := 0) 361 dL_law_360 rfl ic_0 ?_
          exact j_none
      refine j_ite (fun h42 => ?_) (fun h42 => ?_)
      · refine j_tinE (w := 4) 362 dL_law_33 h42 (by decide) (by decide) rfl (by decide) ?_
        refine j_aload_n 363 1 dL_law_362 rfl rfl rfl ?_
        refine j_aload_n 364 0 dL_law_363 rfl rfl rfl ?_
        refine j_iload_n 365 3 dL_law_364 rfl rfl rfl ?_
        refine j_iconst (v := 1) 366 dL_law_365 rfl ic_1 ?_
        refine j_iadd 367 dL_law_366 rfl ?_
        refine j_sI 368 (lwX G b L xs nm) dL_law_367 rfl ?_
        intro v36
        refine j_aload_n 369 0 dL_law_368 rfl rfl rfl ?_
        refine j_iload_n 370 3 dL_law_369 rfl rfl rfl ?_
        refine j_iconst (v := 2) 371 dL_law_370 rfl ic_2 ?_
        refine j_iadd 372 dL_law_371 rfl ?_
        refine j_sI 373 (lwX G b L xs nm) dL_law_372 rfl ?_
        intro v37
        refine j_callV_i (ci := 5) (As := [.int v36, .int v37]) (st := []) 376 (okX6_of G x l1 v36 v37) kc_X6_of kl_L_33 ki_X6_of kv_X6_of kh_X6 (by decide) (fun _ h => rvX6_of h) ⟨rfl, rfl, Nat.le_of_ble_eq_true rfl, Nat.le_of_ble_eq_true rfl⟩ (Nat.le_of_ble_eq_true rfl) ⟨Nat.le_of_ble_eq_true rfl, Nat.le_of_ble_eq_true rfl⟩ rfl dL_law_373 rfl rfl ?_
        intro v38
        refine j_aload_n 377 2 dL_law_376 rfl rfl rfl ?_
        refine j_aload_n 378 0 dL_law_377 rfl rfl rfl ?_
        refine j_iload_n 379 3 dL_law_378 rfl rfl rfl ?_
        refine j_iconst (v := 1) 380 dL_law_379 rfl ic_1 ?_
        refine j_iadd 381 dL_law_380 rfl ?_
        refine j_sI 382 (lwX G b L xs nm) dL_law_381 rfl ?_
        intro v39
        refine j_aload_n 383 0 dL_law_382 rfl rfl rfl ?_
        refine j_iload_n 384 3 dL_law_383 rfl rfl rfl ?_
        refine j_iconst (v := 2) 385 dL_law_384 rfl ic_2 ?_
        refine j_iadd 386 dL_law_385 rfl ?_
        refine j_sI 387 (lwX G b L xs nm) dL_law_386 rfl ?_
        intro v40
        refine j_callV_i (ci := 6) (As := [.int v39, .int v40]) (st := [.int v38]) 390 (okX7_of G x l2 v39 v40) kc_X7_of kl_L_36 ki_X7_of kv_X7_of kh_X7 (by decide) (fun _ h => rvX7_of h) ⟨rfl, rfl, Nat.le_of_ble_eq_true rfl, Nat.le_of_ble_eq_true rfl⟩ (Nat.le_of_ble_eq_true rfl) ⟨Nat.le_of_ble_eq_true rfl, Nat.le_of_ble_eq_true rfl⟩ rfl dL_law_387 rfl rfl ?_
        intro v41
        refine j_icmp_eq 1539 393 dL_law_390 (by decide) rfl ?_ ?_
        · refine j_iinc 1542 3 [(3, .int (l3 + 7)), (0, .ref b), (1, .ref l1), (2, .ref l2)] dL_law_1539 rfl rfl (ii_7 _) (by decide) rfl ?_
          refine j_goto 18 dL_law_1542 (by decide) ?_
          refine j_sub [1, 2, 3, 0] rfl ?_
          exact ih l1 l2 (l3 + 7) x
        · refine j_iconst (v := 0) 394 dL_law_393 rfl ic_0 ?_
          exact j_none
      refine j_ite (fun h49 => ?_) (fun h49 => ?_)
      · refine j_tinE (w := 5) 395 dL_law_33 h49 (by decide) (by decide) rfl (by decide) ?_
        refine j_aload_n 396 1 dL_law_395 rfl rfl rfl ?_
        refine j_aload_n 397 0 dL_law_396 rfl rfl rfl ?_
        refine j_iload_n 398 3 dL_law_397 rfl rfl rfl ?_
        refine j_iconst (v := 1) 399 dL_law_398 rfl ic_1 ?_
        refine j_iadd 400 dL_law_399 rfl ?_
        refine j_sI 401 (lwX G b L xs nm) dL_law_400 rfl ?_
        intro v43
        refine j_aload_n 402 0 dL_law_401 rfl rfl rfl ?_
        refine j_iload_n 403 3 dL_law_402 rfl rfl rfl ?_
        refine j_iconst (v := 2) 404 dL_law_403 rfl ic_2 ?_
        refine j_iadd 405 dL_law_404 rfl ?_
        refine j_sI 406 (lwX G b L xs nm) dL_law_405 rfl ?_
        intro v44
        refine j_callV_i (ci := 5) (As := [.int v43, .int v44]) (st := []) 409 (okX6_taken G x l1 v43 v44) kc_X6_taken kl_L_37 ki_X6_taken kv_X6_taken kh_X6 (by decide) (fun _ h => rvX6_taken h) ⟨rfl, rfl, Nat.le_of_ble_eq_true rfl, Nat.le_of_ble_eq_true rfl⟩ (Nat.le_of_ble_eq_true rfl) ⟨Nat.le_of_ble_eq_true rfl, Nat.le_of_ble_eq_true rfl⟩ rfl dL_law_406 rfl rfl ?_
        intro v45
        refine j_aload_n 410 2 dL_law_409 rfl rfl rfl ?_
        refine j_aload_n 411 0 dL_law_410 rfl rfl rfl ?_
        refine j_iload_n 412 3 dL_law_411 rfl rfl rfl ?_
        refine j_iconst (v := 1) 413 dL_law_412 rfl ic_1 ?_
        refine j_iadd 414 dL_law_413 rfl ?_
        refine j_sI 415 (lwX G b L xs nm) dL_law_414 rfl ?_
        intro v46
        refine j_aload_n 416 0 dL_law_415 rfl rfl rfl ?_
        refine j_iload_n 417 3 dL_law_416 rfl rfl rfl ?_
        refine j_iconst (v := 2) 418 dL_law_417 rfl ic_2 ?_
        refine j_iadd 419 dL_law_418 rfl ?_
        refine j_sI 420 (lwX G b L xs nm) dL_law_419 rfl ?_
        intro v47
        refine j_callV_i (ci := 6) (As := [.int v46, .int v47]) (st := [.int v45]) 423 (okX7_taken G x l2 v46 v47) kc_X7_taken kl_L_40 ki_X7_taken kv_X7_taken kh_X7 (by decide) (fun _ h => rvX7_taken h) ⟨rfl, rfl, Nat.le_of_ble_eq_true rfl, Nat.le_of_ble_eq_true rfl⟩ (Nat.le_of_ble_eq_true rfl) ⟨Nat.le_of_ble_eq_true rfl, Nat.le_of_ble_eq_true rfl⟩ rfl dL_law_420 rfl rfl ?_
        intro v48
        refine j_icmp_eq 1539 426 dL_law_423 (by decide) rfl ?_ ?_
        · refine j_iinc 1542 3 [(3, .int (l3 + 7)), (0, .ref b), (1, .ref l1), (2, .ref l2)] dL_law_1539 rfl rfl (ii_7 _) (by decide) rfl ?_
          refine j_goto 18 dL_law_1542 (by decide) ?_
          refine j_sub [1, 2, 3, 0] rfl ?_
          exact ih l1 l2 (l3 + 7) x
        · refine j_iconst (v := 0) 427 dL_law_426 rfl ic_0 ?_
          exact j_none
      refine j_ite (fun h54 => ?_) (fun h54 => ?_)
      · refine j_tinE (w := 6) 428 dL_law_33 h54 (by decide) (by decide) rfl (by decide) ?_
        refine j_aload_n 429 1 dL_law_428 rfl rfl rfl ?_
        refine j_aload_n 430 0 dL_law_429 rfl rfl rfl ?_
        refine j_iload_n 431 3 dL_law_430 rfl rfl rfl ?_
        refine j_iconst (v := 1) 432 dL_law_431 rfl ic_1 ?_
        refine j_iadd 433 dL_law_432 rfl ?_
        refine j_sI 434 (lwX G b L xs nm) dL_law_433 rfl ?_
        intro v50
        refine j_callV_i (ci := 5) (As := [.int v50]) (st := []) 437 (okX6_kin G x l1 v50) kc_X6_kin kl_L_41 ki_X6_kin kv_X6_kin kh_X6 (by decide) (fun _ h => rvX6_kin h) ⟨rfl, rfl, Nat.le_of_ble_eq_true rfl, Nat.le_of_ble_eq_true rfl⟩ (Nat.le_of_ble_eq_true rfl) ⟨Nat.le_of_ble_eq_true rfl, Nat.le_of_ble_eq_true rfl⟩ rfl dL_law_434 rfl rfl ?_
        intro v51
        refine j_aload_n 438 2 dL_law_437 rfl rfl rfl ?_
        refine j_aload_n 439 0 dL_law_438 rfl rfl rfl ?_
        refine j_iload_n 440 3 dL_law_439 rfl rfl rfl ?_
        refine j_iconst (v := 1) 441 dL_law_440 rfl ic_1 ?_
        refine j_iadd 442 dL_law_441 rfl ?_
        refine j_sI 443 (lwX G b L xs nm) dL_law_442 rfl ?_
        intro v52
        refine j_callV_i (ci := 6) (As := [.int v52]) (st := [.int v51]) 446 (okX7_kin G x l2 v52) kc_X7_kin kl_L_45 ki_X7_kin kv_X7_kin kh_X7 (by decide) (fun _ h => rvX7_kin h) ⟨rfl, rfl, Nat.le_of_ble_eq_true rfl, Nat.le_of_ble_eq_true rfl⟩ (Nat.le_of_ble_eq_true rfl) ⟨Nat.le_of_ble_eq_true rfl, Nat.le_of_ble_eq_true rfl⟩ rfl dL_law_443 rfl rfl ?_
        intro v53
        refine j_icmp_eq 1539 449 dL_law_446 (by decide) rfl ?_ ?_
        · refine j_iinc 1542 3 [(3, .int (l3 + 7)), (0, .ref b), (1, .ref l1), (2, .ref l2)] dL_law_1539 rfl rfl (ii_7 _) (by decide) rfl ?_
          refine j_goto 18 dL_law_1542 (by decide) ?_
          refine j_sub [1, 2, 3, 0] rfl ?_
          exact ih l1 l2 (l3 + 7) x
        · refine j_iconst (v := 0) 450 dL_law_449 rfl ic_0 ?_
          exact j_none
      refine j_ite (fun h61 => ?_) (fun h61 => ?_)
      · refine j_tinE (w := 7) 451 dL_law_33 h61 (by decide) (by decide) rfl (by decide) ?_
        refine j_aload_n 452 1 dL_law_451 rfl rfl rfl ?_
        refine j_aload_n 453 0 dL_law_452 rfl rfl rfl ?_
        refine j_iload_n 454 3 dL_law_453 rfl rfl rfl ?_
        refine j_iconst (v := 1) 455 dL_law_454 rfl ic_1 ?_
        refine j_iadd 456 dL_law_455 rfl ?_
        refine j_sI 457 (lwX G b L xs nm) dL_law_456 rfl ?_
        intro v55
        refine j_aload_n 458 0 dL_law_457 rfl rfl rfl ?_
        refine j_iload_n 459 3 dL_law_458 rfl rfl rfl ?_
        refine j_iconst (v := 2) 460 dL_law_459 rfl ic_2 ?_
        refine j_iadd 461 dL_law_460 rfl ?_
        refine j_sI 462 (lwX G b L xs nm) dL_law_461 rfl ?_
        intro v56
        refine j_callV_iw (ci := 5) (As := [.int v55, .int v56]) (st := []) 465 (okX6_end G x l1 v55 v56) kc_X6_end kl_L_46 ki_X6_end kv_X6_end kh_X6 (by decide) (fun _ h => rvX6_end h) ⟨rfl, rfl, Nat.le_of_ble_eq_true rfl, Nat.le_of_ble_eq_true rfl⟩ (Nat.le_of_ble_eq_true rfl) ⟨Nat.le_of_ble_eq_true rfl, Nat.le_of_ble_eq_true rfl⟩ rfl dL_law_462 rfl rfl ?_
        intro q57
        refine j_aload_n 466 2 dL_law_465 rfl rfl rfl ?_
        refine j_aload_n 467 0 dL_law_466 rfl rfl rfl ?_
        refine j_iload_n 468 3 dL_law_467 rfl rfl rfl ?_
        refine j_iconst (v := 1) 469 dL_law_468 rfl ic_1 ?_
        refine j_iadd 470 dL_law_469 rfl ?_
        refine j_sI 471 (lwX G b L xs nm) dL_law_470 rfl ?_
        intro v58
        refine j_aload_n 472 0 dL_law_471 rfl rfl rfl ?_
        refine j_iload_n 473 3 dL_law_472 rfl rfl rfl ?_
        refine j_iconst (v := 2) 474 dL_law_473 rfl ic_2 ?_
        refine j_iadd 475 dL_law_474 rfl ?_
        refine j_sI 476 (lwX G b L xs nm) dL_law_475 rfl ?_
        intro v59
        refine j_callV_iw (ci := 6) (As := [.int v58, .int v59]) (st := [.int q57.1]) 479 (okX7_end G q57.2 l2 v58 v59) kc_X7_end kl_L_49 ki_X7_end kv_X7_end kh_X7 (by decide) (fun _ h => rvX7_end h) ⟨rfl, rfl, Nat.le_of_ble_eq_true rfl, Nat.le_of_ble_eq_true rfl⟩ (Nat.le_of_ble_eq_true rfl) ⟨Nat.le_of_ble_eq_true rfl, Nat.le_of_ble_eq_true rfl⟩ rfl dL_law_476 rfl rfl ?_
        intro q60
        refine j_icmp_eq 1539 482 dL_law_479 (by decide) rfl ?_ ?_
        · refine j_iinc 1542 3 [(3, .int (l3 + 7)), (0, .ref b), (1, .ref l1), (2, .ref l2)] dL_law_1539 rfl rfl (ii_7 _) (by decide) rfl ?_
          refine j_goto 18 dL_law_1542 (by decide) ?_
          refine j_sub [1, 2, 3, 0] rfl ?_
          exact ih l1 l2 (l3 + 7) q60.2
        · refine j_iconst (v := 0) 483 dL_law_482 rfl ic_0 ?_
          exact j_none
      refine j_ite (fun h68 => ?_) (fun h68 => ?_)
      · refine j_tinE (w := 8) 484 dL_law_33 h68 (by decide) (by decide) rfl (by decide) ?_
        refine j_aload_n 485 1 dL_law_484 rfl rfl rfl ?_
        refine j_aload_n 486 0 dL_law_485 rfl rfl rfl ?_
        refine j_iload_n 487 3 dL_law_486 rfl rfl rfl ?_
        refine j_iconst (v := 1) 488 dL_law_487 rfl ic_1 ?_
        refine j_iadd 489 dL_law_488 rfl ?_
        refine j_sI 490 (lwX G b L xs nm) dL_law_489 rfl ?_
        intro v62
        refine j_aload_n 491 0 dL_law_490 rfl rfl rfl ?_
        refine j_iload_n 492 3 dL_law_491 rfl rfl rfl ?_
        refine j_iconst (v := 2) 493 dL_law_492 rfl ic_2 ?_
        refine j_iadd 494 dL_law_493 rfl ?_
        refine j_sI 495 (lwX G b L xs nm) dL_law_494 rfl ?_
        intro v63
        refine j_callV_iw (ci := 5) (As := [.int v62, .int v63]) (st := []) 498 (okX6_rule G x l1 v62 v63) kc_X6_rule kl_L_50 ki_X6_rule kv_X6_rule kh_X6 (by decide) (fun _ h => rvX6_rule h) ⟨rfl, rfl, Nat.le_of_ble_eq_true rfl, Nat.le_of_ble_eq_true rfl⟩ (Nat.le_of_ble_eq_true rfl) ⟨Nat.le_of_ble_eq_true rfl, Nat.le_of_ble_eq_true rfl⟩ rfl dL_law_495 rfl rfl ?_
        intro q64
        refine j_aload_n 499 2 dL_law_498 rfl rfl rfl ?_
        refine j_aload_n 500 0 dL_law_499 rfl rfl rfl ?_
        refine j_iload_n 501 3 dL_law_500 rfl rfl rfl ?_
        refine j_iconst (v := 1) 502 dL_law_501 rfl ic_1 ?_
        refine j_iadd 503 dL_law_502 rfl ?_
        refine j_sI 504 (lwX G b L xs nm) dL_law_503 rfl ?_
        intro v65
        refine j_aload_n 505 0 dL_law_504 rfl rfl rfl ?_
        refine j_iload_n 506 3 dL_law_505 rfl rfl rfl ?_
        refine j_iconst (v := 2) 507 dL_law_506 rfl ic_2 ?_
        refine j_iadd 508 dL_law_507 rfl ?_
        refine j_sI 509 (lwX G b L xs nm) dL_law_508 rfl ?_
        intro v66
        refine j_callV_iw (ci := 6) (As := [.int v65, .int v66]) (st := [.int q64.1]) 512 (okX7_rule G q64.2 l2 v65 v66) kc_X7_rule kl_L_53 ki_X7_rule kv_X7_rule kh_X7 (by decide) (fun _ h => rvX7_rule h) ⟨rfl, rfl, Nat.le_of_ble_eq_true rfl, Nat.le_of_ble_eq_true rfl⟩ (Nat.le_of_ble_eq_true rfl) ⟨Nat.le_of_ble_eq_true rfl, Nat.le_of_ble_eq_true rfl⟩ rfl dL_law_509 rfl rfl ?_
        intro q67
        refine j_icmp_eq 1539 515 dL_law_512 (by decide) rfl ?_ ?_
        · refine j_iinc 1542 3 [(3, .int (l3 + 7)), (0, .ref b), (1, .ref l1), (2, .ref l2)] dL_law_1539 rfl rfl (ii_7 _) (by decide) rfl ?_
          refine j_goto 18 dL_law_1542 (by decide) ?_
          refine j_sub [1, 2, 3, 0] rfl ?_
          exact ih l1 l2 (l3 + 7) q67.2
        · refine j_iconst (v := 0) 516 dL_law_515 rfl ic_0 ?_
          exact j_none
      refine j_ite (fun h75 => ?_) (fun h75 => ?_)
      · refine j_tinE (w := 9) 517 dL_law_33 h75 (by decide) (by decide) rfl (by decide) ?_
        refine j_aload_n 518 1 dL_law_517 rfl rfl rfl ?_
        refine j_aload_n 519 0 dL_law_518 rfl rfl rfl ?_
        refine j_iload_n 520 3 dL_law_519 rfl rfl rfl ?_
        refine j_iconst (v := 1) 521 dL_law_520 rfl ic_1 ?_
        refine j_iadd 522 dL_law_521 rfl ?_
        refine j_sI 523 (lwX G b L xs nm) dL_law_522 rfl ?_
        intro v69
        refine j_aload_n 524 0 dL_law_523 rfl rfl rfl ?_
        refine j_iload_n 525 3 dL_law_524 rfl rfl rfl ?_
        refine j_iconst (v := 2) 526 dL_law_525 rfl ic_2 ?_
        refine j_iadd 527 dL_law_526 rfl ?_
        refine j_sI 528 (lwX G b L xs nm) dL_law_527 rfl ?_
        intro v70
        refine j_callV_l (ci := 5) (As := [.int v69, .int v70]) (st := []) 531 (okX6_t G x l1 v69 v70) kc_X6_t kl_L_54 ki_X6_t kv_X6_t kh_X6 (by decide) (fun _ h => rvX6_t h) ⟨rfl, rfl, Nat.le_of_ble_eq_true rfl, Nat.le_of_ble_eq_true rfl⟩ (Nat.le_of_ble_eq_true rfl) ⟨Nat.le_of_ble_eq_true rfl, Nat.le_of_ble_eq_true rfl⟩ rfl dL_law_528 rfl rfl ?_
        intro v71
        refine j_aload_n 532 2 dL_law_531 rfl rfl rfl ?_
        refine j_aload_n 533 0 dL_law_532 rfl rfl rfl ?_
        refine j_iload_n 534 3 dL_law_533 rfl rfl rfl ?_
        refine j_iconst (v := 1) 535 dL_law_534 rfl ic_1 ?_
        refine j_iadd 536 dL_law_535 rfl ?_
        refine j_sI 537 (lwX G b L xs nm) dL_law_536 rfl ?_
        intro v72
        refine j_aload_n 538 0 dL_law_537 rfl rfl rfl ?_
        refine j_iload_n 539 3 dL_law_538 rfl rfl rfl ?_
        refine j_iconst (v := 2) 540 dL_law_539 rfl ic_2 ?_
        refine j_iadd 541 dL_law_540 rfl ?_
        refine j_sI 542 (lwX G b L xs nm) dL_law_541 rfl ?_
        intro v73
        refine j_callV_l (ci := 6) (As := [.int v72, .int v73]) (st := [.long v71]) 545 (okX7_t G x l2 v72 v73) kc_X7_t kl_L_58 ki_X7_t kv_X7_t kh_X7 (by decide) (fun _ h => rvX7_t h) ⟨rfl, rfl, Nat.le_of_ble_eq_true rfl, Nat.le_of_ble_eq_true rfl⟩ (Nat.le_of_ble_eq_true rfl) ⟨Nat.le_of_ble_eq_true rfl, Nat.le_of_ble_eq_true rfl⟩ rfl dL_law_542 rfl rfl ?_
        intro v74
        refine j_lcmp_eq 546 1539 549 dL_law_545 rfl dL_law_546 (by decide) rfl ?_ ?_
        · refine j_iinc 1542 3 [(3, .int (l3 + 7)), (0, .ref b), (1, .ref l1), (2, .ref l2)] dL_law_1539 rfl rfl (ii_7 _) (by decide) rfl ?_
          refine j_goto 18 dL_law_1542 (by decide) ?_
          refine j_sub [1, 2, 3, 0] rfl ?_
          exact ih l1 l2 (l3 + 7) x
        · refine j_iconst (v := 0) 550 dL_law_549 rfl ic_0 ?_
          exact j_none
      refine j_ite (fun h78 => ?_) (fun h78 => ?_)
      · refine j_tinE (w := 10) 551 dL_law_33 h78 (by decide) (by decide) rfl (by decide) ?_
        refine j_aload_n 552 1 dL_law_551 rfl rfl rfl ?_
        refine j_callV_l (ci := 5) (As := []) (st := []) 555 (okX6_line G x l1) kc_X6_line kl_L_59 ki_X6_line kv_X6_line kh_X6 (by decide) (fun _ h => rvX6_line h) ⟨rfl, rfl, Nat.le_of_ble_eq_true rfl, Nat.le_of_ble_eq_true rfl⟩ (Nat.le_of_ble_eq_true rfl) ⟨Nat.le_of_ble_eq_true rfl, Nat.le_of_ble_eq_true rfl⟩ rfl dL_law_552 rfl rfl ?_
        intro v76
        refine j_aload_n 556 2 dL_law_555 rfl rfl rfl ?_
        refine j_callV_l (ci := 6) (As := []) (st := [.long v76]) 559 (okX7_line G x l2) kc_X7_line kl_L_63 ki_X7_line kv_X7_line kh_X7 (by decide) (fun _ h => rvX7_line h) ⟨rfl, rfl, Nat.le_of_ble_eq_true rfl, Nat.le_of_ble_eq_true rfl⟩ (Nat.le_of_ble_eq_true rfl) ⟨Nat.le_of_ble_eq_true rfl, Nat.le_of_ble_eq_true rfl⟩ rfl dL_law_556 rfl rfl ?_
        intro v77
        refine j_lcmp_eq 560 1539 563 dL_law_559 rfl dL_law_560 (by decide) rfl ?_ ?_
        · refine j_iinc 1542 3 [(3, .int (l3 + 7)), (0, .ref b), (1, .ref l1), (2, .ref l2)] dL_law_1539 rfl rfl (ii_7 _) (by decide) rfl ?_
          refine j_goto 18 dL_law_1542 (by decide) ?_
          refine j_sub [1, 2, 3, 0] rfl ?_
          exact ih l1 l2 (l3 + 7) x
        · refine j_iconst (v := 0) 564 dL_law_563 rfl ic_0 ?_
          exact j_none
      refine j_ite (fun h83 => ?_) (fun h83 => ?_)
      · refine j_tinE (w := 11) 565 dL_law_33 h83 (by decide) (by decide) rfl (by decide) ?_
        refine j_aload_n 566 1 dL_law_565 rfl rfl rfl ?_
        refine j_aload_n 567 0 dL_law_566 rfl rfl rfl ?_
        refine j_iload_n 568 3 dL_law_567 rfl rfl rfl ?_
        refine j_iconst (v := 1) 569 dL_law_568 rfl ic_1 ?_
        refine j_iadd 570 dL_law_569 rfl ?_
        refine j_sI 571 (lwX G b L xs nm) dL_law_570 rfl ?_
        intro v79
        refine j_callV_i (ci := 5) (As := [.int v79]) (st := []) 574 (okX6_joint G x l1 v79) kc_X6_joint kl_L_64 ki_X6_joint kv_X6_joint kh_X6 (by decide) (fun _ h => rvX6_joint h) ⟨rfl, rfl, Nat.le_of_ble_eq_true rfl, Nat.le_of_ble_eq_true rfl⟩ (Nat.le_of_ble_eq_true rfl) ⟨Nat.le_of_ble_eq_true rfl, Nat.le_of_ble_eq_true rfl⟩ rfl dL_law_571 rfl rfl ?_
        intro v80
        refine j_aload_n 575 2 dL_law_574 rfl rfl rfl ?_
        refine j_aload_n 576 0 dL_law_575 rfl rfl rfl ?_
        refine j_iload_n 577 3 dL_law_576 rfl rfl rfl ?_
        refine j_iconst (v := 1) 578 dL_law_577 rfl ic_1 ?_
        refine j_iadd 579 dL_law_578 rfl ?_
        refine j_sI 580 (lwX G b L xs nm) dL_law_579 rfl ?_
        intro v81
        refine j_callV_i (ci := 6) (As := [.int v81]) (st := [.int v80]) 583 (okX7_joint G x l2 v81) kc_X7_joint kl_L_67 ki_X7_joint kv_X7_joint kh_X7 (by decide) (fun _ h => rvX7_joint h) ⟨rfl, rfl, Nat.le_of_ble_eq_true rfl, Nat.le_of_ble_eq_true rfl⟩ (Nat.le_of_ble_eq_true rfl) ⟨Nat.le_of_ble_eq_true rfl, Nat.le_of_ble_eq_true rfl⟩ rfl dL_law_580 rfl rfl ?_
        intro v82
        refine j_icmp_eq 1539 586 dL_law_583 (by decide) rfl ?_ ?_
        · refine j_iinc 1542 3 [(3, .int (l3 + 7)), (0, .ref b), (1, .ref l1), (2, .ref l2)] dL_law_1539 rfl rfl (ii_7 _) (by decide) rfl ?_
          refine j_goto 18 dL_law_1542 (by decide) ?_
          refine j_sub [1, 2, 3, 0] rfl ?_
          exact ih l1 l2 (l3 + 7) x
        · refine j_iconst (v := 0) 587 dL_law_586 rfl ic_0 ?_
          exact j_none
      refine j_ite (fun h90 => ?_) (fun h90 => ?_)
      · refine j_tinE (w := 12) 588 dL_law_33 h90 (by decide) (by decide) rfl (by decide) ?_
        refine j_aload_n 589 1 dL_law_588 rfl rfl rfl ?_
        refine j_aload_n 590 0 dL_law_589 rfl rfl rfl ?_
        refine j_iload_n 591 3 dL_law_590 rfl rfl rfl ?_
        refine j_iconst (v := 1) 592 dL_law_591 rfl ic_1 ?_
        refine j_iadd 593 dL_law_592 rfl ?_
        refine j_sI 594 (lwX G b L xs nm) dL_law_593 rfl ?_
        intro v84
        refine j_aload_n 595 0 dL_law_594 rfl rfl rfl ?_
        refine j_iload_n 596 3 dL_law_595 rfl rfl rfl ?_
        refine j_iconst (v := 2) 597 dL_law_596 rfl ic_2 ?_
        refine j_iadd 598 dL_law_597 rfl ?_
        refine j_sI 599 (lwX G b L xs nm) dL_law_598 rfl ?_
        intro v85
        refine j_callV_l (ci := 5) (As := [.int v84, .int v85]) (st := []) 602 (okX6_flow G x l1 v84 v85) kc_X6_flow kl_L_68 ki_X6_flow kv_X6_flow kh_X6 (by decide) (fun _ h => rvX6_flow h) ⟨rfl, rfl, Nat.le_of_ble_eq_true rfl, Nat.le_of_ble_eq_true rfl⟩ (Nat.le_of_ble_eq_true rfl) ⟨Nat.le_of_ble_eq_true rfl, Nat.le_of_ble_eq_true rfl⟩ rfl dL_law_599 rfl rfl ?_
        intro v86
        refine j_aload_n 603 2 dL_law_602 rfl rfl rfl ?_
        refine j_aload_n 604 0 dL_law_603 rfl rfl rfl ?_
        refine j_iload_n 605 3 dL_law_604 rfl rfl rfl ?_
        refine j_iconst (v := 1) 606 dL_law_605 rfl ic_1 ?_
        refine j_iadd 607 dL_law_606 rfl ?_
        refine j_sI 608 (lwX G b L xs nm) dL_law_607 rfl ?_
        intro v87
        refine j_aload_n 609 0 dL_law_608 rfl rfl rfl ?_
        refine j_iload_n 610 3 dL_law_609 rfl rfl rfl ?_
        refine j_iconst (v := 2) 611 dL_law_610 rfl ic_2 ?_
        refine j_iadd 612 dL_law_611 rfl ?_
        refine j_sI 613 (lwX G b L xs nm) dL_law_612 rfl ?_
        intro v88
        refine j_callV_lw (ci := 6) (As := [.int v87, .int v88]) (st := [.long v86]) 616 (okX7_flow G x l2 v87 v88) kc_X7_flow kl_L_71 ki_X7_flow kv_X7_flow kh_X7 (by decide) (fun _ h => rvX7_flow h) ⟨rfl, rfl, Nat.le_of_ble_eq_true rfl, Nat.le_of_ble_eq_true rfl⟩ (Nat.le_of_ble_eq_true rfl) ⟨Nat.le_of_ble_eq_true rfl, Nat.le_of_ble_eq_true rfl⟩ rfl dL_law_613 rfl rfl ?_
        intro q89
        refine j_lcmp_eq 617 1539 620 dL_law_616 rfl dL_law_617 (by decide) rfl ?_ ?_
        · refine j_iinc 1542 3 [(3, .int (l3 + 7)), (0, .ref b), (1, .ref l1), (2, .ref l2)] dL_law_1539 rfl rfl (ii_7 _) (by decide) rfl ?_
          refine j_goto 18 dL_law_1542 (by decide) ?_
          refine j_sub [1, 2, 3, 0] rfl ?_
          exact ih l1 l2 (l3 + 7) q89.2
        · refine j_iconst (v := 0) 621 dL_law_620 rfl ic_0 ?_
          exact j_none
      refine j_ite (fun h95 => ?_) (fun h95 => ?_)
      · refine j_tinE (w := 13) 622 dL_law_33 h95 (by decide) (by decide) rfl (by decide) ?_
        refine j_aload_n 623 1 dL_law_622 rfl rfl rfl ?_
        refine j_aload_n 624 0 dL_law_623 rfl rfl rfl ?_
        refine j_iload_n 625 3 dL_law_624 rfl rfl rfl ?_
        refine j_iconst (v := 1) 626 dL_law_625 rfl ic_1 ?_
        refine j_iadd 627 dL_law_626 rfl ?_
        refine j_sI 628 (lwX G b L xs nm) dL_law_627 rfl ?_
        intro v91
        refine j_callV_i (ci := 5) (As := [.int v91]) (st := []) 631 (okX6_stable G x l1 v91) kc_X6_stable kl_L_72 ki_X6_stable kv_X6_stable kh_X6 (by decide) (fun _ h => rvX6_stable h) ⟨rfl, rfl, Nat.le_of_ble_eq_true rfl, Nat.le_of_ble_eq_true rfl⟩ (Nat.le_of_ble_eq_true rfl) ⟨Nat.le_of_ble_eq_true rfl, Nat.le_of_ble_eq_true rfl⟩ rfl dL_law_628 rfl rfl ?_
        intro v92
        refine j_aload_n 632 2 dL_law_631 rfl rfl rfl ?_
        refine j_aload_n 633 0 dL_law_632 rfl rfl rfl ?_
        refine j_iload_n 634 3 dL_law_633 rfl rfl rfl ?_
        refine j_iconst (v := 1) 635 dL_law_634 rfl ic_1 ?_
        refine j_iadd 636 dL_law_635 rfl ?_
        refine j_sI 637 (lwX G b L xs nm) dL_law_636 rfl ?_
        intro v93
        refine j_callV_i (ci := 6) (As := [.int v93]) (st := [.int v92]) 640 (okX7_stable G x l2 v93) kc_X7_stable kl_L_75 ki_X7_stable kv_X7_stable kh_X7 (by decide) (fun _ h => rvX7_stable h) ⟨rfl, rfl, Nat.le_of_ble_eq_true rfl, Nat.le_of_ble_eq_true rfl⟩ (Nat.le_of_ble_eq_true rfl) ⟨Nat.le_of_ble_eq_true rfl, Nat.le_of_ble_eq_true rfl⟩ rfl dL_law_637 rfl rfl ?_
        intro v94
        refine j_icmp_eq 1539 643 dL_law_640 (by decide) rfl ?_ ?_
        · refine j_iinc 1542 3 [(3, .int (l3 + 7)), (0, .ref b), (1, .ref l1), (2, .ref l2)] dL_law_1539 rfl rfl (ii_7 _) (by decide) rfl ?_
          refine j_goto 18 dL_law_1542 (by decide) ?_
          refine j_sub [1, 2, 3, 0] rfl ?_
          exact ih l1 l2 (l3 + 7) x
        · refine j_iconst (v := 0) 644 dL_law_643 rfl ic_0 ?_
          exact j_none
      refine j_ite (fun h98 => ?_) (fun h98 => ?_)
      · refine j_tinE (w := 14) 645 dL_law_33 h98 (by decide) (by decide) rfl (by decide) ?_
        refine j_aload_n 646 1 dL_law_645 rfl rfl rfl ?_
        refine j_callV_i (ci := 5) (As := []) (st := []) 649 (okX6_need G x l1) kc_X6_need kl_L_76 ki_X6_need kv_X6_need kh_X6 (by decide) (fun _ h => rvX6_need h) ⟨rfl, rfl, Nat.le_of_ble_eq_true rfl, Nat.le_of_ble_eq_true rfl⟩ (Nat.le_of_ble_eq_true rfl) ⟨Nat.le_of_ble_eq_true rfl, Nat.le_of_ble_eq_true rfl⟩ rfl dL_law_646 rfl rfl ?_
        intro v96
        refine j_aload_n 650 2 dL_law_649 rfl rfl rfl ?_
        refine j_callV_i (ci := 6) (As := []) (st := [.int v96]) 653 (okX7_need G x l2) kc_X7_need kl_L_79 ki_X7_need kv_X7_need kh_X7 (by decide) (fun _ h => rvX7_need h) ⟨rfl, rfl, Nat.le_of_ble_eq_true rfl, Nat.le_of_ble_eq_true rfl⟩ (Nat.le_of_ble_eq_true rfl) ⟨Nat.le_of_ble_eq_true rfl, Nat.le_of_ble_eq_true rfl⟩ rfl dL_law_650 rfl rfl ?_
        intro v97
        refine j_icmp_eq 1539 656 dL_law_653 (by decide) rfl ?_ ?_
        · refine j_iinc 1542 3 [(3, .int (l3 + 7)), (0, .ref b), (1, .ref l1), (2, .ref l2)] dL_law_1539 rfl rfl (ii_7 _) (by decide) rfl ?_
          refine j_goto 18 dL_law_1542 (by decide) ?_
          refine j_sub [1, 2, 3, 0] rfl ?_
          exact ih l1 l2 (l3 + 7) x
        · refine j_iconst (v := 0) 657 dL_law_656 rfl ic_0 ?_
          exact j_none
      refine j_ite (fun h103 => ?_) (fun h103 => ?_)
      · refine j_tinE (w := 15) 658 dL_law_33 h103 (by decide) (by decide) rfl (by decide) ?_
        refine j_aload_n 659 1 dL_law_658 rfl rfl rfl ?_
        refine j_aload_n 660 0 dL_law_659 rfl rfl rfl ?_
        refine j_iload_n 661 3 dL_law_660 rfl rfl rfl ?_
        refine j_iconst (v := 1) 662 dL_law_661 rfl ic_1 ?_
        refine j_iadd 663 dL_law_662 rfl ?_
        refine j_sI 664 (lwX G b L xs nm) dL_law_663 rfl ?_
        intro v99
        refine j_callV_l (ci := 5) (As := [.int v99]) (st := []) 667 (okX6_sum G x l1 v99) kc_X6_sum kl_L_80 ki_X6_sum kv_X6_sum kh_X6 (by decide) (fun _ h => rvX6_sum h) ⟨rfl, rfl, Nat.le_of_ble_eq_true rfl, Nat.le_of_ble_eq_true rfl⟩ (Nat.le_of_ble_eq_true rfl) ⟨Nat.le_of_ble_eq_true rfl, Nat.le_of_ble_eq_true rfl⟩ rfl dL_law_664 rfl rfl ?_
        intro v100
        refine j_aload_n 668 2 dL_law_667 rfl rfl rfl ?_
        refine j_aload_n 669 0 dL_law_668 rfl rfl rfl ?_
        refine j_iload_n 670 3 dL_law_669 rfl rfl rfl ?_
        refine j_iconst (v := 1) 671 dL_law_670 rfl ic_1 ?_
        refine j_iadd 672 dL_law_671 rfl ?_
        refine j_sI 673 (lwX G b L xs nm) dL_law_672 rfl ?_
        intro v101
        refine j_callV_l (ci := 6) (As := [.int v101]) (st := [.long v100]) 676 (okX7_sum G x l2 v101) kc_X7_sum kl_L_84 ki_X7_sum kv_X7_sum kh_X7 (by decide) (fun _ h => rvX7_sum h) ⟨rfl, rfl, Nat.le_of_ble_eq_true rfl, Nat.le_of_ble_eq_true rfl⟩ (Nat.le_of_ble_eq_true rfl) ⟨Nat.le_of_ble_eq_true rfl, Nat.le_of_ble_eq_true rfl⟩ rfl dL_law_673 rfl rfl ?_
        intro v102
        refine j_lcmp_eq 677 1539 680 dL_law_676 rfl dL_law_677 (by decide) rfl ?_ ?_
        · refine j_iinc 1542 3 [(3, .int (l3 + 7)), (0, .ref b), (1, .ref l1), (2, .ref l2)] dL_law_1539 rfl rfl (ii_7 _) (by decide) rfl ?_
          refine j_goto 18 dL_law_1542 (by decide) ?_
          refine j_sub [1, 2, 3, 0] rfl ?_
          exact ih l1 l2 (l3 + 7) x
        · refine j_iconst (v := 0) 681 dL_law_680 rfl ic_0 ?_
          exact j_none
      refine j_ite (fun h108 => ?_) (fun h108 => ?_)
      · refine j_tinE (w := 16) 682 dL_law_33 h108 (by decide) (by decide) rfl (by decide) ?_
        refine j_aload_n 683 1 dL_law_682 rfl rfl rfl ?_
        refine j_aload_n 684 0 dL_law_683 rfl rfl rfl ?_
        refine j_iload_n 685 3 dL_law_684 rfl rfl rfl ?_
        refine j_iconst (v := 1) 686 dL_law_685 rfl ic_1 ?_
        refine j_iadd 687 dL_law_686 rfl ?_
        refine j_sI 688 (lwX G b L xs nm) dL_law_687 rfl ?_
        intro v104
        refine j_callV_i (ci := 5) (As := [.int v104]) (st := []) 691 (okX6_most G x l1 v104) kc_X6_most kl_L_85 ki_X6_most kv_X6_most kh_X6 (by decide) (fun _ h => rvX6_most h) ⟨rfl, rfl, Nat.le_of_ble_eq_true rfl, Nat.le_of_ble_eq_true rfl⟩ (Nat.le_of_ble_eq_true rfl) ⟨Nat.le_of_ble_eq_true rfl, Nat.le_of_ble_eq_true rfl⟩ rfl dL_law_688 rfl rfl ?_
        intro v105
        refine j_aload_n 692 2 dL_law_691 rfl rfl rfl ?_
        refine j_aload_n 693 0 dL_law_692 rfl rfl rfl ?_
        refine j_iload_n 694 3 dL_law_693 rfl rfl rfl ?_
        refine j_iconst (v := 1) 695 dL_law_694 rfl ic_1 ?_
        refine j_iadd 696 dL_law_695 rfl ?_
        refine j_sI 697 (lwX G b L xs nm) dL_law_696 rfl ?_
        intro v106
        refine j_callV_i (ci := 6) (As := [.int v106]) (st := [.int v105]) 700 (okX7_most G x l2 v106) kc_X7_most kl_L_88 ki_X7_most kv_X7_most kh_X7 (by decide) (fun _ h => rvX7_most h) ⟨rfl, rfl, Nat.le_of_ble_eq_true rfl, Nat.le_of_ble_eq_true rfl⟩ (Nat.le_of_ble_eq_true rfl) ⟨Nat.le_of_ble_eq_true rfl, Nat.le_of_ble_eq_true rfl⟩ rfl dL_law_697 rfl rfl ?_
        intro v107
        refine j_icmp_eq 1539 703 dL_law_700 (by decide) rfl ?_ ?_
        · refine j_iinc 1542 3 [(3, .int (l3 + 7)), (0, .ref b), (1, .ref l1), (2, .ref l2)] dL_law_1539 rfl rfl (ii_7 _) (by decide) rfl ?_
          refine j_goto 18 dL_law_1542 (by decide) ?_
          refine j_sub [1, 2, 3, 0] rfl ?_
          exact ih l1 l2 (l3 + 7) x
        · refine j_iconst (v := 0) 704 dL_law_703 rfl ic_0 ?_
          exact j_none
      refine j_ite (fun h113 => ?_) (fun h113 => ?_)
      · refine j_tinE (w := 17) 705 dL_law_33 h113 (by decide) (by decide) rfl (by decide) ?_
        refine j_aload_n 706 1 dL_law_705 rfl rfl rfl ?_
        refine j_aload_n 707 0 dL_law_706 rfl rfl rfl ?_
        refine j_iload_n 708 3 dL_law_707 rfl rfl rfl ?_
        refine j_iconst (v := 1) 709 dL_law_708 rfl ic_1 ?_
        refine j_iadd 710 dL_law_709 rfl ?_
        refine j_sI 711 (lwX G b L xs nm) dL_law_710 rfl ?_
        intro v109
        refine j_callV_iw (ci := 5) (As := [.int v109]) (st := []) 714 (okX6_step G x l1 v109) kc_X6_step kl_L_89 ki_X6_step kv_X6_step kh_X6 (by decide) (fun _ h => rvX6_step h) ⟨rfl, rfl, Nat.le_of_ble_eq_true rfl, Nat.le_of_ble_eq_true rfl⟩ (Nat.le_of_ble_eq_true rfl) ⟨Nat.le_of_ble_eq_true rfl, Nat.le_of_ble_eq_true rfl⟩ rfl dL_law_711 rfl rfl ?_
        intro q110
        refine j_aload_n 715 2 dL_law_714 rfl rfl rfl ?_
        refine j_aload_n 716 0 dL_law_715 rfl rfl rfl ?_
        refine j_iload_n 717 3 dL_law_716 rfl rfl rfl ?_
        refine j_iconst (v := 1) 718 dL_law_717 rfl ic_1 ?_
        refine j_iadd 719 dL_law_718 rfl ?_
        refine j_sI 720 (lwX G b L xs nm) dL_law_719 rfl ?_
        intro v111
        refine j_callV_iw (ci := 6) (As := [.int v111]) (st := [.int q110.1]) 723 (okX7_step G q110.2 l2 v111) kc_X7_step kl_L_92 ki_X7_step kv_X7_step kh_X7 (by decide) (fun _ h => rvX7_step h) ⟨rfl, rfl, Nat.le_of_ble_eq_true rfl, Nat.le_of_ble_eq_true rfl⟩ (Nat.le_of_ble_eq_true rfl) ⟨Nat.le_of_ble_eq_true rfl, Nat.le_of_ble_eq_true rfl⟩ rfl dL_law_720 rfl rfl ?_
        intro q112
        refine j_icmp_eq 1539 726 dL_law_723 (by decide) rfl ?_ ?_
        · refine j_iinc 1542 3 [(3, .int (l3 + 7)), (0, .ref b), (1, .ref l1), (2, .ref l2)] dL_law_1539 rfl rfl (ii_7 _) (by decide) rfl ?_
          refine j_goto 18 dL_law_1542 (by decide) ?_
          refine j_sub [1, 2, 3, 0] rfl ?_
          exact ih l1 l2 (l3 + 7) q112.2
        · refine j_iconst (v := 0) 727 dL_law_726 rfl ic_0 ?_
          exact j_none
      refine j_ite (fun h122 => ?_) (fun h122 => ?_)
      · refine j_tinE (w := 18) 728 dL_law_33 h122 (by decide) (by decide) rfl (by decide) ?_
        refine j_aload_n 729 1 dL_law_728 rfl rfl rfl ?_
        refine j_aload_n 730 0 dL_law_729 rfl rfl rfl ?_
        refine j_iload_n 731 3 dL_law_730 rfl rfl rfl ?_
        refine j_iconst (v := 1) 732 dL_law_731 rfl ic_1 ?_
        refine j_iadd 733 dL_law_732 rfl ?_
        refine j_sI 734 (lwX G b L xs nm) dL_law_733 rfl ?_
        intro v114
        refine j_aload_n 735 0 dL_law_734 rfl rfl rfl ?_
        refine j_iload_n 736 3 dL_law_735 rfl rfl rfl ?_
        refine j_iconst (v := 2) 737 dL_law_736 rfl ic_2 ?_
        refine j_iadd 738 dL_law_737 rfl ?_
        refine j_sI 739 (lwX G b L xs nm) dL_law_738 rfl ?_
        intro v115
        refine j_aload_n 740 0 dL_law_739 rfl rfl rfl ?_
        refine j_iload_n 741 3 dL_law_740 rfl rfl rfl ?_
        refine j_iconst (v := 3) 742 dL_law_741 rfl ic_3 ?_
        refine j_iadd 743 dL_law_742 rfl ?_
        refine j_sI 744 (lwX G b L xs nm) dL_law_743 rfl ?_
        intro v116
        refine j_callV_lw (ci := 5) (As := [.int v114, .int v115, .int v116]) (st := []) 747 (okX6_then G x l1 v114 v115 v116) kc_X6_then kl_L_93 ki_X6_then kv_X6_then kh_X6 (by decide) (fun _ h => rvX6_then h) ⟨rfl, rfl, Nat.le_of_ble_eq_true rfl, Nat.le_of_ble_eq_true rfl⟩ (Nat.le_of_ble_eq_true rfl) ⟨Nat.le_of_ble_eq_true rfl, Nat.le_of_ble_eq_true rfl⟩ rfl dL_law_744 rfl rfl ?_
        intro q117
        refine j_aload_n 748 2 dL_law_747 rfl rfl rfl ?_
        refine j_aload_n 749 0 dL_law_748 rfl rfl rfl ?_
        refine j_iload_n 750 3 dL_law_749 rfl rfl rfl ?_
        refine j_iconst (v := 1) 751 dL_law_750 rfl ic_1 ?_
        refine j_iadd 752 dL_law_751 rfl ?_
        refine j_sI 753 (lwX G b L xs nm) dL_law_752 rfl ?_
        intro v118
        refine j_aload_n 754 0 dL_law_753 rfl rfl rfl ?_
        refine j_iload_n 755 3 dL_law_754 rfl rfl rfl ?_
        refine j_iconst (v := 2) 756 dL_law_755 rfl ic_2 ?_
        refine j_iadd 757 dL_law_756 rfl ?_
        refine j_sI 758 (lwX G b L xs nm) dL_law_757 rfl ?_
        intro v119
        refine j_aload_n 759 0 dL_law_758 rfl rfl rfl ?_
        refine j_iload_n 760 3 dL_law_759 rfl rfl rfl ?_
        refine j_iconst (v := 3) 761 dL_law_760 rfl ic_3 ?_
        refine j_iadd 762 dL_law_761 rfl ?_
        refine j_sI 763 (lwX G b L xs nm) dL_law_762 rfl ?_
        intro v120
        refine j_callV_lw (ci := 6) (As := [.int v118, .int v119, .int v120]) (st := [.long q117.1]) 766 (okX7_then G q117.2 l2 v118 v119 v120) kc_X7_then kl_L_97 ki_X7_then kv_X7_then kh_X7 (by decide) (fun _ h => rvX7_then h) ⟨rfl, rfl, Nat.le_of_ble_eq_true rfl, Nat.le_of_ble_eq_true rfl⟩ (Nat.le_of_ble_eq_true rfl) ⟨Nat.le_of_ble_eq_true rfl, Nat.le_of_ble_eq_true rfl⟩ rfl dL_law_763 rfl rfl ?_
        intro q121
        refine j_lcmp_eq 767 1539 770 dL_law_766 rfl dL_law_767 (by decide) rfl ?_ ?_
        · refine j_iinc 1542 3 [(3, .int (l3 + 7)), (0, .ref b), (1, .ref l1), (2, .ref l2)] dL_law_1539 rfl rfl (ii_7 _) (by decide) rfl ?_
          refine j_goto 18 dL_law_1542 (by decide) ?_
          refine j_sub [1, 2, 3, 0] rfl ?_
          exact ih l1 l2 (l3 + 7) q121.2
        · refine j_iconst (v := 0) 771 dL_law_770 rfl ic_0 ?_
          exact j_none
      refine j_ite (fun h127 => ?_) (fun h127 => ?_)
      · refine j_tinE (w := 19) 772 dL_law_33 h127 (by decide) (by decide) rfl (by decide) ?_
        refine j_aload_n 773 1 dL_law_772 rfl rfl rfl ?_
        refine j_aload_n 774 0 dL_law_773 rfl rfl rfl ?_
        refine j_iload_n 775 3 dL_law_774 rfl rfl rfl ?_
        refine j_iconst (v := 1) 776 dL_law_775 rfl ic_1 ?_
        refine j_iadd 777 dL_law_776 rfl ?_
        refine j_sI 778 (lwX G b L xs nm) dL_law_777 rfl ?_
        intro v123
        refine j_callV_iw (ci := 5) (As := [.int v123]) (st := []) 781 (okX6_spent G x l1 v123) kc_X6_spent kl_L_98 ki_X6_spent kv_X6_spent kh_X6 (by decide) (fun _ h => rvX6_spent h) ⟨rfl, rfl, Nat.le_of_ble_eq_true rfl, Nat.le_of_ble_eq_true rfl⟩ (Nat.le_of_ble_eq_true rfl) ⟨Nat.le_of_ble_eq_true rfl, Nat.le_of_ble_eq_true rfl⟩ rfl dL_law_778 rfl rfl ?_
        intro q124
        refine j_aload_n 782 2 dL_law_781 rfl rfl rfl ?_
        refine j_aload_n 783 0 dL_law_782 rfl rfl rfl ?_
        refine j_iload_n 784 3 dL_law_783 rfl rfl rfl ?_
        refine j_iconst (v := 1) 785 dL_law_784 rfl ic_1 ?_
        refine j_iadd 786 dL_law_785 rfl ?_
        refine j_sI 787 (lwX G b L xs nm) dL_law_786 rfl ?_
        intro v125
        refine j_callV_iw (ci := 6) (As := [.int v125]) (st := [.int q124.1]) 790 (okX7_spent G q124.2 l2 v125) kc_X7_spent kl_L_101 ki_X7_spent kv_X7_spent kh_X7 (by decide) (fun _ h => rvX7_spent h) ⟨rfl, rfl, Nat.le_of_ble_eq_true rfl, Nat.le_of_ble_eq_true rfl⟩ (Nat.le_of_ble_eq_true rfl) ⟨Nat.le_of_ble_eq_true rfl, Nat.le_of_ble_eq_true rfl⟩ rfl dL_law_787 rfl rfl ?_
        intro q126
        refine j_icmp_eq 1539 793 dL_law_790 (by decide) rfl ?_ ?_
        · refine j_iinc 1542 3 [(3, .int (l3 + 7)), (0, .ref b), (1, .ref l1), (2, .ref l2)] dL_law_1539 rfl rfl (ii_7 _) (by decide) rfl ?_
          refine j_goto 18 dL_law_1542 (by decide) ?_
          refine j_sub [1, 2, 3, 0] rfl ?_
          exact ih l1 l2 (l3 + 7) q126.2
        · refine j_iconst (v := 0) 794 dL_law_793 rfl ic_0 ?_
          exact j_none
      refine j_ite (fun h132 => ?_) (fun h132 => ?_)
      · refine j_tinE (w := 20) 795 dL_law_33 h132 (by decide) (by decide) rfl (by decide) ?_
        refine j_aload_n 796 1 dL_law_795 rfl rfl rfl ?_
        refine j_aload_n 797 0 dL_law_796 rfl rfl rfl ?_
        refine j_iload_n 798 3 dL_law_797 rfl rfl rfl ?_
        refine j_iconst (v := 1) 799 dL_law_798 rfl ic_1 ?_
        refine j_iadd 800 dL_law_799 rfl ?_
        refine j_sI 801 (lwX G b L xs nm) dL_law_800 rfl ?_
        intro v128
        refine j_callV_iw (ci := 5) (As := [.int v128]) (st := []) 804 (okX6_rises G x l1 v128) kc_X6_rises kl_L_102 ki_X6_rises kv_X6_rises kh_X6 (by decide) (fun _ h => rvX6_rises h) ⟨rfl, rfl, Nat.le_of_ble_eq_true rfl, Nat.le_of_ble_eq_true rfl⟩ (Nat.le_of_ble_eq_true rfl) ⟨Nat.le_of_ble_eq_true rfl, Nat.le_of_ble_eq_true rfl⟩ rfl dL_law_801 rfl rfl ?_
        intro q129
        refine j_aload_n 805 2 dL_law_804 rfl rfl rfl ?_
        refine j_aload_n 806 0 dL_law_805 rfl rfl rfl ?_
        refine j_iload_n 807 3 dL_law_806 rfl rfl rfl ?_
        refine j_iconst (v := 1) 808 dL_law_807 rfl ic_1 ?_
        refine j_iadd 809 dL_law_808 rfl ?_
        refine j_sI 810 (lwX G b L xs nm) dL_law_809 rfl ?_
        intro v130
        refine j_callV_iw (ci := 6) (As := [.int v130]) (st := [.int q129.1]) 813 (okX7_rises G q129.2 l2 v130) kc_X7_rises kl_L_105 ki_X7_rises kv_X7_rises kh_X7 (by decide) (fun _ h => rvX7_rises h) ⟨rfl, rfl, Nat.le_of_ble_eq_true rfl, Nat.le_of_ble_eq_true rfl⟩ (Nat.le_of_ble_eq_true rfl) ⟨Nat.le_of_ble_eq_true rfl, Nat.le_of_ble_eq_true rfl⟩ rfl dL_law_810 rfl rfl ?_
        intro q131
        refine j_icmp_eq 1539 816 dL_law_813 (by decide) rfl ?_ ?_
        · refine j_iinc 1542 3 [(3, .int (l3 + 7)), (0, .ref b), (1, .ref l1), (2, .ref l2)] dL_law_1539 rfl rfl (ii_7 _) (by decide) rfl ?_
          refine j_goto 18 dL_law_1542 (by decide) ?_
          refine j_sub [1, 2, 3, 0] rfl ?_
          exact ih l1 l2 (l3 + 7) q131.2
        · refine j_iconst (v := 0) 817 dL_law_816 rfl ic_0 ?_
          exact j_none
      refine j_ite (fun h137 => ?_) (fun h137 => ?_)
      · refine j_tinE (w := 21) 818 dL_law_33 h137 (by decide) (by decide) rfl (by decide) ?_
        refine j_aload_n 819 1 dL_law_818 rfl rfl rfl ?_
        refine j_aload_n 820 0 dL_law_819 rfl rfl rfl ?_
        refine j_iload_n 821 3 dL_law_820 rfl rfl rfl ?_
        refine j_iconst (v := 1) 822 dL_law_821 rfl ic_1 ?_
        refine j_iadd 823 dL_law_822 rfl ?_
        refine j_sI 824 (lwX G b L xs nm) dL_law_823 rfl ?_
        intro v133
        refine j_callV_iw (ci := 5) (As := [.int v133]) (st := []) 827 (okX6_calm G x l1 v133) kc_X6_calm kl_L_106 ki_X6_calm kv_X6_calm kh_X6 (by decide) (fun _ h => rvX6_calm h) ⟨rfl, rfl, Nat.le_of_ble_eq_true rfl, Nat.le_of_ble_eq_true rfl⟩ (Nat.le_of_ble_eq_true rfl) ⟨Nat.le_of_ble_eq_true rfl, Nat.le_of_ble_eq_true rfl⟩ rfl dL_law_824 rfl rfl ?_
        intro q134
        refine j_aload_n 828 2 dL_law_827 rfl rfl rfl ?_
        refine j_aload_n 829 0 dL_law_828 rfl rfl rfl ?_
        refine j_iload_n 830 3 dL_law_829 rfl rfl rfl ?_
        refine j_iconst (v := 1) 831 dL_law_830 rfl ic_1 ?_
        refine j_iadd 832 dL_law_831 rfl ?_
        refine j_sI 833 (lwX G b L xs nm) dL_law_832 rfl ?_
        intro v135
        refine j_callV_iw (ci := 6) (As := [.int v135]) (st := [.int q134.1]) 836 (okX7_calm G q134.2 l2 v135) kc_X7_calm kl_L_109 ki_X7_calm kv_X7_calm kh_X7 (by decide) (fun _ h => rvX7_calm h) ⟨rfl, rfl, Nat.le_of_ble_eq_true rfl, Nat.le_of_ble_eq_true rfl⟩ (Nat.le_of_ble_eq_true rfl) ⟨Nat.le_of_ble_eq_true rfl, Nat.le_of_ble_eq_true rfl⟩ rfl dL_law_833 rfl rfl ?_
        intro q136
        refine j_icmp_eq 1539 839 dL_law_836 (by decide) rfl ?_ ?_
        · refine j_iinc 1542 3 [(3, .int (l3 + 7)), (0, .ref b), (1, .ref l1), (2, .ref l2)] dL_law_1539 rfl rfl (ii_7 _) (by decide) rfl ?_
          refine j_goto 18 dL_law_1542 (by decide) ?_
          refine j_sub [1, 2, 3, 0] rfl ?_
          exact ih l1 l2 (l3 + 7) q136.2
        · refine j_iconst (v := 0) 840 dL_law_839 rfl ic_0 ?_
          exact j_none
      refine j_ite (fun h146 => ?_) (fun h146 => ?_)
      · refine j_tinE (w := 22) 841 dL_law_33 h146 (by decide) (by decide) rfl (by decide) ?_
        refine j_aload_n 842 1 dL_law_841 rfl rfl rfl ?_
        refine j_aload_n 843 0 dL_law_842 rfl rfl rfl ?_
        refine j_iload_n 844 3 dL_law_843 rfl rfl rfl ?_
        refine j_iconst (v := 1) 845 dL_law_844 rfl ic_1 ?_
        refine j_iadd 846 dL_law_845 rfl ?_
        refine j_sI 847 (lwX G b L xs nm) dL_law_846 rfl ?_
        intro v138
        refine j_aload_n 848 0 dL_law_847 rfl rfl rfl ?_
        refine j_iload_n 849 3 dL_law_848 rfl rfl rfl ?_
        refine j_iconst (v := 2) 850 dL_law_849 rfl ic_2 ?_
        refine j_iadd 851 dL_law_850 rfl ?_
        refine j_sI 852 (lwX G b L xs nm) dL_law_851 rfl ?_
        intro v139
        refine j_aload_n 853 0 dL_law_852 rfl rfl rfl ?_
        refine j_iload_n 854 3 dL_law_853 rfl rfl rfl ?_
        refine j_iconst (v := 3) 855 dL_law_854 rfl ic_3 ?_
        refine j_iadd 856 dL_law_855 rfl ?_
        refine j_sI 857 (lwX G b L xs nm) dL_law_856 rfl ?_
        intro v140
        refine j_callV_iw (ci := 5) (As := [.int v138, .int v139, .int v140]) (st := []) 860 (okX6_pulse G x l1 v138 v139 v140) kc_X6_pulse kl_L_110 ki_X6_pulse kv_X6_pulse kh_X6 (by decide) (fun _ h => rvX6_pulse h) ⟨rfl, rfl, Nat.le_of_ble_eq_true rfl, Nat.le_of_ble_eq_true rfl⟩ (Nat.le_of_ble_eq_true rfl) ⟨Nat.le_of_ble_eq_true rfl, Nat.le_of_ble_eq_true rfl⟩ rfl dL_law_857 rfl rfl ?_
        intro q141
        refine j_aload_n 861 2 dL_law_860 rfl rfl rfl ?_
        refine j_aload_n 862 0 dL_law_861 rfl rfl rfl ?_
        refine j_iload_n 863 3 dL_law_862 rfl rfl rfl ?_
        refine j_iconst (v := 1) 864 dL_law_863 rfl ic_1 ?_
        refine j_iadd 865 dL_law_864 rfl ?_
        refine j_sI 866 (lwX G b L xs nm) dL_law_865 rfl ?_
        intro v142
        refine j_aload_n 867 0 dL_law_866 rfl rfl rfl ?_
        refine j_iload_n 868 3 dL_law_867 rfl rfl rfl ?_
        refine j_iconst (v := 2) 869 dL_law_868 rfl ic_2 ?_
        refine j_iadd 870 dL_law_869 rfl ?_
        refine j_sI 871 (lwX G b L xs nm) dL_law_870 rfl ?_
        intro v143
        refine j_aload_n 872 0 dL_law_871 rfl rfl rfl ?_
        refine j_iload_n 873 3 dL_law_872 rfl rfl rfl ?_
        refine j_iconst (v := 3) 874 dL_law_873 rfl ic_3 ?_
        refine j_iadd 875 dL_law_874 rfl ?_
        refine j_sI 876 (lwX G b L xs nm) dL_law_875 rfl ?_
        intro v144
        refine j_callV_iw (ci := 6) (As := [.int v142, .int v143, .int v144]) (st := [.int q141.1]) 879 (okX7_pulse G q141.2 l2 v142 v143 v144) kc_X7_pulse kl_L_113 ki_X7_pulse kv_X7_pulse kh_X7 (by decide) (fun _ h => rvX7_pulse h) ⟨rfl, rfl, Nat.le_of_ble_eq_true rfl, Nat.le_of_ble_eq_true rfl⟩ (Nat.le_of_ble_eq_true rfl) ⟨Nat.le_of_ble_eq_true rfl, Nat.le_of_ble_eq_true rfl⟩ rfl dL_law_876 rfl rfl ?_
        intro q145
        refine j_icmp_eq 1539 882 dL_law_879 (by decide) rfl ?_ ?_
        · refine j_iinc 1542 3 [(3, .int (l3 + 7)), (0, .ref b), (1, .ref l1), (2, .ref l2)] dL_law_1539 rfl rfl (ii_7 _) (by decide) rfl ?_
          refine j_goto 18 dL_law_1542 (by decide) ?_
          refine j_sub [1, 2, 3, 0] rfl ?_
          exact ih l1 l2 (l3 + 7) q145.2
        · refine j_iconst (v := 0) 883 dL_law_882 rfl ic_0 ?_
          exact j_none
      refine j_ite (fun h153 => ?_) (fun h153 => ?_)
      · refine j_tinE (w := 23) 884 dL_law_33 h153 (by decide) (by decide) rfl (by decide) ?_
        refine j_aload_n 885 1 dL_law_884 rfl rfl rfl ?_
        refine j_aload_n 886 0 dL_law_885 rfl rfl rfl ?_
        refine j_iload_n 887 3 dL_law_886 rfl rfl rfl ?_
        refine j_iconst (v := 1) 888 dL_law_887 rfl ic_1 ?_
        refine j_iadd 889 dL_law_888 rfl ?_
        refine j_sI 890 (lwX G b L xs nm) dL_law_889 rfl ?_
        intro v147
        refine j_aload_n 891 0 dL_law_890 rfl rfl rfl ?_
        refine j_iload_n 892 3 dL_law_891 rfl rfl rfl ?_
        refine j_iconst (v := 2) 893 dL_law_892 rfl ic_2 ?_
        refine j_iadd 894 dL_law_893 rfl ?_
        refine j_sI 895 (lwX G b L xs nm) dL_law_894 rfl ?_
        intro v148
        refine j_callV_i (ci := 5) (As := [.int v147, .int v148]) (st := []) 898 (okX6_pulseOf G x l1 v147 v148) kc_X6_pulseOf kl_L_114 ki_X6_pulseOf kv_X6_pulseOf kh_X6 (by decide) (fun _ h => rvX6_pulseOf h) ⟨rfl, rfl, Nat.le_of_ble_eq_true rfl, Nat.le_of_ble_eq_true rfl⟩ (Nat.le_of_ble_eq_true rfl) ⟨Nat.le_of_ble_eq_true rfl, Nat.le_of_ble_eq_true rfl⟩ rfl dL_law_895 rfl rfl ?_
        intro v149
        refine j_aload_n 899 2 dL_law_898 rfl rfl rfl ?_
        refine j_aload_n 900 0 dL_law_899 rfl rfl rfl ?_
        refine j_iload_n 901 3 dL_law_900 rfl rfl rfl ?_
        refine j_iconst (v := 1) 902 dL_law_901 rfl ic_1 ?_
        refine j_iadd 903 dL_law_902 rfl ?_
        refine j_sI 904 (lwX G b L xs nm) dL_law_903 rfl ?_
        intro v150
        refine j_aload_n 905 0 dL_law_904 rfl rfl rfl ?_
        refine j_iload_n 906 3 dL_law_905 rfl rfl rfl ?_
        refine j_iconst (v := 2) 907 dL_law_906 rfl ic_2 ?_
        refine j_iadd 908 dL_law_907 rfl ?_
        refine j_sI 909 (lwX G b L xs nm) dL_law_908 rfl ?_
        intro v151
        refine j_callV_i (ci := 6) (As := [.int v150, .int v151]) (st := [.int v149]) 912 (okX7_pulseOf G x l2 v150 v151) kc_X7_pulseOf kl_L_117 ki_X7_pulseOf kv_X7_pulseOf kh_X7 (by decide) (fun _ h => rvX7_pulseOf h) ⟨rfl, rfl, Nat.le_of_ble_eq_true rfl, Nat.le_of_ble_eq_true rfl⟩ (Nat.le_of_ble_eq_true rfl) ⟨Nat.le_of_ble_eq_true rfl, Nat.le_of_ble_eq_true rfl⟩ rfl dL_law_909 rfl rfl ?_
        intro v152
        refine j_icmp_eq 1539 915 dL_law_912 (by decide) rfl ?_ ?_
        · refine j_iinc 1542 3 [(3, .int (l3 + 7)), (0, .ref b), (1, .ref l1), (2, .ref l2)] dL_law_1539 rfl rfl (ii_7 _) (by decide) rfl ?_
          refine j_goto 18 dL_law_1542 (by decide) ?_
          refine j_sub [1, 2, 3, 0] rfl ?_
          exact ih l1 l2 (l3 + 7) x
        · refine j_iconst (v := 0) 916 dL_law_915 rfl ic_0 ?_
          exact j_none
      refine j_ite (fun h158 => ?_) (fun h158 => ?_)
      · refine j_tinE (w := 24) 917 dL_law_33 h158 (by decide) (by decide) rfl (by decide) ?_
        refine j_aload_n 918 1 dL_law_917 rfl rfl rfl ?_
        refine j_aload_n 919 0 dL_law_918 rfl rfl rfl ?_
        refine j_iload_n 920 3 dL_law_919 rfl rfl rfl ?_
        refine j_iconst (v := 1) 921 dL_law_920 rfl ic_1 ?_
        refine j_iadd 922 dL_law_921 rfl ?_
        refine j_sI 923 (lwX G b L xs nm) dL_law_922 rfl ?_
        intro v154
        refine j_callV_iw (ci := 5) (As := [.int v154]) (st := []) 926 (okX6_hush G x l1 v154) kc_X6_hush kl_L_118 ki_X6_hush kv_X6_hush kh_X6 (by decide) (fun _ h => rvX6_hush h) ⟨rfl, rfl, Nat.le_of_ble_eq_true rfl, Nat.le_of_ble_eq_true rfl⟩ (Nat.le_of_ble_eq_true rfl) ⟨Nat.le_of_ble_eq_true rfl, Nat.le_of_ble_eq_true rfl⟩ rfl dL_law_923 rfl rfl ?_
        intro q155
        refine j_aload_n 927 2 dL_law_926 rfl rfl rfl ?_
        refine j_aload_n 928 0 dL_law_927 rfl rfl rfl ?_
        refine j_iload_n 929 3 dL_law_928 rfl rfl rfl ?_
        refine j_iconst (v := 1) 930 dL_law_929 rfl ic_1 ?_
        refine j_iadd 931 dL_law_930 rfl ?_
        refine j_sI 932 (lwX G b L xs nm) dL_law_931 rfl ?_
        intro v156
        refine j_callV_iw (ci := 6) (As := [.int v156]) (st := [.int q155.1]) 935 (okX7_hush G q155.2 l2 v156) kc_X7_hush kl_L_121 ki_X7_hush kv_X7_hush kh_X7 (by decide) (fun _ h => rvX7_hush h) ⟨rfl, rfl, Nat.le_of_ble_eq_true rfl, Nat.le_of_ble_eq_true rfl⟩ (Nat.le_of_ble_eq_true rfl) ⟨Nat.le_of_ble_eq_true rfl, Nat.le_of_ble_eq_true rfl⟩ rfl dL_law_932 rfl rfl ?_
        intro q157
        refine j_icmp_eq 1539 938 dL_law_935 (by decide) rfl ?_ ?_
        · refine j_iinc 1542 3 [(3, .int (l3 + 7)), (0, .ref b), (1, .ref l1), (2, .ref l2)] dL_law_1539 rfl rfl (ii_7 _) (by decide) rfl ?_
          refine j_goto 18 dL_law_1542 (by decide) ?_
          refine j_sub [1, 2, 3, 0] rfl ?_
          exact ih l1 l2 (l3 + 7) q157.2
        · refine j_iconst (v := 0) 939 dL_law_938 rfl ic_0 ?_
          exact j_none
      refine j_ite (fun h165 => ?_) (fun h165 => ?_)
      · refine j_tinE (w := 25) 940 dL_law_33 h165 (by decide) (by decide) rfl (by decide) ?_
        refine j_aload_n 941 1 dL_law_940 rfl rfl rfl ?_
        refine j_aload_n 942 0 dL_law_941 rfl rfl rfl ?_
        refine j_iload_n 943 3 dL_law_942 rfl rfl rfl ?_
        refine j_iconst (v := 1) 944 dL_law_943 rfl ic_1 ?_
        refine j_iadd 945 dL_law_944 rfl ?_
        refine j_sI 946 (lwX G b L xs nm) dL_law_945 rfl ?_
        intro v159
        refine j_aload_n 947 0 dL_law_946 rfl rfl rfl ?_
        refine j_iload_n 948 3 dL_law_947 rfl rfl rfl ?_
        refine j_iconst (v := 2) 949 dL_law_948 rfl ic_2 ?_
        refine j_iadd 950 dL_law_949 rfl ?_
        refine j_sI 951 (lwX G b L xs nm) dL_law_950 rfl ?_
        intro v160
        refine j_callV_lw (ci := 5) (As := [.int v159, .int v160]) (st := []) 954 (okX6_steady G x l1 v159 v160) kc_X6_steady kl_L_122 ki_X6_steady kv_X6_steady kh_X6 (by decide) (fun _ h => rvX6_steady h) ⟨rfl, rfl, Nat.le_of_ble_eq_true rfl, Nat.le_of_ble_eq_true rfl⟩ (Nat.le_of_ble_eq_true rfl) ⟨Nat.le_of_ble_eq_true rfl, Nat.le_of_ble_eq_true rfl⟩ rfl dL_law_951 rfl rfl ?_
        intro q161
        refine j_aload_n 955 2 dL_law_954 rfl rfl rfl ?_
        refine j_aload_n 956 0 dL_law_955 rfl rfl rfl ?_
        refine j_iload_n 957 3 dL_law_956 rfl rfl rfl ?_
        refine j_iconst (v := 1) 958 dL_law_957 rfl ic_1 ?_
        refine j_iadd 959 dL_law_958 rfl ?_
        refine j_sI 960 (lwX G b L xs nm) dL_law_959 rfl ?_
        intro v162
        refine j_aload_n 961 0 dL_law_960 rfl rfl rfl ?_
        refine j_iload_n 962 3 dL_law_961 rfl rfl rfl ?_
        refine j_iconst (v := 2) 963 dL_law_962 rfl ic_2 ?_
        refine j_iadd 964 dL_law_963 rfl ?_
        refine j_sI 965 (lwX G b L xs nm) dL_law_964 rfl ?_
        intro v163
        refine j_callV_lw (ci := 6) (As := [.int v162, .int v163]) (st := [.long q161.1]) 968 (okX7_steady G q161.2 l2 v162 v163) kc_X7_steady kl_L_125 ki_X7_steady kv_X7_steady kh_X7 (by decide) (fun _ h => rvX7_steady h) ⟨rfl, rfl, Nat.le_of_ble_eq_true rfl, Nat.le_of_ble_eq_true rfl⟩ (Nat.le_of_ble_eq_true rfl) ⟨Nat.le_of_ble_eq_true rfl, Nat.le_of_ble_eq_true rfl⟩ rfl dL_law_965 rfl rfl ?_
        intro q164
        refine j_lcmp_eq 969 1539 972 dL_law_968 rfl dL_law_969 (by decide) rfl ?_ ?_
        · refine j_iinc 1542 3 [(3, .int (l3 + 7)), (0, .ref b), (1, .ref l1), (2, .ref l2)] dL_law_1539 rfl rfl (ii_7 _) (by decide) rfl ?_
          refine j_goto 18 dL_law_1542 (by decide) ?_
          refine j_sub [1, 2, 3, 0] rfl ?_
          exact ih l1 l2 (l3 + 7) q164.2
        · refine j_iconst (v := 0) 973 dL_law_972 rfl ic_0 ?_
          exact j_none
      refine j_ite (fun h172 => ?_) (fun h172 => ?_)
      · refine j_tinE (w := 26) 974 dL_law_33 h172 (by decide) (by decide) rfl (by decide) ?_
        refine j_aload_n 975 1 dL_law_974 rfl rfl rfl ?_
        refine j_aload_n 976 0 dL_law_975 rfl rfl rfl ?_
        refine j_iload_n 977 3 dL_law_976 rfl rfl rfl ?_
        refine j_iconst (v := 1) 978 dL_law_977 rfl ic_1 ?_
        refine j_iadd 979 dL_law_978 rfl ?_
        refine j_sI 980 (lwX G b L xs nm) dL_law_979 rfl ?_
        intro v166
        refine j_aload_n 981 0 dL_law_980 rfl rfl rfl ?_
        refine j_iload_n 982 3 dL_law_981 rfl rfl rfl ?_
        refine j_iconst (v := 2) 983 dL_law_982 rfl ic_2 ?_
        refine j_iadd 984 dL_law_983 rfl ?_
        refine j_sI 985 (lwX G b L xs nm) dL_law_984 rfl ?_
        intro v167
        refine j_callV_lw (ci := 5) (As := [.int v166, .int v167]) (st := []) 988 (okX6_steadyFlow G x l1 v166 v167) kc_X6_steadyFlow kl_L_126 ki_X6_steadyFlow kv_X6_steadyFlow kh_X6 (by decide) (fun _ h => rvX6_steadyFlow h) ⟨rfl, rfl, Nat.le_of_ble_eq_true rfl, Nat.le_of_ble_eq_true rfl⟩ (Nat.le_of_ble_eq_true rfl) ⟨Nat.le_of_ble_eq_true rfl, Nat.le_of_ble_eq_true rfl⟩ rfl dL_law_985 rfl rfl ?_
        intro q168
        refine j_aload_n 989 2 dL_law_988 rfl rfl rfl ?_
        refine j_aload_n 990 0 dL_law_989 rfl rfl rfl ?_
        refine j_iload_n 991 3 dL_law_990 rfl rfl rfl ?_
        refine j_iconst (v := 1) 992 dL_law_991 rfl ic_1 ?_
        refine j_iadd 993 dL_law_992 rfl ?_
        refine j_sI 994 (lwX G b L xs nm) dL_law_993 rfl ?_
        intro v169
        refine j_aload_n 995 0 dL_law_994 rfl rfl rfl ?_
        refine j_iload_n 996 3 dL_law_995 rfl rfl rfl ?_
        refine j_iconst (v := 2) 997 dL_law_996 rfl ic_2 ?_
        refine j_iadd 998 dL_law_997 rfl ?_
        refine j_sI 999 (lwX G b L xs nm) dL_law_998 rfl ?_
        intro v170
        refine j_callV_lw (ci := 6) (As := [.int v169, .int v170]) (st := [.long q168.1]) 1002 (okX7_steadyFlow G q168.2 l2 v169 v170) kc_X7_steadyFlow kl_L_129 ki_X7_steadyFlow kv_X7_steadyFlow kh_X7 (by decide) (fun _ h => rvX7_steadyFlow h) ⟨rfl, rfl, Nat.le_of_ble_eq_true rfl, Nat.le_of_ble_eq_true rfl⟩ (Nat.le_of_ble_eq_true rfl) ⟨Nat.le_of_ble_eq_true rfl, Nat.le_of_ble_eq_true rfl⟩ rfl dL_law_999 rfl rfl ?_
        intro q171
        refine j_lcmp_eq 1003 1539 1006 dL_law_1002 rfl dL_law_1003 (by decide) rfl ?_ ?_
        · refine j_iinc 1542 3 [(3, .int (l3 + 7)), (0, .ref b), (1, .ref l1), (2, .ref l2)] dL_law_1539 rfl rfl (ii_7 _) (by decide) rfl ?_
          refine j_goto 18 dL_law_1542 (by decide) ?_
          refine j_sub [1, 2, 3, 0] rfl ?_
          exact ih l1 l2 (l3 + 7) q171.2
        · refine j_iconst (v := 0) 1007 dL_law_1006 rfl ic_0 ?_
          exact j_none
      refine j_ite (fun h175 => ?_) (fun h175 => ?_)
      · refine j_tinE (w := 27) 1008 dL_law_33 h175 (by decide) (by decide) rfl (by decide) ?_
        refine j_aload_n 1009 1 dL_law_1008 rfl rfl rfl ?_
        refine j_callV_iw (ci := 5) (As := []) (st := []) 1012 (okX6_hottest G x l1) kc_X6_hottest kl_L_130 ki_X6_hottest kv_X6_hottest kh_X6 (by decide) (fun _ h => rvX6_hottest h) ⟨rfl, rfl, Nat.le_of_ble_eq_true rfl, Nat.le_of_ble_eq_true rfl⟩ (Nat.le_of_ble_eq_true rfl) ⟨Nat.le_of_ble_eq_true rfl, Nat.le_of_ble_eq_true rfl⟩ rfl dL_law_1009 rfl rfl ?_
        intro q173
        refine j_aload_n 1013 2 dL_law_1012 rfl rfl rfl ?_
        refine j_callV_iw (ci := 6) (As := []) (st := [.int q173.1]) 1016 (okX7_hottest G q173.2 l2) kc_X7_hottest kl_L_133 ki_X7_hottest kv_X7_hottest kh_X7 (by decide) (fun _ h => rvX7_hottest h) ⟨rfl, rfl, Nat.le_of_ble_eq_true rfl, Nat.le_of_ble_eq_true rfl⟩ (Nat.le_of_ble_eq_true rfl) ⟨Nat.le_of_ble_eq_true rfl, Nat.le_of_ble_eq_true rfl⟩ rfl dL_law_1013 rfl rfl ?_
        intro q174
        refine j_icmp_eq 1539 1019 dL_law_1016 (by decide) rfl ?_ ?_
        · refine j_iinc 1542 3 [(3, .int (l3 + 7)), (0, .ref b), (1, .ref l1), (2, .ref l2)] dL_law_1539 rfl rfl (ii_7 _) (by decide) rfl ?_
          refine j_goto 18 dL_law_1542 (by decide) ?_
          refine j_sub [1, 2, 3, 0] rfl ?_
          exact ih l1 l2 (l3 + 7) q174.2
        · refine j_iconst (v := 0) 1020 dL_law_1019 rfl ic_0 ?_
          exact j_none
      refine j_ite (fun h178 => ?_) (fun h178 => ?_)
      · refine j_tinE (w := 28) 1021 dL_law_33 h178 (by decide) (by decide) rfl (by decide) ?_
        refine j_aload_n 1022 1 dL_law_1021 rfl rfl rfl ?_
        refine j_callV_iw (ci := 5) (As := []) (st := []) 1025 (okX6_lay G x l1) kc_X6_lay kl_L_134 ki_X6_lay kv_X6_lay kh_X6 (by decide) (fun _ h => rvX6_lay h) ⟨rfl, rfl, Nat.le_of_ble_eq_true rfl, Nat.le_of_ble_eq_true rfl⟩ (Nat.le_of_ble_eq_true rfl) ⟨Nat.le_of_ble_eq_true rfl, Nat.le_of_ble_eq_true rfl⟩ rfl dL_law_1022 rfl rfl ?_
        intro q176
        refine j_aload_n 1026 2 dL_law_1025 rfl rfl rfl ?_
        refine j_callV_iw (ci := 6) (As := []) (st := [.int q176.1]) 1029 (okX7_lay G q176.2 l2) kc_X7_lay kl_L_137 ki_X7_lay kv_X7_lay kh_X7 (by decide) (fun _ h => rvX7_lay h) ⟨rfl, rfl, Nat.le_of_ble_eq_true rfl, Nat.le_of_ble_eq_true rfl⟩ (Nat.le_of_ble_eq_true rfl) ⟨Nat.le_of_ble_eq_true rfl, Nat.le_of_ble_eq_true rfl⟩ rfl dL_law_1026 rfl rfl ?_
        intro q177
        refine j_icmp_eq 1539 1032 dL_law_1029 (by decide) rfl ?_ ?_
        · refine j_iinc 1542 3 [(3, .int (l3 + 7)), (0, .ref b), (1, .ref l1), (2, .ref l2)] dL_law_1539 rfl rfl (ii_7 _) (by decide) rfl ?_
          refine j_goto 18 dL_law_1542 (by decide) ?_
          refine j_sub [1, 2, 3, 0] rfl ?_
          exact ih l1 l2 (l3 + 7) q177.2
        · refine j_iconst (v := 0) 1033 dL_law_1032 rfl ic_0 ?_
          exact j_none
      refine j_ite (fun h181 => ?_) (fun h181 => ?_)
      · refine j_tinE (w := 29) 1034 dL_law_33 h181 (by decide) (by decide) rfl (by decide) ?_
        refine j_aload_n 1035 1 dL_law_1034 rfl rfl rfl ?_
        refine j_callV_i (ci := 5) (As := []) (st := []) 1038 (okX6_isSteady G x l1) kc_X6_isSteady kl_L_138 ki_X6_isSteady kv_X6_isSteady kh_X6 (by decide) (fun _ h => rvX6_isSteady h) ⟨rfl, rfl, Nat.le_of_ble_eq_true rfl, Nat.le_of_ble_eq_true rfl⟩ (Nat.le_of_ble_eq_true rfl) ⟨Nat.le_of_ble_eq_true rfl, Nat.le_of_ble_eq_true rfl⟩ rfl dL_law_1035 rfl rfl ?_
        intro v179
        refine j_aload_n 1039 2 dL_law_1038 rfl rfl rfl ?_
        refine j_callV_iw (ci := 6) (As := []) (st := [.int v179]) 1042 (okX7_isSteady G x l2) kc_X7_isSteady kl_L_141 ki_X7_isSteady kv_X7_isSteady kh_X7 (by decide) (fun _ h => rvX7_isSteady h) ⟨rfl, rfl, Nat.le_of_ble_eq_true rfl, Nat.le_of_ble_eq_true rfl⟩ (Nat.le_of_ble_eq_true rfl) ⟨Nat.le_of_ble_eq_true rfl, Nat.le_of_ble_eq_true rfl⟩ rfl dL_law_1039 rfl rfl ?_
        intro q180
        refine j_icmp_eq 1539 1045 dL_law_1042 (by decide) rfl ?_ ?_
        · refine j_iinc 1542 3 [(3, .int (l3 + 7)), (0, .ref b), (1, .ref l1), (2, .ref l2)] dL_law_1539 rfl rfl (ii_7 _) (by decide) rfl ?_
          refine j_goto 18 dL_law_1542 (by decide) ?_
          refine j_sub [1, 2, 3, 0] rfl ?_
          exact ih l1 l2 (l3 + 7) q180.2
        · refine j_iconst (v := 0) 1046 dL_law_1045 rfl ic_0 ?_
          exact j_none
      refine j_ite (fun h188 => ?_) (fun h188 => ?_)
      · refine j_tinE (w := 30) 1047 dL_law_33 h188 (by decide) (by decide) rfl (by decide) ?_
        refine j_aload_n 1048 1 dL_law_1047 rfl rfl rfl ?_
        refine j_aload_n 1049 0 dL_law_1048 rfl rfl rfl ?_
        refine j_iload_n 1050 3 dL_law_1049 rfl rfl rfl ?_
        refine j_iconst (v := 1) 1051 dL_law_1050 rfl ic_1 ?_
        refine j_iadd 1052 dL_law_1051 rfl ?_
        refine j_sI 1053 (lwX G b L xs nm) dL_law_1052 rfl ?_
        intro v182
        refine j_aload_n 1054 0 dL_law_1053 rfl rfl rfl ?_
        refine j_iload_n 1055 3 dL_law_1054 rfl rfl rfl ?_
        refine j_iconst (v := 2) 1056 dL_law_1055 rfl ic_2 ?_
        refine j_iadd 1057 dL_law_1056 rfl ?_
        refine j_sI 1058 (lwX G b L xs nm) dL_law_1057 rfl ?_
        intro v183
        refine j_callV_iw (ci := 5) (As := [.int v182, .int v183]) (st := []) 1061 (okX6_buried G x l1 v182 v183) kc_X6_buried kl_L_142 ki_X6_buried kv_X6_buried kh_X6 (by decide) (fun _ h => rvX6_buried h) ⟨rfl, rfl, Nat.le_of_ble_eq_true rfl, Nat.le_of_ble_eq_true rfl⟩ (Nat.le_of_ble_eq_true rfl) ⟨Nat.le_of_ble_eq_true rfl, Nat.le_of_ble_eq_true rfl⟩ rfl dL_law_1058 rfl rfl ?_
        intro q184
        refine j_aload_n 1062 2 dL_law_1061 rfl rfl rfl ?_
        refine j_aload_n 1063 0 dL_law_1062 rfl rfl rfl ?_
        refine j_iload_n 1064 3 dL_law_1063 rfl rfl rfl ?_
        refine j_iconst (v := 1) 1065 dL_law_1064 rfl ic_1 ?_
        refine j_iadd 1066 dL_law_1065 rfl ?_
        refine j_sI 1067 (lwX G b L xs nm) dL_law_1066 rfl ?_
        intro v185
        refine j_aload_n 1068 0 dL_law_1067 rfl rfl rfl ?_
        refine j_iload_n 1069 3 dL_law_1068 rfl rfl rfl ?_
        refine j_iconst (v := 2) 1070 dL_law_1069 rfl ic_2 ?_
        refine j_iadd 1071 dL_law_1070 rfl ?_
        refine j_sI 1072 (lwX G b L xs nm) dL_law_1071 rfl ?_
        intro v186
        refine j_callV_iw (ci := 6) (As := [.int v185, .int v186]) (st := [.int q184.1]) 1075 (okX7_buried G q184.2 l2 v185 v186) kc_X7_buried kl_L_145 ki_X7_buried kv_X7_buried kh_X7 (by decide) (fun _ h => rvX7_buried h) ⟨rfl, rfl, Nat.le_of_ble_eq_true rfl, Nat.le_of_ble_eq_true rfl⟩ (Nat.le_of_ble_eq_true rfl) ⟨Nat.le_of_ble_eq_true rfl, Nat.le_of_ble_eq_true rfl⟩ rfl dL_law_1072 rfl rfl ?_
        intro q187
        refine j_icmp_eq 1539 1078 dL_law_1075 (by decide) rfl ?_ ?_
        · refine j_iinc 1542 3 [(3, .int (l3 + 7)), (0, .ref b), (1, .ref l1), (2, .ref l2)] dL_law_1539 rfl rfl (ii_7 _) (by decide) rfl ?_
          refine j_goto 18 dL_law_1542 (by decide) ?_
          refine j_sub [1, 2, 3, 0] rfl ?_
          exact ih l1 l2 (l3 + 7) q187.2
        · refine j_iconst (v := 0) 1079 dL_law_1078 rfl ic_0 ?_
          exact j_none
      refine j_ite (fun h197 => ?_) (fun h197 => ?_)
      · refine j_tinE (w := 31) 1080 dL_law_33 h197 (by decide) (by decide) rfl (by decide) ?_
        refine j_aload_n 1081 1 dL_law_1080 rfl rfl rfl ?_
        refine j_aload_n 1082 0 dL_law_1081 rfl rfl rfl ?_
        refine j_iload_n 1083 3 dL_law_1082 rfl rfl rfl ?_
        refine j_iconst (v := 1) 1084 dL_law_1083 rfl ic_1 ?_
        refine j_iadd 1085 dL_law_1084 rfl ?_
        refine j_sI 1086 (lwX G b L xs nm) dL_law_1085 rfl ?_
        intro v189
        refine j_aload_n 1087 0 dL_law_1086 rfl rfl rfl ?_
        refine j_iload_n 1088 3 dL_law_1087 rfl rfl rfl ?_
        refine j_iconst (v := 2) 1089 dL_law_1088 rfl ic_2 ?_
        refine j_iadd 1090 dL_law_1089 rfl ?_
        refine j_sI 1091 (lwX G b L xs nm) dL_law_1090 rfl ?_
        intro v190
        refine j_aload_n 1092 0 dL_law_1091 rfl rfl rfl ?_
        refine j_iload_n 1093 3 dL_law_1092 rfl rfl rfl ?_
        refine j_iconst (v := 3) 1094 dL_law_1093 rfl ic_3 ?_
        refine j_iadd 1095 dL_law_1094 rfl ?_
        refine j_sI 1096 (lwX G b L xs nm) dL_law_1095 rfl ?_
        intro v191
        refine j_callV_iw (ci := 5) (As := [.int v189, .int v190, .int v191]) (st := []) 1099 (okX6_tells G x l1 v189 v190 v191) kc_X6_tells kl_L_146 ki_X6_tells kv_X6_tells kh_X6 (by decide) (fun _ h => rvX6_tells h) ⟨rfl, rfl, Nat.le_of_ble_eq_true rfl, Nat.le_of_ble_eq_true rfl⟩ (Nat.le_of_ble_eq_true rfl) ⟨Nat.le_of_ble_eq_true rfl, Nat.le_of_ble_eq_true rfl⟩ rfl dL_law_1096 rfl rfl ?_
        intro q192
        refine j_aload_n 1100 2 dL_law_1099 rfl rfl rfl ?_
        refine j_aload_n 1101 0 dL_law_1100 rfl rfl rfl ?_
        refine j_iload_n 1102 3 dL_law_1101 rfl rfl rfl ?_
        refine j_iconst (v := 1) 1103 dL_law_1102 rfl ic_1 ?_
        refine j_iadd 1104 dL_law_1103 rfl ?_
        refine j_sI 1105 (lwX G b L xs nm) dL_law_1104 rfl ?_
        intro v193
        refine j_aload_n 1106 0 dL_law_1105 rfl rfl rfl ?_
        refine j_iload_n 1107 3 dL_law_1106 rfl rfl rfl ?_
        refine j_iconst (v := 2) 1108 dL_law_1107 rfl ic_2 ?_
        refine j_iadd 1109 dL_law_1108 rfl ?_
        refine j_sI 1110 (lwX G b L xs nm) dL_law_1109 rfl ?_
        intro v194
        refine j_aload_n 1111 0 dL_law_1110 rfl rfl rfl ?_
        refine j_iload_n 1112 3 dL_law_1111 rfl rfl rfl ?_
        refine j_iconst (v := 3) 1113 dL_law_1112 rfl ic_3 ?_
        refine j_iadd 1114 dL_law_1113 rfl ?_
        refine j_sI 1115 (lwX G b L xs nm) dL_law_1114 rfl ?_
        intro v195
        refine j_callV_iw (ci := 6) (As := [.int v193, .int v194, .int v195]) (st := [.int q192.1]) 1118 (okX7_tells G q192.2 l2 v193 v194 v195) kc_X7_tells kl_L_149 ki_X7_tells kv_X7_tells kh_X7 (by decide) (fun _ h => rvX7_tells h) ⟨rfl, rfl, Nat.le_of_ble_eq_true rfl, Nat.le_of_ble_eq_true rfl⟩ (Nat.le_of_ble_eq_true rfl) ⟨Nat.le_of_ble_eq_true rfl, Nat.le_of_ble_eq_true rfl⟩ rfl dL_law_1115 rfl rfl ?_
        intro q196
        refine j_icmp_eq 1539 1121 dL_law_1118 (by decide) rfl ?_ ?_
        · refine j_iinc 1542 3 [(3, .int (l3 + 7)), (0, .ref b), (1, .ref l1), (2, .ref l2)] dL_law_1539 rfl rfl (ii_7 _) (by decide) rfl ?_
          refine j_goto 18 dL_law_1542 (by decide) ?_
          refine j_sub [1, 2, 3, 0] rfl ?_
          exact ih l1 l2 (l3 + 7) q196.2
        · refine j_iconst (v := 0) 1122 dL_law_1121 rfl ic_0 ?_
          exact j_none
      refine j_ite (fun h206 => ?_) (fun h206 => ?_)
      · refine j_tinE (w := 32) 1123 dL_law_33 h206 (by decide) (by decide) rfl (by decide) ?_
        refine j_aload_n 1124 1 dL_law_1123 rfl rfl rfl ?_
        refine j_aload_n 1125 0 dL_law_1124 rfl rfl rfl ?_
        refine j_iload_n 1126 3 dL_law_1125 rfl rfl rfl ?_
        refine j_iconst (v := 1) 1127 dL_law_1126 rfl ic_1 ?_
        refine j_iadd 1128 dL_law_1127 rfl ?_
        refine j_sI 1129 (lwX G b L xs nm) dL_law_1128 rfl ?_
        intro v198
        refine j_aload_n 1130 0 dL_law_1129 rfl rfl rfl ?_
        refine j_iload_n 1131 3 dL_law_1130 rfl rfl rfl ?_
        refine j_iconst (v := 2) 1132 dL_law_1131 rfl ic_2 ?_
        refine j_iadd 1133 dL_law_1132 rfl ?_
        refine j_sI 1134 (lwX G b L xs nm) dL_law_1133 rfl ?_
        intro v199
        refine j_aload_n 1135 0 dL_law_1134 rfl rfl rfl ?_
        refine j_iload_n 1136 3 dL_law_1135 rfl rfl rfl ?_
        refine j_iconst (v := 3) 1137 dL_law_1136 rfl ic_3 ?_
        refine j_iadd 1138 dL_law_1137 rfl ?_
        refine j_sI 1139 (lwX G b L xs nm) dL_law_1138 rfl ?_
        intro v200
        refine j_callV_iw (ci := 5) (As := [.int v198, .int v199, .int v200]) (st := []) 1142 (okX6_film G x l1 v198 v199 v200) kc_X6_film kl_L_150 ki_X6_film kv_X6_film kh_X6 (by decide) (fun _ h => rvX6_film h) ⟨rfl, rfl, Nat.le_of_ble_eq_true rfl, Nat.le_of_ble_eq_true rfl⟩ (Nat.le_of_ble_eq_true rfl) ⟨Nat.le_of_ble_eq_true rfl, Nat.le_of_ble_eq_true rfl⟩ rfl dL_law_1139 rfl rfl ?_
        intro q201
        refine j_aload_n 1143 2 dL_law_1142 rfl rfl rfl ?_
        refine j_aload_n 1144 0 dL_law_1143 rfl rfl rfl ?_
        refine j_iload_n 1145 3 dL_law_1144 rfl rfl rfl ?_
        refine j_iconst (v := 1) 1146 dL_law_1145 rfl ic_1 ?_
        refine j_iadd 1147 dL_law_1146 rfl ?_
        refine j_sI 1148 (lwX G b L xs nm) dL_law_1147 rfl ?_
        intro v202
        refine j_aload_n 1149 0 dL_law_1148 rfl rfl rfl ?_
        refine j_iload_n 1150 3 dL_law_1149 rfl rfl rfl ?_
        refine j_iconst (v := 2) 1151 dL_law_1150 rfl ic_2 ?_
        refine j_iadd 1152 dL_law_1151 rfl ?_
        refine j_sI 1153 (lwX G b L xs nm) dL_law_1152 rfl ?_
        intro v203
        refine j_aload_n 1154 0 dL_law_1153 rfl rfl rfl ?_
        refine j_iload_n 1155 3 dL_law_1154 rfl rfl rfl ?_
        refine j_iconst (v := 3) 1156 dL_law_1155 rfl ic_3 ?_
        refine j_iadd 1157 dL_law_1156 rfl ?_
        refine j_sI 1158 (lwX G b L xs nm) dL_law_1157 rfl ?_
        intro v204
        refine j_callV_iw (ci := 6) (As := [.int v202, .int v203, .int v204]) (st := [.int q201.1]) 1161 (okX7_film G q201.2 l2 v202 v203 v204) kc_X7_film kl_L_153 ki_X7_film kv_X7_film kh_X7 (by decide) (fun _ h => rvX7_film h) ⟨rfl, rfl, Nat.le_of_ble_eq_true rfl, Nat.le_of_ble_eq_true rfl⟩ (Nat.le_of_ble_eq_true rfl) ⟨Nat.le_of_ble_eq_true rfl, Nat.le_of_ble_eq_true rfl⟩ rfl dL_law_1158 rfl rfl ?_
        intro q205
        refine j_icmp_eq 1539 1164 dL_law_1161 (by decide) rfl ?_ ?_
        · refine j_iinc 1542 3 [(3, .int (l3 + 7)), (0, .ref b), (1, .ref l1), (2, .ref l2)] dL_law_1539 rfl rfl (ii_7 _) (by decide) rfl ?_
          refine j_goto 18 dL_law_1542 (by decide) ?_
          refine j_sub [1, 2, 3, 0] rfl ?_
          exact ih l1 l2 (l3 + 7) q205.2
        · refine j_iconst (v := 0) 1165 dL_law_1164 rfl ic_0 ?_
          exact j_none
      refine j_ite (fun h213 => ?_) (fun h213 => ?_)
      · refine j_tinE (w := 33) 1166 dL_law_33 h213 (by decide) (by decide) rfl (by decide) ?_
        refine j_aload_n 1167 1 dL_law_1166 rfl rfl rfl ?_
        refine j_aload_n 1168 0 dL_law_1167 rfl rfl rfl ?_
        refine j_iload_n 1169 3 dL_law_1168 rfl rfl rfl ?_
        refine j_iconst (v := 1) 1170 dL_law_1169 rfl ic_1 ?_
        refine j_iadd 1171 dL_law_1170 rfl ?_
        refine j_sI 1172 (lwX G b L xs nm) dL_law_1171 rfl ?_
        intro v207
        refine j_aload_n 1173 0 dL_law_1172 rfl rfl rfl ?_
        refine j_iload_n 1174 3 dL_law_1173 rfl rfl rfl ?_
        refine j_iconst (v := 2) 1175 dL_law_1174 rfl ic_2 ?_
        refine j_iadd 1176 dL_law_1175 rfl ?_
        refine j_sI 1177 (lwX G b L xs nm) dL_law_1176 rfl ?_
        intro v208
        refine j_callV_lw (ci := 5) (As := [.int v207, .int v208]) (st := []) 1180 (okX6_drawn G x l1 v207 v208) kc_X6_drawn kl_L_154 ki_X6_drawn kv_X6_drawn kh_X6 (by decide) (fun _ h => rvX6_drawn h) ⟨rfl, rfl, Nat.le_of_ble_eq_true rfl, Nat.le_of_ble_eq_true rfl⟩ (Nat.le_of_ble_eq_true rfl) ⟨Nat.le_of_ble_eq_true rfl, Nat.le_of_ble_eq_true rfl⟩ rfl dL_law_1177 rfl rfl ?_
        intro q209
        refine j_aload_n 1181 2 dL_law_1180 rfl rfl rfl ?_
        refine j_aload_n 1182 0 dL_law_1181 rfl rfl rfl ?_
        refine j_iload_n 1183 3 dL_law_1182 rfl rfl rfl ?_
        refine j_iconst (v := 1) 1184 dL_law_1183 rfl ic_1 ?_
        refine j_iadd 1185 dL_law_1184 rfl ?_
        refine j_sI 1186 (lwX G b L xs nm) dL_law_1185 rfl ?_
        intro v210
        refine j_aload_n 1187 0 dL_law_1186 rfl rfl rfl ?_
        refine j_iload_n 1188 3 dL_law_1187 rfl rfl rfl ?_
        refine j_iconst (v := 2) 1189 dL_law_1188 rfl ic_2 ?_
        refine j_iadd 1190 dL_law_1189 rfl ?_
        refine j_sI 1191 (lwX G b L xs nm) dL_law_1190 rfl ?_
        intro v211
        refine j_callV_lw (ci := 6) (As := [.int v210, .int v211]) (st := [.long q209.1]) 1194 (okX7_drawn G q209.2 l2 v210 v211) kc_X7_drawn kl_L_157 ki_X7_drawn kv_X7_drawn kh_X7 (by decide) (fun _ h => rvX7_drawn h) ⟨rfl, rfl, Nat.le_of_ble_eq_true rfl, Nat.le_of_ble_eq_true rfl⟩ (Nat.le_of_ble_eq_true rfl) ⟨Nat.le_of_ble_eq_true rfl, Nat.le_of_ble_eq_true rfl⟩ rfl dL_law_1191 rfl rfl ?_
        intro q212
        refine j_lcmp_eq 1195 1539 1198 dL_law_1194 rfl dL_law_1195 (by decide) rfl ?_ ?_
        · refine j_iinc 1542 3 [(3, .int (l3 + 7)), (0, .ref b), (1, .ref l1), (2, .ref l2)] dL_law_1539 rfl rfl (ii_7 _) (by decide) rfl ?_
          refine j_goto 18 dL_law_1542 (by decide) ?_
          refine j_sub [1, 2, 3, 0] rfl ?_
          exact ih l1 l2 (l3 + 7) q212.2
        · refine j_iconst (v := 0) 1199 dL_law_1198 rfl ic_0 ?_
          exact j_none
      refine j_ite (fun h228 => ?_) (fun h228 => ?_)
      · refine j_tinE (w := 34) 1200 dL_law_33 h228 (by decide) (by decide) rfl (by decide) ?_
        refine j_aload_n 1201 1 dL_law_1200 rfl rfl rfl ?_
        refine j_aload_n 1202 0 dL_law_1201 rfl rfl rfl ?_
        refine j_iload_n 1203 3 dL_law_1202 rfl rfl rfl ?_
        refine j_iconst (v := 1) 1204 dL_law_1203 rfl ic_1 ?_
        refine j_iadd 1205 dL_law_1204 rfl ?_
        refine j_sI 1206 (lwX G b L xs nm) dL_law_1205 rfl ?_
        intro v214
        refine j_aload_n 1207 0 dL_law_1206 rfl rfl rfl ?_
        refine j_iload_n 1208 3 dL_law_1207 rfl rfl rfl ?_
        refine j_iconst (v := 2) 1209 dL_law_1208 rfl ic_2 ?_
        refine j_iadd 1210 dL_law_1209 rfl ?_
        refine j_sI 1211 (lwX G b L xs nm) dL_law_1210 rfl ?_
        intro v215
        refine j_aload_n 1212 0 dL_law_1211 rfl rfl rfl ?_
        refine j_iload_n 1213 3 dL_law_1212 rfl rfl rfl ?_
        refine j_iconst (v := 3) 1214 dL_law_1213 rfl ic_3 ?_
        refine j_iadd 1215 dL_law_1214 rfl ?_
        refine j_sI 1216 (lwX G b L xs nm) dL_law_1215 rfl ?_
        intro v216
        refine j_aload_n 1217 0 dL_law_1216 rfl rfl rfl ?_
        refine j_iload_n 1218 3 dL_law_1217 rfl rfl rfl ?_
        refine j_iconst (v := 4) 1219 dL_law_1218 rfl ic_4 ?_
        refine j_iadd 1220 dL_law_1219 rfl ?_
        refine j_sI 1221 (lwX G b L xs nm) dL_law_1220 rfl ?_
        intro v217
        refine j_aload_n 1222 0 dL_law_1221 rfl rfl rfl ?_
        refine j_iload_n 1223 3 dL_law_1222 rfl rfl rfl ?_
        refine j_iconst (v := 5) 1224 dL_law_1223 rfl ic_5 ?_
        refine j_iadd 1225 dL_law_1224 rfl ?_
        refine j_sI 1226 (lwX G b L xs nm) dL_law_1225 rfl ?_
        intro v218
        refine j_aload_n 1227 0 dL_law_1226 rfl rfl rfl ?_
        refine j_iload_n 1228 3 dL_law_1227 rfl rfl rfl ?_
        refine j_bipush (v := 6) 1230 dL_law_1228 rfl bc_6 ?_
        refine j_iadd 1231 dL_law_1230 rfl ?_
        refine j_sI 1232 (lwX G b L xs nm) dL_law_1231 rfl ?_
        intro v219
        refine j_callV_iw (ci := 5) (As := [.int v214, .int v215, .int v216, .int v217, .int v218, .int v219]) (st := []) 1235 (okX6_feed G x l1 v214 v215 v216 v217 v218 v219) kc_X6_feed kl_L_158 ki_X6_feed kv_X6_feed kh_X6 (by decide) (fun _ h => rvX6_feed h) ⟨rfl, rfl, Nat.le_of_ble_eq_true rfl, Nat.le_of_ble_eq_true rfl⟩ (Nat.le_of_ble_eq_true rfl) ⟨Nat.le_of_ble_eq_true rfl, Nat.le_of_ble_eq_true rfl⟩ rfl dL_law_1232 rfl rfl ?_
        intro q220
        refine j_aload_n 1236 2 dL_law_1235 rfl rfl rfl ?_
        refine j_aload_n 1237 0 dL_law_1236 rfl rfl rfl ?_
        refine j_iload_n 1238 3 dL_law_1237 rfl rfl rfl ?_
        refine j_iconst (v := 1) 1239 dL_law_1238 rfl ic_1 ?_
        refine j_iadd 1240 dL_law_1239 rfl ?_
        refine j_sI 1241 (lwX G b L xs nm) dL_law_1240 rfl ?_
        intro v221
        refine j_aload_n 1242 0 dL_law_1241 rfl rfl rfl ?_
        refine j_iload_n 1243 3 dL_law_1242 rfl rfl rfl ?_
        refine j_iconst (v := 2) 1244 dL_law_1243 rfl ic_2 ?_
        refine j_iadd 1245 dL_law_1244 rfl ?_
        refine j_sI 1246 (lwX G b L xs nm) dL_law_1245 rfl ?_
        intro v222
        refine j_aload_n 1247 0 dL_law_1246 rfl rfl rfl ?_
        refine j_iload_n 1248 3 dL_law_1247 rfl rfl rfl ?_
        refine j_iconst (v := 3) 1249 dL_law_1248 rfl ic_3 ?_
        refine j_iadd 1250 dL_law_1249 rfl ?_
        refine j_sI 1251 (lwX G b L xs nm) dL_law_1250 rfl ?_
        intro v223
        refine j_aload_n 1252 0 dL_law_1251 rfl rfl rfl ?_
        refine j_iload_n 1253 3 dL_law_1252 rfl rfl rfl ?_
        refine j_iconst (v := 4) 1254 dL_law_1253 rfl ic_4 ?_
        refine j_iadd 1255 dL_law_1254 rfl ?_
        refine j_sI 1256 (lwX G b L xs nm) dL_law_1255 rfl ?_
        intro v224
        refine j_aload_n 1257 0 dL_law_1256 rfl rfl rfl ?_
        refine j_iload_n 1258 3 dL_law_1257 rfl rfl rfl ?_
        refine j_iconst (v := 5) 1259 dL_law_1258 rfl ic_5 ?_
        refine j_iadd 1260 dL_law_1259 rfl ?_
        refine j_sI 1261 (lwX G b L xs nm) dL_law_1260 rfl ?_
        intro v225
        refine j_aload_n 1262 0 dL_law_1261 rfl rfl rfl ?_
        refine j_iload_n 1263 3 dL_law_1262 rfl rfl rfl ?_
        refine j_bipush (v := 6) 1265 dL_law_1263 rfl bc_6 ?_
        refine j_iadd 1266 dL_law_1265 rfl ?_
        refine j_sI 1267 (lwX G b L xs nm) dL_law_1266 rfl ?_
        intro v226
        refine j_callV_iw (ci := 6) (As := [.int v221, .int v222, .int v223, .int v224, .int v225, .int v226]) (st := [.int q220.1]) 1270 (okX7_feed G q220.2 l2 v221 v222 v223 v224 v225 v226) kc_X7_feed kl_L_162 ki_X7_feed kv_X7_feed kh_X7 (by decide) (fun _ h => rvX7_feed h) ⟨rfl, rfl, Nat.le_of_ble_eq_true rfl, Nat.le_of_ble_eq_true rfl⟩ (Nat.le_of_ble_eq_true rfl) ⟨Nat.le_of_ble_eq_true rfl, Nat.le_of_ble_eq_true rfl⟩ rfl dL_law_1267 rfl rfl ?_
        intro q227
        refine j_icmp_eq 1539 1273 dL_law_1270 (by decide) rfl ?_ ?_
        · refine j_iinc 1542 3 [(3, .int (l3 + 7)), (0, .ref b), (1, .ref l1), (2, .ref l2)] dL_law_1539 rfl rfl (ii_7 _) (by decide) rfl ?_
          refine j_goto 18 dL_law_1542 (by decide) ?_
          refine j_sub [1, 2, 3, 0] rfl ?_
          exact ih l1 l2 (l3 + 7) q227.2
        · refine j_iconst (v := 0) 1274 dL_law_1273 rfl ic_0 ?_
          exact j_none
      refine j_ite (fun h231 => ?_) (fun h231 => ?_)
      · refine j_tinE (w := 35) 1275 dL_law_33 h231 (by decide) (by decide) rfl (by decide) ?_
        refine j_aload_n 1276 1 dL_law_1275 rfl rfl rfl ?_
        refine j_callV_iw (ci := 5) (As := []) (st := []) 1279 (okX6_text G x l1) kc_X6_text kl_L_163 ki_X6_text kv_X6_text kh_X6 (by decide) (fun _ h => rvX6_text h) ⟨rfl, rfl, Nat.le_of_ble_eq_true rfl, Nat.le_of_ble_eq_true rfl⟩ (Nat.le_of_ble_eq_true rfl) ⟨Nat.le_of_ble_eq_true rfl, Nat.le_of_ble_eq_true rfl⟩ rfl dL_law_1276 rfl rfl ?_
        intro q229
        refine j_aload_n 1280 2 dL_law_1279 rfl rfl rfl ?_
        refine j_callV_iw (ci := 6) (As := []) (st := [.int q229.1]) 1283 (okX7_text G q229.2 l2) kc_X7_text kl_L_166 ki_X7_text kv_X7_text kh_X7 (by decide) (fun _ h => rvX7_text h) ⟨rfl, rfl, Nat.le_of_ble_eq_true rfl, Nat.le_of_ble_eq_true rfl⟩ (Nat.le_of_ble_eq_true rfl) ⟨Nat.le_of_ble_eq_true rfl, Nat.le_of_ble_eq_true rfl⟩ rfl dL_law_1280 rfl rfl ?_
        intro q230
        refine j_icmp_eq 1539 1286 dL_law_1283 (by decide) rfl ?_ ?_
        · refine j_iinc 1542 3 [(3, .int (l3 + 7)), (0, .ref b), (1, .ref l1), (2, .ref l2)] dL_law_1539 rfl rfl (ii_7 _) (by decide) rfl ?_
          refine j_goto 18 dL_law_1542 (by decide) ?_
          refine j_sub [1, 2, 3, 0] rfl ?_
          exact ih l1 l2 (l3 + 7) q230.2
        · refine j_iconst (v := 0) 1287 dL_law_1286 rfl ic_0 ?_
          exact j_none
      refine j_ite (fun h234 => ?_) (fun h234 => ?_)
      · refine j_tinE (w := 36) 1288 dL_law_33 h234 (by decide) (by decide) rfl (by decide) ?_
        refine j_aload_n 1289 1 dL_law_1288 rfl rfl rfl ?_
        refine j_callV_iw (ci := 5) (As := []) (st := []) 1292 (okX6_image G x l1) kc_X6_image kl_L_167 ki_X6_image kv_X6_image kh_X6 (by decide) (fun _ h => rvX6_image h) ⟨rfl, rfl, Nat.le_of_ble_eq_true rfl, Nat.le_of_ble_eq_true rfl⟩ (Nat.le_of_ble_eq_true rfl) ⟨Nat.le_of_ble_eq_true rfl, Nat.le_of_ble_eq_true rfl⟩ rfl dL_law_1289 rfl rfl ?_
        intro q232
        refine j_aload_n 1293 2 dL_law_1292 rfl rfl rfl ?_
        refine j_callV_iw (ci := 6) (As := []) (st := [.int q232.1]) 1296 (okX7_image G q232.2 l2) kc_X7_image kl_L_170 ki_X7_image kv_X7_image kh_X7 (by decide) (fun _ h => rvX7_image h) ⟨rfl, rfl, Nat.le_of_ble_eq_true rfl, Nat.le_of_ble_eq_true rfl⟩ (Nat.le_of_ble_eq_true rfl) ⟨Nat.le_of_ble_eq_true rfl, Nat.le_of_ble_eq_true rfl⟩ rfl dL_law_1293 rfl rfl ?_
        intro q233
        refine j_icmp_eq 1539 1299 dL_law_1296 (by decide) rfl ?_ ?_
        · refine j_iinc 1542 3 [(3, .int (l3 + 7)), (0, .ref b), (1, .ref l1), (2, .ref l2)] dL_law_1539 rfl rfl (ii_7 _) (by decide) rfl ?_
          refine j_goto 18 dL_law_1542 (by decide) ?_
          refine j_sub [1, 2, 3, 0] rfl ?_
          exact ih l1 l2 (l3 + 7) q233.2
        · refine j_iconst (v := 0) 1300 dL_law_1299 rfl ic_0 ?_
          exact j_none
      refine j_ite (fun h237 => ?_) (fun h237 => ?_)
      · refine j_tinE (w := 37) 1301 dL_law_33 h237 (by decide) (by decide) rfl (by decide) ?_
        refine j_aload_n 1302 1 dL_law_1301 rfl rfl rfl ?_
        refine j_callV_iw (ci := 5) (As := []) (st := []) 1305 (okX6_back G x l1) kc_X6_back kl_L_171 ki_X6_back kv_X6_back kh_X6 (by decide) (fun _ h => rvX6_back h) ⟨rfl, rfl, Nat.le_of_ble_eq_true rfl, Nat.le_of_ble_eq_true rfl⟩ (Nat.le_of_ble_eq_true rfl) ⟨Nat.le_of_ble_eq_true rfl, Nat.le_of_ble_eq_true rfl⟩ rfl dL_law_1302 rfl rfl ?_
        intro q235
        refine j_aload_n 1306 2 dL_law_1305 rfl rfl rfl ?_
        refine j_callV_iw (ci := 6) (As := []) (st := [.int q235.1]) 1309 (okX7_back G q235.2 l2) kc_X7_back kl_L_174 ki_X7_back kv_X7_back kh_X7 (by decide) (fun _ h => rvX7_back h) ⟨rfl, rfl, Nat.le_of_ble_eq_true rfl, Nat.le_of_ble_eq_true rfl⟩ (Nat.le_of_ble_eq_true rfl) ⟨Nat.le_of_ble_eq_true rfl, Nat.le_of_ble_eq_true rfl⟩ rfl dL_law_1306 rfl rfl ?_
        intro q236
        refine j_icmp_eq 1539 1312 dL_law_1309 (by decide) rfl ?_ ?_
        · refine j_iinc 1542 3 [(3, .int (l3 + 7)), (0, .ref b), (1, .ref l1), (2, .ref l2)] dL_law_1539 rfl rfl (ii_7 _) (by decide) rfl ?_
          refine j_goto 18 dL_law_1542 (by decide) ?_
          refine j_sub [1, 2, 3, 0] rfl ?_
          exact ih l1 l2 (l3 + 7) q236.2
        · refine j_iconst (v := 0) 1313 dL_law_1312 rfl ic_0 ?_
          exact j_none
      refine j_ite (fun h248 => ?_) (fun h248 => ?_)
      · refine j_tinE (w := 38) 1314 dL_law_33 h248 (by decide) (by decide) rfl (by decide) ?_
        refine j_aload_n 1315 1 dL_law_1314 rfl rfl rfl ?_
        refine j_aload_n 1316 0 dL_law_1315 rfl rfl rfl ?_
        refine j_iload_n 1317 3 dL_law_1316 rfl rfl rfl ?_
        refine j_iconst (v := 1) 1318 dL_law_1317 rfl ic_1 ?_
        refine j_iadd 1319 dL_law_1318 rfl ?_
        refine j_sI 1320 (lwX G b L xs nm) dL_law_1319 rfl ?_
        intro v238
        refine j_aload_n 1321 0 dL_law_1320 rfl rfl rfl ?_
        refine j_iload_n 1322 3 dL_law_1321 rfl rfl rfl ?_
        refine j_iconst (v := 2) 1323 dL_law_1322 rfl ic_2 ?_
        refine j_iadd 1324 dL_law_1323 rfl ?_
        refine j_sI 1325 (lwX G b L xs nm) dL_law_1324 rfl ?_
        intro v239
        refine j_aload_n 1326 0 dL_law_1325 rfl rfl rfl ?_
        refine j_iload_n 1327 3 dL_law_1326 rfl rfl rfl ?_
        refine j_iconst (v := 3) 1328 dL_law_1327 rfl ic_3 ?_
        refine j_iadd 1329 dL_law_1328 rfl ?_
        refine j_sI 1330 (lwX G b L xs nm) dL_law_1329 rfl ?_
        intro v240
        refine j_aload_n 1331 0 dL_law_1330 rfl rfl rfl ?_
        refine j_iload_n 1332 3 dL_law_1331 rfl rfl rfl ?_
        refine j_iconst (v := 4) 1333 dL_law_1332 rfl ic_4 ?_
        refine j_iadd 1334 dL_law_1333 rfl ?_
        refine j_sI 1335 (lwX G b L xs nm) dL_law_1334 rfl ?_
        intro v241
        refine j_callV_iw (ci := 5) (As := [.int v238, .int v239, .int v240, .int v241]) (st := []) 1338 (okX6_load G x l1 v238 v239 v240 v241) kc_X6_load kl_L_175 ki_X6_load kv_X6_load kh_X6 (by decide) (fun _ h => rvX6_load h) ⟨rfl, rfl, Nat.le_of_ble_eq_true rfl, Nat.le_of_ble_eq_true rfl⟩ (Nat.le_of_ble_eq_true rfl) ⟨Nat.le_of_ble_eq_true rfl, Nat.le_of_ble_eq_true rfl⟩ rfl dL_law_1335 rfl rfl ?_
        intro q242
        refine j_aload_n 1339 2 dL_law_1338 rfl rfl rfl ?_
        refine j_aload_n 1340 0 dL_law_1339 rfl rfl rfl ?_
        refine j_iload_n 1341 3 dL_law_1340 rfl rfl rfl ?_
        refine j_iconst (v := 1) 1342 dL_law_1341 rfl ic_1 ?_
        refine j_iadd 1343 dL_law_1342 rfl ?_
        refine j_sI 1344 (lwX G b L xs nm) dL_law_1343 rfl ?_
        intro v243
        refine j_aload_n 1345 0 dL_law_1344 rfl rfl rfl ?_
        refine j_iload_n 1346 3 dL_law_1345 rfl rfl rfl ?_
        refine j_iconst (v := 2) 1347 dL_law_1346 rfl ic_2 ?_
        refine j_iadd 1348 dL_law_1347 rfl ?_
        refine j_sI 1349 (lwX G b L xs nm) dL_law_1348 rfl ?_
        intro v244
        refine j_aload_n 1350 0 dL_law_1349 rfl rfl rfl ?_
        refine j_iload_n 1351 3 dL_law_1350 rfl rfl rfl ?_
        refine j_iconst (v := 3) 1352 dL_law_1351 rfl ic_3 ?_
        refine j_iadd 1353 dL_law_1352 rfl ?_
        refine j_sI 1354 (lwX G b L xs nm) dL_law_1353 rfl ?_
        intro v245
        refine j_aload_n 1355 0 dL_law_1354 rfl rfl rfl ?_
        refine j_iload_n 1356 3 dL_law_1355 rfl rfl rfl ?_
        refine j_iconst (v := 4) 1357 dL_law_1356 rfl ic_4 ?_
        refine j_iadd 1358 dL_law_1357 rfl ?_
        refine j_sI 1359 (lwX G b L xs nm) dL_law_1358 rfl ?_
        intro v246
        refine j_callV_iw (ci := 6) (As := [.int v243, .int v244, .int v245, .int v246]) (st := [.int q242.1]) 1362 (okX7_load G q242.2 l2 v243 v244 v245 v246) kc_X7_load kl_L_178 ki_X7_load kv_X7_load kh_X7 (by decide) (fun _ h => rvX7_load h) ⟨rfl, rfl, Nat.le_of_ble_eq_true rfl, Nat.le_of_ble_eq_true rfl⟩ (Nat.le_of_ble_eq_true rfl) ⟨Nat.le_of_ble_eq_true rfl, Nat.le_of_ble_eq_true rfl⟩ rfl dL_law_1359 rfl rfl ?_
        intro q247
        refine j_icmp_eq 1539 1365 dL_law_1362 (by decide) rfl ?_ ?_
        · refine j_iinc 1542 3 [(3, .int (l3 + 7)), (0, .ref b), (1, .ref l1), (2, .ref l2)] dL_law_1539 rfl rfl (ii_7 _) (by decide) rfl ?_
          refine j_goto 18 dL_law_1542 (by decide) ?_
          refine j_sub [1, 2, 3, 0] rfl ?_
          exact ih l1 l2 (l3 + 7) q247.2
        · refine j_iconst (v := 0) 1366 dL_law_1365 rfl ic_0 ?_
          exact j_none
      refine j_ite (fun h253 => ?_) (fun h253 => ?_)
      · refine j_tinE (w := 39) 1367 dL_law_33 h253 (by decide) (by decide) rfl (by decide) ?_
        refine j_aload_n 1368 1 dL_law_1367 rfl rfl rfl ?_
        refine j_aload_n 1369 0 dL_law_1368 rfl rfl rfl ?_
        refine j_iload_n 1370 3 dL_law_1369 rfl rfl rfl ?_
        refine j_iconst (v := 1) 1371 dL_law_1370 rfl ic_1 ?_
        refine j_iadd 1372 dL_law_1371 rfl ?_
        refine j_sI 1373 (lwX G b L xs nm) dL_law_1372 rfl ?_
        intro v249
        refine j_callV_i (ci := 5) (As := [.int v249]) (st := []) 1376 (okX6_count G x l1 v249) kc_X6_count kl_L_179 ki_X6_count kv_X6_count kh_X6 (by decide) (fun _ h => rvX6_count h) ⟨rfl, rfl, Nat.le_of_ble_eq_true rfl, Nat.le_of_ble_eq_true rfl⟩ (Nat.le_of_ble_eq_true rfl) ⟨Nat.le_of_ble_eq_true rfl, Nat.le_of_ble_eq_true rfl⟩ rfl dL_law_1373 rfl rfl ?_
        intro v250
        refine j_aload_n 1377 2 dL_law_1376 rfl rfl rfl ?_
        refine j_aload_n 1378 0 dL_law_1377 rfl rfl rfl ?_
        refine j_iload_n 1379 3 dL_law_1378 rfl rfl rfl ?_
        refine j_iconst (v := 1) 1380 dL_law_1379 rfl ic_1 ?_
        refine j_iadd 1381 dL_law_1380 rfl ?_
        refine j_sI 1382 (lwX G b L xs nm) dL_law_1381 rfl ?_
        intro v251
        refine j_callV_i (ci := 6) (As := [.int v251]) (st := [.int v250]) 1385 (okX7_count G x l2 v251) kc_X7_count kl_L_182 ki_X7_count kv_X7_count kh_X7 (by decide) (fun _ h => rvX7_count h) ⟨rfl, rfl, Nat.le_of_ble_eq_true rfl, Nat.le_of_ble_eq_true rfl⟩ (Nat.le_of_ble_eq_true rfl) ⟨Nat.le_of_ble_eq_true rfl, Nat.le_of_ble_eq_true rfl⟩ rfl dL_law_1382 rfl rfl ?_
        intro v252
        refine j_icmp_eq 1539 1388 dL_law_1385 (by decide) rfl ?_ ?_
        · refine j_iinc 1542 3 [(3, .int (l3 + 7)), (0, .ref b), (1, .ref l1), (2, .ref l2)] dL_law_1539 rfl rfl (ii_7 _) (by decide) rfl ?_
          refine j_goto 18 dL_law_1542 (by decide) ?_
          refine j_sub [1, 2, 3, 0] rfl ?_
          exact ih l1 l2 (l3 + 7) x
        · refine j_iconst (v := 0) 1389 dL_law_1388 rfl ic_0 ?_
          exact j_none
      refine j_ite (fun h262 => ?_) (fun h262 => ?_)
      · refine j_tinE (w := 40) 1390 dL_law_33 h262 (by decide) (by decide) rfl (by decide) ?_
        refine j_aload_n 1391 1 dL_law_1390 rfl rfl rfl ?_
        refine j_aload_n 1392 0 dL_law_1391 rfl rfl rfl ?_
        refine j_iload_n 1393 3 dL_law_1392 rfl rfl rfl ?_
        refine j_iconst (v := 1) 1394 dL_law_1393 rfl ic_1 ?_
        refine j_iadd 1395 dL_law_1394 rfl ?_
        refine j_sI 1396 (lwX G b L xs nm) dL_law_1395 rfl ?_
        intro v254
        refine j_aload_n 1397 0 dL_law_1396 rfl rfl rfl ?_
        refine j_iload_n 1398 3 dL_law_1397 rfl rfl rfl ?_
        refine j_iconst (v := 2) 1399 dL_law_1398 rfl ic_2 ?_
        refine j_iadd 1400 dL_law_1399 rfl ?_
        refine j_sI 1401 (lwX G b L xs nm) dL_law_1400 rfl ?_
        intro v255
        refine j_aload_n 1402 0 dL_law_1401 rfl rfl rfl ?_
        refine j_iload_n 1403 3 dL_law_1402 rfl rfl rfl ?_
        refine j_iconst (v := 3) 1404 dL_law_1403 rfl ic_3 ?_
        refine j_iadd 1405 dL_law_1404 rfl ?_
        refine j_sI 1406 (lwX G b L xs nm) dL_law_1405 rfl ?_
        intro v256
        refine j_callV_iw (ci := 5) (As := [.int v254, .int v255, .int v256]) (st := []) 1409 (okX6_sheet G x l1 v254 v255 v256) kc_X6_sheet kl_L_183 ki_X6_sheet kv_X6_sheet kh_X6 (by decide) (fun _ h => rvX6_sheet h) ⟨rfl, rfl, Nat.le_of_ble_eq_true rfl, Nat.le_of_ble_eq_true rfl⟩ (Nat.le_of_ble_eq_true rfl) ⟨Nat.le_of_ble_eq_true rfl, Nat.le_of_ble_eq_true rfl⟩ rfl dL_law_1406 rfl rfl ?_
        intro q257
        refine j_aload_n 1410 2 dL_law_1409 rfl rfl rfl ?_
        refine j_aload_n 1411 0 dL_law_1410 rfl rfl rfl ?_
        refine j_iload_n 1412 3 dL_law_1411 rfl rfl rfl ?_
        refine j_iconst (v := 1) 1413 dL_law_1412 rfl ic_1 ?_
        refine j_iadd 1414 dL_law_1413 rfl ?_
        refine j_sI 1415 (lwX G b L xs nm) dL_law_1414 rfl ?_
        intro v258
        refine j_aload_n 1416 0 dL_law_1415 rfl rfl rfl ?_
        refine j_iload_n 1417 3 dL_law_1416 rfl rfl rfl ?_
        refine j_iconst (v := 2) 1418 dL_law_1417 rfl ic_2 ?_
        refine j_iadd 1419 dL_law_1418 rfl ?_
        refine j_sI 1420 (lwX G b L xs nm) dL_law_1419 rfl ?_
        intro v259
        refine j_aload_n 1421 0 dL_law_1420 rfl rfl rfl ?_
        refine j_iload_n 1422 3 dL_law_1421 rfl rfl rfl ?_
        refine j_iconst (v := 3) 1423 dL_law_1422 rfl ic_3 ?_
        refine j_iadd 1424 dL_law_1423 rfl ?_
        refine j_sI 1425 (lwX G b L xs nm) dL_law_1424 rfl ?_
        intro v260
        refine j_callV_iw (ci := 6) (As := [.int v258, .int v259, .int v260]) (st := [.int q257.1]) 1428 (okX7_sheet G q257.2 l2 v258 v259 v260) kc_X7_sheet kl_L_186 ki_X7_sheet kv_X7_sheet kh_X7 (by decide) (fun _ h => rvX7_sheet h) ⟨rfl, rfl, Nat.le_of_ble_eq_true rfl, Nat.le_of_ble_eq_true rfl⟩ (Nat.le_of_ble_eq_true rfl) ⟨Nat.le_of_ble_eq_true rfl, Nat.le_of_ble_eq_true rfl⟩ rfl dL_law_1425 rfl rfl ?_
        intro q261
        refine j_icmp_eq 1539 1431 dL_law_1428 (by decide) rfl ?_ ?_
        · refine j_iinc 1542 3 [(3, .int (l3 + 7)), (0, .ref b), (1, .ref l1), (2, .ref l2)] dL_law_1539 rfl rfl (ii_7 _) (by decide) rfl ?_
          refine j_goto 18 dL_law_1542 (by decide) ?_
          refine j_sub [1, 2, 3, 0] rfl ?_
          exact ih l1 l2 (l3 + 7) q261.2
        · refine j_iconst (v := 0) 1432 dL_law_1431 rfl ic_0 ?_
          exact j_none
      refine j_ite (fun h271 => ?_) (fun h271 => ?_)
      · refine j_tinE (w := 41) 1433 dL_law_33 h271 (by decide) (by decide) rfl (by decide) ?_
        refine j_aload_n 1434 1 dL_law_1433 rfl rfl rfl ?_
        refine j_aload_n 1435 0 dL_law_1434 rfl rfl rfl ?_
        refine j_iload_n 1436 3 dL_law_1435 rfl rfl rfl ?_
        refine j_iconst (v := 1) 1437 dL_law_1436 rfl ic_1 ?_
        refine j_iadd 1438 dL_law_1437 rfl ?_
        refine j_sI 1439 (lwX G b L xs nm) dL_law_1438 rfl ?_
        intro v263
        refine j_aload_n 1440 0 dL_law_1439 rfl rfl rfl ?_
        refine j_iload_n 1441 3 dL_law_1440 rfl rfl rfl ?_
        refine j_iconst (v := 2) 1442 dL_law_1441 rfl ic_2 ?_
        refine j_iadd 1443 dL_law_1442 rfl ?_
        refine j_sI 1444 (lwX G b L xs nm) dL_law_1443 rfl ?_
        intro v264
        refine j_aload_n 1445 0 dL_law_1444 rfl rfl rfl ?_
        refine j_iload_n 1446 3 dL_law_1445 rfl rfl rfl ?_
        refine j_iconst (v := 3) 1447 dL_law_1446 rfl ic_3 ?_
        refine j_iadd 1448 dL_law_1447 rfl ?_
        refine j_sI 1449 (lwX G b L xs nm) dL_law_1448 rfl ?_
        intro v265
        refine j_callV_iw (ci := 5) (As := [.int v263, .int v264, .int v265]) (st := []) 1452 (okX6_put G x l1 v263 v264 v265) kc_X6_put kl_L_187 ki_X6_put kv_X6_put kh_X6 (by decide) (fun _ h => rvX6_put h) ⟨rfl, rfl, Nat.le_of_ble_eq_true rfl, Nat.le_of_ble_eq_true rfl⟩ (Nat.le_of_ble_eq_true rfl) ⟨Nat.le_of_ble_eq_true rfl, Nat.le_of_ble_eq_true rfl⟩ rfl dL_law_1449 rfl rfl ?_
        intro q266
        refine j_aload_n 1453 2 dL_law_1452 rfl rfl rfl ?_
        refine j_aload_n 1454 0 dL_law_1453 rfl rfl rfl ?_
        refine j_iload_n 1455 3 dL_law_1454 rfl rfl rfl ?_
        refine j_iconst (v := 1) 1456 dL_law_1455 rfl ic_1 ?_
        refine j_iadd 1457 dL_law_1456 rfl ?_
        refine j_sI 1458 (lwX G b L xs nm) dL_law_1457 rfl ?_
        intro v267
        refine j_aload_n 1459 0 dL_law_1458 rfl rfl rfl ?_
        refine j_iload_n 1460 3 dL_law_1459 rfl rfl rfl ?_
        refine j_iconst (v := 2) 1461 dL_law_1460 rfl ic_2 ?_
        refine j_iadd 1462 dL_law_1461 rfl ?_
        refine j_sI 1463 (lwX G b L xs nm) dL_law_1462 rfl ?_
        intro v268
        refine j_aload_n 1464 0 dL_law_1463 rfl rfl rfl ?_
        refine j_iload_n 1465 3 dL_law_1464 rfl rfl rfl ?_
        refine j_iconst (v := 3) 1466 dL_law_1465 rfl ic_3 ?_
        refine j_iadd 1467 dL_law_1466 rfl ?_
        refine j_sI 1468 (lwX G b L xs nm) dL_law_1467 rfl ?_
        intro v269
        refine j_callV_iw (ci := 6) (As := [.int v267, .int v268, .int v269]) (st := [.int q266.1]) 1471 (okX7_put G q266.2 l2 v267 v268 v269) kc_X7_put kl_L_190 ki_X7_put kv_X7_put kh_X7 (by decide) (fun _ h => rvX7_put h) ⟨rfl, rfl, Nat.le_of_ble_eq_true rfl, Nat.le_of_ble_eq_true rfl⟩ (Nat.le_of_ble_eq_true rfl) ⟨Nat.le_of_ble_eq_true rfl, Nat.le_of_ble_eq_true rfl⟩ rfl dL_law_1468 rfl rfl ?_
        intro q270
        refine j_icmp_eq 1539 1474 dL_law_1471 (by decide) rfl ?_ ?_
        · refine j_iinc 1542 3 [(3, .int (l3 + 7)), (0, .ref b), (1, .ref l1), (2, .ref l2)] dL_law_1539 rfl rfl (ii_7 _) (by decide) rfl ?_
          refine j_goto 18 dL_law_1542 (by decide) ?_
          refine j_sub [1, 2, 3, 0] rfl ?_
          exact ih l1 l2 (l3 + 7) q270.2
        · refine j_iconst (v := 0) 1475 dL_law_1474 rfl ic_0 ?_
          exact j_none
      refine j_ite (fun h284 => ?_) (fun h284 => ?_)
      · refine j_tinE (w := 42) 1476 dL_law_33 h284 (by decide) (by decide) rfl (by decide) ?_
        refine j_aload_n 1477 1 dL_law_1476 rfl rfl rfl ?_
        refine j_aload_n 1478 0 dL_law_1477 rfl rfl rfl ?_
        refine j_iload_n 1479 3 dL_law_1478 rfl rfl rfl ?_
        refine j_iconst (v := 1) 1480 dL_law_1479 rfl ic_1 ?_
        refine j_iadd 1481 dL_law_1480 rfl ?_
        refine j_sI 1482 (lwX G b L xs nm) dL_law_1481 rfl ?_
        intro v272
        refine j_aload_n 1483 0 dL_law_1482 rfl rfl rfl ?_
        refine j_iload_n 1484 3 dL_law_1483 rfl rfl rfl ?_
        refine j_iconst (v := 2) 1485 dL_law_1484 rfl ic_2 ?_
        refine j_iadd 1486 dL_law_1485 rfl ?_
        refine j_sI 1487 (lwX G b L xs nm) dL_law_1486 rfl ?_
        intro v273
        refine j_aload_n 1488 0 dL_law_1487 rfl rfl rfl ?_
        refine j_iload_n 1489 3 dL_law_1488 rfl rfl rfl ?_
        refine j_iconst (v := 3) 1490 dL_law_1489 rfl ic_3 ?_
        refine j_iadd 1491 dL_law_1490 rfl ?_
        refine j_sI 1492 (lwX G b L xs nm) dL_law_1491 rfl ?_
        intro v274
        refine j_aload_n 1493 0 dL_law_1492 rfl rfl rfl ?_
        refine j_iload_n 1494 3 dL_law_1493 rfl rfl rfl ?_
        refine j_iconst (v := 4) 1495 dL_law_1494 rfl ic_4 ?_
        refine j_iadd 1496 dL_law_1495 rfl ?_
        refine j_sI 1497 (lwX G b L xs nm) dL_law_1496 rfl ?_
        intro v275
        refine j_aload_n 1498 0 dL_law_1497 rfl rfl rfl ?_
        refine j_iload_n 1499 3 dL_law_1498 rfl rfl rfl ?_
        refine j_iconst (v := 5) 1500 dL_law_1499 rfl ic_5 ?_
        refine j_iadd 1501 dL_law_1500 rfl ?_
        refine j_sI 1502 (lwX G b L xs nm) dL_law_1501 rfl ?_
        intro v276
        refine j_callV_iw (ci := 5) (As := [.int v272, .int v273, .int v274, .int v275, .int v276]) (st := []) 1505 (okX6_copy G x l1 v272 v273 v274 v275 v276) kc_X6_copy kl_L_191 ki_X6_copy kv_X6_copy kh_X6 (by decide) (fun _ h => rvX6_copy h) ⟨rfl, rfl, Nat.le_of_ble_eq_true rfl, Nat.le_of_ble_eq_true rfl⟩ (Nat.le_of_ble_eq_true rfl) ⟨Nat.le_of_ble_eq_true rfl, Nat.le_of_ble_eq_true rfl⟩ rfl dL_law_1502 rfl rfl ?_
        intro q277
        refine j_aload_n 1506 2 dL_law_1505 rfl rfl rfl ?_
        refine j_aload_n 1507 0 dL_law_1506 rfl rfl rfl ?_
        refine j_iload_n 1508 3 dL_law_1507 rfl rfl rfl ?_
        refine j_iconst (v := 1) 1509 dL_law_1508 rfl ic_1 ?_
        refine j_iadd 1510 dL_law_1509 rfl ?_
        refine j_sI 1511 (lwX G b L xs nm) dL_law_1510 rfl ?_
        intro v278
        refine j_aload_n 1512 0 dL_law_1511 rfl rfl rfl ?_
        refine j_iload_n 1513 3 dL_law_1512 rfl rfl rfl ?_
        refine j_iconst (v := 2) 1514 dL_law_1513 rfl ic_2 ?_
        refine j_iadd 1515 dL_law_1514 rfl ?_
        refine j_sI 1516 (lwX G b L xs nm) dL_law_1515 rfl ?_
        intro v279
        refine j_aload_n 1517 0 dL_law_1516 rfl rfl rfl ?_
        refine j_iload_n 1518 3 dL_law_1517 rfl rfl rfl ?_
        refine j_iconst (v := 3) 1519 dL_law_1518 rfl ic_3 ?_
        refine j_iadd 1520 dL_law_1519 rfl ?_
        refine j_sI 1521 (lwX G b L xs nm) dL_law_1520 rfl ?_
        intro v280
        refine j_aload_n 1522 0 dL_law_1521 rfl rfl rfl ?_
        refine j_iload_n 1523 3 dL_law_1522 rfl rfl rfl ?_
        refine j_iconst (v := 4) 1524 dL_law_1523 rfl ic_4 ?_
        refine j_iadd 1525 dL_law_1524 rfl ?_
        refine j_sI 1526 (lwX G b L xs nm) dL_law_1525 rfl ?_
        intro v281
        refine j_aload_n 1527 0 dL_law_1526 rfl rfl rfl ?_
        refine j_iload_n 1528 3 dL_law_1527 rfl rfl rfl ?_
        refine j_iconst (v := 5) 1529 dL_law_1528 rfl ic_5 ?_
        refine j_iadd 1530 dL_law_1529 rfl ?_
        refine j_sI 1531 (lwX G b L xs nm) dL_law_1530 rfl ?_
        intro v282
        refine j_callV_iw (ci := 6) (As := [.int v278, .int v279, .int v280, .int v281, .int v282]) (st := [.int q277.1]) 1534 (okX7_copy G q277.2 l2 v278 v279 v280 v281 v282) kc_X7_copy kl_L_195 ki_X7_copy kv_X7_copy kh_X7 (by decide) (fun _ h => rvX7_copy h) ⟨rfl, rfl, Nat.le_of_ble_eq_true rfl, Nat.le_of_ble_eq_true rfl⟩ (Nat.le_of_ble_eq_true rfl) ⟨Nat.le_of_ble_eq_true rfl, Nat.le_of_ble_eq_true rfl⟩ rfl dL_law_1531 rfl rfl ?_
        intro q283
        refine j_icmp_eq 1539 1537 dL_law_1534 (by decide) rfl ?_ ?_
        · refine j_iinc 1542 3 [(3, .int (l3 + 7)), (0, .ref b), (1, .ref l1), (2, .ref l2)] dL_law_1539 rfl rfl (ii_7 _) (by decide) rfl ?_
          refine j_goto 18 dL_law_1542 (by decide) ?_
          refine j_sub [1, 2, 3, 0] rfl ?_
          exact ih l1 l2 (l3 + 7) q283.2
        · refine j_iconst (v := 0) 1538 dL_law_1537 rfl ic_0 ?_
          exact j_none
      have h16n := sw_ne h16
      have h19n := sw_ne h19
      have h28n := sw_ne h28
      have h35n := sw_ne h35
      have h42n := sw_ne h42
      have h49n := sw_ne h49
      have h54n := sw_ne h54
      have h61n := sw_ne h61
      have h68n := sw_ne h68
      have h75n := sw_ne h75
      have h78n := sw_ne h78
      have h83n := sw_ne h83
      have h90n := sw_ne h90
      have h95n := sw_ne h95
      have h98n := sw_ne h98
      have h103n := sw_ne h103
      have h108n := sw_ne h108
      have h113n := sw_ne h113
      have h122n := sw_ne h122
      have h127n := sw_ne h127
      have h132n := sw_ne h132
      have h137n := sw_ne h137
      have h146n := sw_ne h146
      have h153n := sw_ne h153
      have h158n := sw_ne h158
      have h165n := sw_ne h165
      have h172n := sw_ne h172
      have h175n := sw_ne h175
      have h178n := sw_ne h178
      have h181n := sw_ne h181
      have h188n := sw_ne h188
      have h197n := sw_ne h197
      have h206n := sw_ne h206
      have h213n := sw_ne h213
      have h228n := sw_ne h228
      have h231n := sw_ne h231
      have h234n := sw_ne h234
      have h237n := sw_ne h237
      have h248n := sw_ne h248
      have h253n := sw_ne h253
      have h262n := sw_ne h262
      have h271n := sw_ne h271
      have h284n := sw_ne h284
      have h16m : (Int32.toInt 0) = 0 := by decide
      have h19m : (Int32.toInt 1) = 1 := by decide
      have h28m : (Int32.toInt 2) = 2 := by decide
      have h35m : (Int32.toInt 3) = 3 := by decide
      have h42m : (Int32.toInt 4) = 4 := by decide
      have h49m : (Int32.toInt 5) = 5 := by decide
      have h54m : (Int32.toInt 6) = 6 := by decide
      have h61m : (Int32.toInt 7) = 7 := by decide
      have h68m : (Int32.toInt 8) = 8 := by decide
      have h75m : (Int32.toInt 9) = 9 := by decide
      have h78m : (Int32.toInt 10) = 10 := by decide
      have h83m : (Int32.toInt 11) = 11 := by decide
      have h90m : (Int32.toInt 12) = 12 := by decide
      have h95m : (Int32.toInt 13) = 13 := by decide
      have h98m : (Int32.toInt 14) = 14 := by decide
      have h103m : (Int32.toInt 15) = 15 := by decide
      have h108m : (Int32.toInt 16) = 16 := by decide
      have h113m : (Int32.toInt 17) = 17 := by decide
      have h122m : (Int32.toInt 18) = 18 := by decide
      have h127m : (Int32.toInt 19) = 19 := by decide
      have h132m : (Int32.toInt 20) = 20 := by decide
      have h137m : (Int32.toInt 21) = 21 := by decide
      have h146m : (Int32.toInt 22) = 22 := by decide
      have h153m : (Int32.toInt 23) = 23 := by decide
      have h158m : (Int32.toInt 24) = 24 := by decide
      have h165m : (Int32.toInt 25) = 25 := by decide
      have h172m : (Int32.toInt 26) = 26 := by decide
      have h175m : (Int32.toInt 27) = 27 := by decide
      have h178m : (Int32.toInt 28) = 28 := by decide
      have h181m : (Int32.toInt 29) = 29 := by decide
      have h188m : (Int32.toInt 30) = 30 := by decide
      have h197m : (Int32.toInt 31) = 31 := by decide
      have h206m : (Int32.toInt 32) = 32 := by decide
      have h213m : (Int32.toInt 33) = 33 := by decide
      have h228m : (Int32.toInt 34) = 34 := by decide
      have h231m : (Int32.toInt 35) = 35 := by decide
      have h234m : (Int32.toInt 36) = 36 := by decide
      have h237m : (Int32.toInt 37) = 37 := by decide
      have h248m : (Int32.toInt 38) = 38 := by decide
      have h253m : (Int32.toInt 39) = 39 := by decide
      have h262m : (Int32.toInt 40) = 40 := by decide
      have h271m : (Int32.toInt 41) = 41 := by decide
      have h284m : (Int32.toInt 42) = 42 := by decide
      refine j_tout 1539 dL_law_33 (by omega) (by decide) ?_
      refine j_iinc 1542 3 [(3, .int (l3 + 7)), (0, .ref b), (1, .ref l1), (2, .ref l2)] dL_law_1539 rfl rfl (ii_7 _) (by decide) rfl ?_
      refine j_goto 18 dL_law_1542 (by decide) ?_
      refine j_sub [1, 2, 3, 0] rfl ?_
      exact ih l1 l2 (l3 + 7) x
def L_law (xs : Nat → Int32) (L : Nat) (x : Hs) : Option Hs := (nC x (.inr (5, df_X6))).bind fun q1 =>
  (X6_init q1.1 q1.2).bind fun y2 =>
  (nC y2 (.inr (6, df_X7))).bind fun q3 =>
  (X7_init q3.1 q3.2).bind fun y4 =>
  L_law_L18 xs L fu q1.1 q3.1 0 y4
theorem okL_law (G : JG) (b L : Nat) (xs : Nat → Int32) (nm : String) (x : Hs) : JM G RL cL_law 4 (lwZ G b L xs nm) (fun r : Hs => ((none, r) : JR)) 0 [(0, .ref b)] [] x 0 0 (L_law xs L x) := by
  unfold L_law
  refine j_new 3 kc_X6 kcl_L_7 kin_X6 kini_X6 kd_X6 (Nat.le_of_ble_eq_true rfl) (Nat.le_of_ble_eq_true rfl) dL_law_0 rfl ?_
  intro q1
  refine j_dup 4 dL_law_3 rfl rfl ?_
  refine j_callI_v (As := []) (st := [.ref q1.1]) 7 (okX6_init G q1.2 q1.1) rfl kc_X6_init kl_L_9 ki_X6_init ⟨rfl, rfl, Nat.le_of_ble_eq_true rfl, Nat.le_of_ble_eq_true rfl⟩ (Nat.le_of_ble_eq_true rfl) ⟨Nat.le_of_ble_eq_true rfl, Nat.le_of_ble_eq_true rfl⟩ rfl dL_law_4 rfl rfl ?_
  intro y2
  refine j_astore_n 8 [(1, .ref q1.1), (0, .ref b)] dL_law_7 rfl rfl (by decide) rfl ?_
  refine j_new 11 kc_X7 kcl_L_10 kin_X7 kini_X7 kd_X7 (Nat.le_of_ble_eq_true rfl) (Nat.le_of_ble_eq_true rfl) dL_law_8 rfl ?_
  intro q3
  refine j_dup 12 dL_law_11 rfl rfl ?_
  refine j_callI_v (As := []) (st := [.ref q3.1]) 15 (okX7_init G q3.2 q3.1) rfl kc_X7_init kl_L_12 ki_X7_init ⟨rfl, rfl, Nat.le_of_ble_eq_true rfl, Nat.le_of_ble_eq_true rfl⟩ (Nat.le_of_ble_eq_true rfl) ⟨Nat.le_of_ble_eq_true rfl, Nat.le_of_ble_eq_true rfl⟩ rfl dL_law_12 rfl rfl ?_
  intro y4
  refine j_astore_n 16 [(2, .ref q3.1), (1, .ref q1.1), (0, .ref b)] dL_law_15 rfl rfl (by decide) rfl ?_
  refine j_iconst (v := 0) 17 dL_law_16 rfl ic_0 ?_
  refine j_istore_n 18 [(3, .int 0), (2, .ref q3.1), (1, .ref q1.1), (0, .ref b)] dL_law_17 rfl rfl (by decide) rfl ?_
  refine j_sub [3, 2, 1, 0] rfl ?_
  exact okL_law_L18 G b L xs nm fu q1.1 q3.1 0 y4
