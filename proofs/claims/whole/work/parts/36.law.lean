def F_L_body (L : Nat) (xs : Nat → Int32) (a1 a4 : Nat) (r7 : zS → Int32 → Option (Int32 × zS)) (u8 : zS) (x9 : Int32) : Option (Int32 × zS) := if ((nI L) - 6) < x9 then (some (1, u8)) else ((zsc L xs x9).bind fun v11 => zlet ((v11 &&& 31) : Int32) fun x12 => if x12 = 0 then ((zsc L xs (x9 + 1)).bind fun v14 => (zsc L xs (x9 + 2)).bind fun v15 => (zob u8 8 (some a1)).bind fun q18 => (F_X_post u8 q18 v14 v15).bind <| zk fun v16 u17 => (zsc L xs (x9 + 1)).bind fun v19 => (zsc L xs (x9 + 2)).bind fun v20 => (zob u17 9 (some a4)).bind fun q23 => (F_M_post u17 q23 v19 v20).bind <| zk fun v21 u22 => if v16 = v21 then (r7 u22 (x9 + 6)) else (some (0, u22))) else if x12 = 1 then ((zsc L xs (x9 + 1)).bind fun v25 => (zsc L xs (x9 + 2)).bind fun v26 => (zob u8 8 (some a1)).bind fun q29 => (F_X_person u8 q29 v25 v26).bind <| zk fun v27 u28 => (zsc L xs (x9 + 1)).bind fun v30 => (zsc L xs (x9 + 2)).bind fun v31 => (zob u28 9 (some a4)).bind fun q34 => (F_M_person u28 q34 v30 v31).bind <| zk fun v32 u33 => if v27 = v32 then (r7 u33 (x9 + 6)) else (some (0, u33))) else if x12 = 2 then ((zsc L xs (x9 + 1)).bind fun v36 => (zob u8 8 (some a1)).bind fun q39 => (F_X_years u8 q39 v36).bind <| zk fun v37 u38 => (zsc L xs (x9 + 1)).bind fun v40 => (zob u38 9 (some a4)).bind fun q43 => (F_M_years u38 q43 v40).bind <| zk fun v41 u42 => if v37 = v41 then (r7 u42 (x9 + 6)) else (some (0, u42))) else if x12 = 3 then ((zsc L xs (x9 + 1)).bind fun v45 => (zsc L xs (x9 + 2)).bind fun v46 => (zob u8 8 (some a1)).bind fun q49 => (F_X_teach u8 q49 v45 v46).bind <| zk fun v47 u48 => (zsc L xs (x9 + 1)).bind fun v50 => (zsc L xs (x9 + 2)).bind fun v51 => (zob u48 9 (some a4)).bind fun q54 => (F_M_teach u48 q54 v50 v51).bind <| zk fun v52 u53 => if v47 = v52 then (r7 u53 (x9 + 6)) else (some (0, u53))) else if x12 = 4 then ((zsc L xs (x9 + 1)).bind fun v56 => (zsc L xs (x9 + 2)).bind fun v57 => (zsc L xs (x9 + 3)).bind fun v58 => (zob u8 8 (some a1)).bind fun q61 => (F_X_bar u8 q61 v56 v57 v58).bind <| zk fun v59 u60 => (zsc L xs (x9 + 1)).bind fun v62 => (zsc L xs (x9 + 2)).bind fun v63 => (zsc L xs (x9 + 3)).bind fun v64 => (zob u60 9 (some a4)).bind fun q67 => (F_M_bar u60 q67 v62 v63 v64).bind <| zk fun v65 u66 => if v59 = v65 then (r7 u66 (x9 + 6)) else (some (0, u66))) else if x12 = 5 then ((zsc L xs (x9 + 1)).bind fun v69 => (zsc L xs (x9 + 2)).bind fun v70 => (zsc L xs (x9 + 3)).bind fun v71 => (zob u8 8 (some a1)).bind fun q74 => (F_X_told u8 q74 v69 v70 v71).bind <| zk fun v72 u73 => (zsc L xs (x9 + 1)).bind fun v75 => (zsc L xs (x9 + 2)).bind fun v76 => (zsc L xs (x9 + 3)).bind fun v77 => (zob u73 9 (some a4)).bind fun q80 => (F_M_told u73 q80 v75 v76 v77).bind <| zk fun v78 u79 => if v72 = v78 then (r7 u79 (x9 + 6)) else (some (0, u79))) else if x12 = 6 then ((zsc L xs (x9 + 1)).bind fun v82 => (zsc L xs (x9 + 2)).bind fun v83 => (zsc L xs (x9 + 3)).bind fun v84 => (zob u8 8 (some a1)).bind fun q87 => (F_X_feed u8 q87 v82 (((((v83 : Int32).toInt64) : Int64) <<< ((32 : Int32).toInt64 &&& 63)) ||| (((v84 : Int32).toInt64) &&& 4294967295))).bind <| zk fun v85 u86 => (zsc L xs (x9 + 1)).bind fun v88 => (zsc L xs (x9 + 2)).bind fun v89 => (zsc L xs (x9 + 3)).bind fun v90 => (zob u86 9 (some a4)).bind fun q93 => (F_M_feed u86 q93 v88 (((((v89 : Int32).toInt64) : Int64) <<< ((32 : Int32).toInt64 &&& 63)) ||| (((v90 : Int32).toInt64) &&& 4294967295))).bind <| zk fun v91 u92 => if v85 = v91 then (r7 u92 (x9 + 6)) else (some (0, u92))) else if x12 = 7 then ((zob u8 8 (some a1)).bind fun q97 => (F_X_text u8 q97 ).bind <| zk fun v95 u96 => (zob u96 9 (some a4)).bind fun q100 => (F_M_text u96 q100 ).bind <| zk fun v98 u99 => if v95 = v98 then (r7 u99 (x9 + 6)) else (some (0, u99))) else if x12 = 8 then ((zsc L xs (x9 + 1)).bind fun v102 => (zob u8 8 (some a1)).bind fun q105 => (F_X_force u8 q105 v102).bind <| zk fun v103 u104 => (zsc L xs (x9 + 1)).bind fun v106 => (zob u104 9 (some a4)).bind fun q109 => (F_M_force u104 q109 v106).bind <| zk fun v107 u108 => if v103 = v107 then (r7 u108 (x9 + 6)) else (some (0, u108))) else if x12 = 9 then ((zsc L xs (x9 + 1)).bind fun v111 => (zsc L xs (x9 + 2)).bind fun v112 => (zob u8 8 (some a1)).bind fun q115 => (F_X_fill u8 q115 v111 v112).bind <| zk fun v113 u114 => (zsc L xs (x9 + 1)).bind fun v116 => (zsc L xs (x9 + 2)).bind fun v117 => (zob u114 9 (some a4)).bind fun q120 => (F_M_fill u114 q120 v116 v117).bind <| zk fun v118 u119 => if v113 = v118 then (r7 u119 (x9 + 6)) else (some (0, u119))) else if x12 = 10 then ((zsc L xs (x9 + 1)).bind fun v122 => (zob u8 8 (some a1)).bind fun q125 => (F_X_few u8 q125 v122).bind <| zk fun v123 u124 => (zsc L xs (x9 + 1)).bind fun v126 => (zob u124 9 (some a4)).bind fun q129 => (F_M_few u124 q129 v126).bind <| zk fun v127 u128 => if v123 = v127 then (r7 u128 (x9 + 6)) else (some (0, u128))) else if x12 = 11 then ((zsc L xs (x9 + 1)).bind fun v131 => (zob u8 8 (some a1)).bind fun q134 => (F_X_holds u8 q134 v131).bind <| zk fun v132 u133 => (zsc L xs (x9 + 1)).bind fun v135 => (zob u133 9 (some a4)).bind fun q138 => (F_M_holds u133 q138 v135).bind <| zk fun v136 u137 => if v132 = v136 then (r7 u137 (x9 + 6)) else (some (0, u137))) else if x12 = 12 then ((zsc L xs (x9 + 1)).bind fun v140 => (zsc L xs (x9 + 2)).bind fun v141 => (zob u8 8 (some a1)).bind fun q144 => (F_X_worst u8 q144 v140 v141).bind <| zk fun v142 u143 => (zsc L xs (x9 + 1)).bind fun v145 => (zsc L xs (x9 + 2)).bind fun v146 => (zob u143 9 (some a4)).bind fun q149 => (F_M_worst u143 q149 v145 v146).bind <| zk fun v147 u148 => if v142 = v147 then (r7 u148 (x9 + 6)) else (some (0, u148))) else if x12 = 13 then ((zsc L xs (x9 + 1)).bind fun v151 => (zsc L xs (x9 + 2)).bind fun v152 => (zob u8 8 (some a1)).bind fun q155 => (F_X_lessons u8 q155 v151 v152).bind <| zk fun v153 u154 => (zsc L xs (x9 + 1)).bind fun v156 => (zsc L xs (x9 + 2)).bind fun v157 => (zob u154 9 (some a4)).bind fun q160 => (F_M_lessons u154 q160 v156 v157).bind <| zk fun v158 u159 => if v153 = v158 then (r7 u159 (x9 + 6)) else (some (0, u159))) else if x12 = 14 then ((zob u8 8 (some a1)).bind fun q164 => (F_X_ring u8 q164 ).bind <| zk fun v162 u163 => (zob u163 9 (some a4)).bind fun q167 => (F_M_ring u163 q167 ).bind <| zk fun v165 u166 => if v162 = v165 then (r7 u166 (x9 + 6)) else (some (0, u166))) else if x12 = 15 then ((zsc L xs (x9 + 1)).bind fun v169 => (zob u8 8 (some a1)).bind fun q172 => (F_X_sure u8 q172 v169).bind <| zk fun v170 u171 => (zsc L xs (x9 + 1)).bind fun v173 => (zob u171 9 (some a4)).bind fun q176 => (F_M_sure u171 q176 v173).bind <| zk fun v174 u175 => if (lg_cmp v170 v174) = 0 then (r7 u175 (x9 + 6)) else (some (0, u175))) else if x12 = 16 then ((zsc L xs (x9 + 1)).bind fun v178 => (zob u8 8 (some a1)).bind fun q181 => (F_X_done u8 q181 v178).bind <| zk fun v179 u180 => (zsc L xs (x9 + 1)).bind fun v182 => (zob u180 9 (some a4)).bind fun q185 => (F_M_done u180 q185 v182).bind <| zk fun v183 u184 => if v179 = v183 then (r7 u184 (x9 + 6)) else (some (0, u184))) else if x12 = 17 then ((zob u8 8 (some a1)).bind fun q188 => (F_X_even u8 q188 ).bind fun v187 => (zob u8 9 (some a4)).bind fun q190 => (F_M_even u8 q190 ).bind fun v189 => if v187 = v189 then (r7 u8 (x9 + 6)) else (some (0, u8))) else if x12 = 18 then ((zsc L xs (x9 + 1)).bind fun v192 => (zob u8 8 (some a1)).bind fun q195 => (F_X_pay u8 q195 v192).bind <| zk fun v193 u194 => (zsc L xs (x9 + 1)).bind fun v196 => (zob u194 9 (some a4)).bind fun q199 => (F_M_pay u194 q199 v196).bind <| zk fun v197 u198 => if v193 = v197 then (r7 u198 (x9 + 6)) else (some (0, u198))) else if x12 = 19 then ((zob u8 8 (some a1)).bind fun q202 => (F_X_first u8 q202 ).bind fun v201 => (zob u8 9 (some a4)).bind fun q204 => (F_M_first u8 q204 ).bind fun v203 => if v201 = v203 then (r7 u8 (x9 + 6)) else (some (0, u8))) else if x12 = 20 then ((zsc L xs (x9 + 1)).bind fun v206 => (zsc L xs (x9 + 2)).bind fun v207 => (zob u8 8 (some a1)).bind fun q209 => (F_X_judge u8 q209 v206 v207).bind fun v208 => (zsc L xs (x9 + 1)).bind fun v210 => (zsc L xs (x9 + 2)).bind fun v211 => (zob u8 9 (some a4)).bind fun q213 => (F_M_judge u8 q213 v210 v211).bind fun v212 => if v208 = v212 then (r7 u8 (x9 + 6)) else (some (0, u8))) else if x12 = 21 then ((zob u8 8 (some a1)).bind fun q217 => (F_X_image u8 q217 ).bind <| zk fun v215 u216 => (zob u216 9 (some a4)).bind fun q220 => (F_M_image u216 q220 ).bind <| zk fun v218 u219 => if v215 = v218 then (r7 u219 (x9 + 6)) else (some (0, u219))) else if x12 = 22 then ((zob u8 8 (some a1)).bind fun q224 => (F_X_back u8 q224 ).bind <| zk fun v222 u223 => (zob u223 9 (some a4)).bind fun q227 => (F_M_back u223 q227 ).bind <| zk fun v225 u226 => if v222 = v225 then (r7 u226 (x9 + 6)) else (some (0, u226))) else if x12 = 23 then ((zsc L xs (x9 + 1)).bind fun v229 => (zob u8 8 (some a1)).bind fun q231 => (F_X_count u8 q231 v229).bind fun v230 => (zsc L xs (x9 + 1)).bind fun v232 => (zob u8 9 (some a4)).bind fun q234 => (F_M_count u8 q234 v232).bind fun v233 => if v230 = v233 then (r7 u8 (x9 + 6)) else (some (0, u8))) else if x12 = 24 then ((zsc L xs (x9 + 1)).bind fun v236 => (zsc L xs (x9 + 2)).bind fun v237 => (zsc L xs (x9 + 3)).bind fun v238 => (zob u8 8 (some a1)).bind fun q241 => (F_X_sheet u8 q241 v236 v237 v238).bind <| zk fun v239 u240 => (zsc L xs (x9 + 1)).bind fun v242 => (zsc L xs (x9 + 2)).bind fun v243 => (zsc L xs (x9 + 3)).bind fun v244 => (zob u240 9 (some a4)).bind fun q247 => (F_M_sheet u240 q247 v242 v243 v244).bind <| zk fun v245 u246 => if v239 = v245 then (r7 u246 (x9 + 6)) else (some (0, u246))) else if x12 = 25 then ((zsc L xs (x9 + 1)).bind fun v249 => (zsc L xs (x9 + 2)).bind fun v250 => (zsc L xs (x9 + 3)).bind fun v251 => (zob u8 8 (some a1)).bind fun q254 => (F_X_cell u8 q254 v249 v250 v251).bind <| zk fun v252 u253 => (zsc L xs (x9 + 1)).bind fun v255 => (zsc L xs (x9 + 2)).bind fun v256 => (zsc L xs (x9 + 3)).bind fun v257 => (zob u253 9 (some a4)).bind fun q260 => (F_M_cell u253 q260 v255 v256 v257).bind <| zk fun v258 u259 => if v252 = v258 then (r7 u259 (x9 + 6)) else (some (0, u259))) else if x12 = 26 then ((zsc L xs (x9 + 1)).bind fun v262 => (zsc L xs (x9 + 2)).bind fun v263 => (zsc L xs (x9 + 3)).bind fun v264 => (zsc L xs (x9 + 4)).bind fun v265 => (zsc L xs (x9 + 5)).bind fun v266 => (zob u8 8 (some a1)).bind fun q269 => (F_X_copy u8 q269 v262 v263 v264 v265 v266).bind <| zk fun v267 u268 => (zsc L xs (x9 + 1)).bind fun v270 => (zsc L xs (x9 + 2)).bind fun v271 => (zsc L xs (x9 + 3)).bind fun v272 => (zsc L xs (x9 + 4)).bind fun v273 => (zsc L xs (x9 + 5)).bind fun v274 => (zob u268 9 (some a4)).bind fun q277 => (F_M_copy u268 q277 v270 v271 v272 v273 v274).bind <| zk fun v275 u276 => if v267 = v275 then (r7 u276 (x9 + 6)) else (some (0, u276))) else if x12 = 27 then ((zsc L xs (x9 + 1)).bind fun v279 => (zsc L xs (x9 + 2)).bind fun v280 => (zsc L xs (x9 + 3)).bind fun v281 => (zsc L xs (x9 + 4)).bind fun v282 => (zob u8 8 (some a1)).bind fun q285 => (F_X_people u8 q285 v279 v280 v281 v282).bind <| zk fun v283 u284 => (zsc L xs (x9 + 1)).bind fun v286 => (zsc L xs (x9 + 2)).bind fun v287 => (zsc L xs (x9 + 3)).bind fun v288 => (zsc L xs (x9 + 4)).bind fun v289 => (zob u284 9 (some a4)).bind fun q292 => (F_M_people u284 q292 v286 v287 v288 v289).bind <| zk fun v290 u291 => if v283 = v290 then (r7 u291 (x9 + 6)) else (some (0, u291))) else if x12 = 28 then ((zsc L xs (x9 + 1)).bind fun v294 => (zsc L xs (x9 + 2)).bind fun v295 => (zob u8 8 (some a1)).bind fun q297 => (F_X_taken u8 q297 v294 v295).bind fun v296 => (zsc L xs (x9 + 1)).bind fun v298 => (zsc L xs (x9 + 2)).bind fun v299 => (zob u8 9 (some a4)).bind fun q301 => (F_M_taken u8 q301 v298 v299).bind fun v300 => if v296 = v300 then (r7 u8 (x9 + 6)) else (some (0, u8))) else (r7 u8 (x9 + 6)))
def F_L_law (L : Nat) (xs : Nat → Int32) (u0 : zS) : Option (Int32 × zS) := (znw u0 (.inr 8)).bind <| zk fun a1 u2 => (F_X_init u2 a1 ).bind fun u3 => (znw u3 (.inr 9)).bind <| zk fun a4 u5 => (F_M_init u5 a4 ).bind fun u6 => zfix2 (F_L_body L xs a1 a4) zFU u6 0
set_option maxHeartbeats 4000000 in
set_option maxRecDepth 100000 in
theorem B_L_law (g : zG) (d : Nat) {b L : Nat} {xs : Nat → Int32} (hO : (b, L, xs) ∈ g.2.2.2.2.1) {u0 : zS} {o : Int32 × zS} (h : F_L_law L xs u0 = some o) : zW g zy_L_law (d + 78) 104 7593 (some (.int o.1)) o.2 0 0 0 [some (.ref b), none, none, none] [] u0 := by
  revert h
  show zJ g zy_L_law (d + 78) 104 7593 zwI o 0 0 0 [some (.ref b), none, none, none] [] u0 (F_L_law L xs u0)
  unfold F_L_law
  refine zj_new zcls8 (by decide) cn_L_7 in_8 ii_8 (by decide) d_L_law_0 (fun a1 u2 => ?_)
  refine zj_dup d_L_law_3 (zr_cat _ _) ?_
  refine zj_callI (mc2 := 72) (ms2 := 2924) [] zm_I_X_init rfl ml_L_9 (fun _ h => B_X_init g (d) h) (Nat.le_refl _) (by decide) rfl rfl (by simp [zr_cat, zcI, zcJ]) d_L_law_4 (fun u3 => ?_)
  refine zj_astore_n [some (.ref b), some (zr g (some a1)), none, none] d_L_law_7 (by decide) rfl rfl ?_
  refine zj_new zcls9 (by decide) cn_L_10 in_9 ii_9 (by decide) d_L_law_8 (fun a4 u5 => ?_)
  refine zj_dup d_L_law_11 (zr_cat _ _) ?_
  refine zj_callI (mc2 := 30) (ms2 := 4600) [] zm_I_M_init rfl ml_L_12 (fun _ h => B_M_init g (d + 76) h) (Nat.le_refl _) (by decide) rfl rfl (by simp [zr_cat, zcI, zcJ]) d_L_law_12 (fun u6 => ?_)
  refine zj_astore_n [some (.ref b), some (zr g (some a1)), some (zr g (some a4)), none] d_L_law_15 (by decide) rfl rfl ?_
  refine zj_iconst 0 d_L_law_16 (by decide) ?_
  refine zj_istore_n [some (.ref b), some (zr g (some a1)), some (zr g (some a4)), some (.int 0)] d_L_law_17 (by decide) rfl rfl ?_
  refine zj_fix2 (fun u8 x9 => [some (.ref b), some (zr g (some a1)), some (zr g (some a4)), some (.int x9)]) (fun u8 x9 => u8) (fun r7 hr7 u8 x9 => ?_) u6 0
  unfold F_L_body
  refine zj_iload_n d_L_law_18 rfl ?_
  refine zj_aload_o d_L_law_19 rfl ?_
  refine zj_slen hO d_L_law_20 ?_
  refine zj_bipush 6 d_L_law_21 (by decide) ?_
  refine zj_isub d_L_law_23 ?_
  refine zj_icmp_gt 1048 d_L_law_24 rfl (fun _ => ?_) (fun _ => ?_)
  · refine zj_iconst 1 d_L_law_1048 (by decide) ?_
    exact zj_zretL (by decide) rfl rfl rfl rfl d_L_law_1049
  refine zj_aload_o d_L_law_27 rfl ?_
  refine zj_iload_n d_L_law_28 rfl ?_
  refine zj_sld hO d_L_law_29 (fun v11 => ?_)
  refine zj_bipush 31 d_L_law_30 (by decide) ?_
  refine zj_iand d_L_law_32 ?_
  refine zj_letI (fun x12 => ?_)
  refine zj_tsw 0 (0) 164 d_L_law_33 (by decide) (by decide) (by decide) rfl rfl (fun _ => ?_) (fun h13 => ?_)
  · refine zj_aload_n d_L_law_164 rfl ?_
    refine zj_aload_o d_L_law_165 rfl ?_
    refine zj_iload_n d_L_law_166 rfl ?_
    refine zj_iconst 1 d_L_law_167 (by decide) ?_
    refine zj_iadd d_L_law_168 ?_
    refine zj_sld hO d_L_law_169 (fun v14 => ?_)
    refine zj_aload_o d_L_law_170 rfl ?_
    refine zj_iload_n d_L_law_171 rfl ?_
    refine zj_iconst 2 d_L_law_172 (by decide) ?_
    refine zj_iadd d_L_law_173 ?_
    refine zj_sld hO d_L_law_174 (fun v15 => ?_)
    refine zj_cVI (ci := 8) (T := zT8) (N := 16) [.int v14, .int v15] zm_V_X_post ml_L_13 rfl (fun _ _ h => B_X_post g (d + 75) h) (Nat.le_refl _) (by decide) rfl rfl (by decide) d_L_law_175 (fun v16 u17 => ?_)
    refine zj_aload_n d_L_law_178 rfl ?_
    refine zj_aload_o d_L_law_179 rfl ?_
    refine zj_iload_n d_L_law_180 rfl ?_
    refine zj_iconst 1 d_L_law_181 (by decide) ?_
    refine zj_iadd d_L_law_182 ?_
    refine zj_sld hO d_L_law_183 (fun v19 => ?_)
    refine zj_aload_o d_L_law_184 rfl ?_
    refine zj_iload_n d_L_law_185 rfl ?_
    refine zj_iconst 2 d_L_law_186 (by decide) ?_
    refine zj_iadd d_L_law_187 ?_
    refine zj_sld hO d_L_law_188 (fun v20 => ?_)
    refine zj_cVI (ci := 9) (T := zT9) (N := 53) [.int v19, .int v20] zm_V_M_post ml_L_17 rfl (fun _ _ h => B_M_post g (d + 75) h) (Nat.le_refl _) (by decide) rfl rfl (by simp [zcI, zcJ]) d_L_law_189 (fun v21 u22 => ?_)
    refine zj_icmp_eq 1042 d_L_law_192 rfl (fun _ => ?_) (fun _ => ?_)
    · refine zj_iinc (v := (x9 + 6)) [some (.ref b), some (zr g (some a1)), some (zr g (some a4)), some (.int (x9 + 6))] d_L_law_1042 rfl rfl (by decide) rfl rfl ?_
      refine zj_goto 18 d_L_law_1045 rfl ?_
      exact hr7 u22 (x9 + 6)
    refine zj_iconst 0 d_L_law_195 (by decide) ?_
    exact zj_zretL (by decide) rfl rfl rfl rfl d_L_law_196
  refine zj_tsw 1 (1) 197 d_L_law_33 (by decide) (by decide) (by decide) rfl rfl (fun _ => ?_) (fun h24 => ?_)
  · refine zj_aload_n d_L_law_197 rfl ?_
    refine zj_aload_o d_L_law_198 rfl ?_
    refine zj_iload_n d_L_law_199 rfl ?_
    refine zj_iconst 1 d_L_law_200 (by decide) ?_
    refine zj_iadd d_L_law_201 ?_
    refine zj_sld hO d_L_law_202 (fun v25 => ?_)
    refine zj_aload_o d_L_law_203 rfl ?_
    refine zj_iload_n d_L_law_204 rfl ?_
    refine zj_iconst 2 d_L_law_205 (by decide) ?_
    refine zj_iadd d_L_law_206 ?_
    refine zj_sld hO d_L_law_207 (fun v26 => ?_)
    refine zj_cVI (ci := 8) (T := zT8) (N := 16) [.int v25, .int v26] zm_V_X_person ml_L_18 rfl (fun _ _ h => B_X_person g (d + 74) h) (Nat.le_refl _) (by decide) rfl rfl (by decide) d_L_law_208 (fun v27 u28 => ?_)
    refine zj_aload_n d_L_law_211 rfl ?_
    refine zj_aload_o d_L_law_212 rfl ?_
    refine zj_iload_n d_L_law_213 rfl ?_
    refine zj_iconst 1 d_L_law_214 (by decide) ?_
    refine zj_iadd d_L_law_215 ?_
    refine zj_sld hO d_L_law_216 (fun v30 => ?_)
    refine zj_aload_o d_L_law_217 rfl ?_
    refine zj_iload_n d_L_law_218 rfl ?_
    refine zj_iconst 2 d_L_law_219 (by decide) ?_
    refine zj_iadd d_L_law_220 ?_
    refine zj_sld hO d_L_law_221 (fun v31 => ?_)
    refine zj_cVI (ci := 9) (T := zT9) (N := 53) [.int v30, .int v31] zm_V_M_person ml_L_21 rfl (fun _ _ h => B_M_person g (d + 73) h) (Nat.le_refl _) (by decide) rfl rfl (by simp [zcI, zcJ]) d_L_law_222 (fun v32 u33 => ?_)
    refine zj_icmp_eq 1042 d_L_law_225 rfl (fun _ => ?_) (fun _ => ?_)
    · refine zj_iinc (v := (x9 + 6)) [some (.ref b), some (zr g (some a1)), some (zr g (some a4)), some (.int (x9 + 6))] d_L_law_1042 rfl rfl (by decide) rfl rfl ?_
      refine zj_goto 18 d_L_law_1045 rfl ?_
      exact hr7 u33 (x9 + 6)
    refine zj_iconst 0 d_L_law_228 (by decide) ?_
    exact zj_zretL (by decide) rfl rfl rfl rfl d_L_law_229
  refine zj_tsw 2 (2) 230 d_L_law_33 (by decide) (by decide) (by decide) rfl rfl (fun _ => ?_) (fun h35 => ?_)
  · refine zj_aload_n d_L_law_230 rfl ?_
    refine zj_aload_o d_L_law_231 rfl ?_
    refine zj_iload_n d_L_law_232 rfl ?_
    refine zj_iconst 1 d_L_law_233 (by decide) ?_
    refine zj_iadd d_L_law_234 ?_
    refine zj_sld hO d_L_law_235 (fun v36 => ?_)
    refine zj_cVI (ci := 8) (T := zT8) (N := 16) [.int v36] zm_V_X_years ml_L_22 rfl (fun _ _ h => B_X_years g (d + 76) h) (Nat.le_refl _) (by decide) rfl rfl (by decide) d_L_law_236 (fun v37 u38 => ?_)
    refine zj_aload_n d_L_law_239 rfl ?_
    refine zj_aload_o d_L_law_240 rfl ?_
    refine zj_iload_n d_L_law_241 rfl ?_
    refine zj_iconst 1 d_L_law_242 (by decide) ?_
    refine zj_iadd d_L_law_243 ?_
    refine zj_sld hO d_L_law_244 (fun v40 => ?_)
    refine zj_cVI (ci := 9) (T := zT9) (N := 53) [.int v40] zm_V_M_years ml_L_26 rfl (fun _ _ h => B_M_years g (d + 75) h) (Nat.le_refl _) (by decide) rfl rfl (by simp [zcI, zcJ]) d_L_law_245 (fun v41 u42 => ?_)
    refine zj_icmp_eq 1042 d_L_law_248 rfl (fun _ => ?_) (fun _ => ?_)
    · refine zj_iinc (v := (x9 + 6)) [some (.ref b), some (zr g (some a1)), some (zr g (some a4)), some (.int (x9 + 6))] d_L_law_1042 rfl rfl (by decide) rfl rfl ?_
      refine zj_goto 18 d_L_law_1045 rfl ?_
      exact hr7 u42 (x9 + 6)
    refine zj_iconst 0 d_L_law_251 (by decide) ?_
    exact zj_zretL (by decide) rfl rfl rfl rfl d_L_law_252
  refine zj_tsw 3 (3) 253 d_L_law_33 (by decide) (by decide) (by decide) rfl rfl (fun _ => ?_) (fun h44 => ?_)
  · refine zj_aload_n d_L_law_253 rfl ?_
    refine zj_aload_o d_L_law_254 rfl ?_
    refine zj_iload_n d_L_law_255 rfl ?_
    refine zj_iconst 1 d_L_law_256 (by decide) ?_
    refine zj_iadd d_L_law_257 ?_
    refine zj_sld hO d_L_law_258 (fun v45 => ?_)
    refine zj_aload_o d_L_law_259 rfl ?_
    refine zj_iload_n d_L_law_260 rfl ?_
    refine zj_iconst 2 d_L_law_261 (by decide) ?_
    refine zj_iadd d_L_law_262 ?_
    refine zj_sld hO d_L_law_263 (fun v46 => ?_)
    refine zj_cVI (ci := 8) (T := zT8) (N := 16) [.int v45, .int v46] zm_V_X_teach ml_L_27 rfl (fun _ _ h => B_X_teach g (d + 75) h) (Nat.le_refl _) (by decide) rfl rfl (by decide) d_L_law_264 (fun v47 u48 => ?_)
    refine zj_aload_n d_L_law_267 rfl ?_
    refine zj_aload_o d_L_law_268 rfl ?_
    refine zj_iload_n d_L_law_269 rfl ?_
    refine zj_iconst 1 d_L_law_270 (by decide) ?_
    refine zj_iadd d_L_law_271 ?_
    refine zj_sld hO d_L_law_272 (fun v50 => ?_)
    refine zj_aload_o d_L_law_273 rfl ?_
    refine zj_iload_n d_L_law_274 rfl ?_
    refine zj_iconst 2 d_L_law_275 (by decide) ?_
    refine zj_iadd d_L_law_276 ?_
    refine zj_sld hO d_L_law_277 (fun v51 => ?_)
    refine zj_cVI (ci := 9) (T := zT9) (N := 53) [.int v50, .int v51] zm_V_M_teach ml_L_30 rfl (fun _ _ h => B_M_teach g (d + 74) h) (Nat.le_refl _) (by decide) rfl rfl (by simp [zcI, zcJ]) d_L_law_278 (fun v52 u53 => ?_)
    refine zj_icmp_eq 1042 d_L_law_281 rfl (fun _ => ?_) (fun _ => ?_)
    · refine zj_iinc (v := (x9 + 6)) [some (.ref b), some (zr g (some a1)), some (zr g (some a4)), some (.int (x9 + 6))] d_L_law_1042 rfl rfl (by decide) rfl rfl ?_
      refine zj_goto 18 d_L_law_1045 rfl ?_
      exact hr7 u53 (x9 + 6)
    refine zj_iconst 0 d_L_law_284 (by decide) ?_
    exact zj_zretL (by decide) rfl rfl rfl rfl d_L_law_285
  refine zj_tsw 4 (4) 286 d_L_law_33 (by decide) (by decide) (by decide) rfl rfl (fun _ => ?_) (fun h55 => ?_)
  · refine zj_aload_n d_L_law_286 rfl ?_
    refine zj_aload_o d_L_law_287 rfl ?_
    refine zj_iload_n d_L_law_288 rfl ?_
    refine zj_iconst 1 d_L_law_289 (by decide) ?_
    refine zj_iadd d_L_law_290 ?_
    refine zj_sld hO d_L_law_291 (fun v56 => ?_)
    refine zj_aload_o d_L_law_292 rfl ?_
    refine zj_iload_n d_L_law_293 rfl ?_
    refine zj_iconst 2 d_L_law_294 (by decide) ?_
    refine zj_iadd d_L_law_295 ?_
    refine zj_sld hO d_L_law_296 (fun v57 => ?_)
    refine zj_aload_o d_L_law_297 rfl ?_
    refine zj_iload_n d_L_law_298 rfl ?_
    refine zj_iconst 3 d_L_law_299 (by decide) ?_
    refine zj_iadd d_L_law_300 ?_
    refine zj_sld hO d_L_law_301 (fun v58 => ?_)
    refine zj_cVI (ci := 8) (T := zT8) (N := 16) [.int v56, .int v57, .int v58] zm_V_X_bar ml_L_31 rfl (fun _ _ h => B_X_bar g (d + 75) h) (Nat.le_refl _) (by decide) rfl rfl (by decide) d_L_law_302 (fun v59 u60 => ?_)
    refine zj_aload_n d_L_law_305 rfl ?_
    refine zj_aload_o d_L_law_306 rfl ?_
    refine zj_iload_n d_L_law_307 rfl ?_
    refine zj_iconst 1 d_L_law_308 (by decide) ?_
    refine zj_iadd d_L_law_309 ?_
    refine zj_sld hO d_L_law_310 (fun v62 => ?_)
    refine zj_aload_o d_L_law_311 rfl ?_
    refine zj_iload_n d_L_law_312 rfl ?_
    refine zj_iconst 2 d_L_law_313 (by decide) ?_
    refine zj_iadd d_L_law_314 ?_
    refine zj_sld hO d_L_law_315 (fun v63 => ?_)
    refine zj_aload_o d_L_law_316 rfl ?_
    refine zj_iload_n d_L_law_317 rfl ?_
    refine zj_iconst 3 d_L_law_318 (by decide) ?_
    refine zj_iadd d_L_law_319 ?_
    refine zj_sld hO d_L_law_320 (fun v64 => ?_)
    refine zj_cVI (ci := 9) (T := zT9) (N := 53) [.int v62, .int v63, .int v64] zm_V_M_bar ml_L_35 rfl (fun _ _ h => B_M_bar g (d + 74) h) (Nat.le_refl _) (by decide) rfl rfl (by simp [zcI, zcJ]) d_L_law_321 (fun v65 u66 => ?_)
    refine zj_icmp_eq 1042 d_L_law_324 rfl (fun _ => ?_) (fun _ => ?_)
    · refine zj_iinc (v := (x9 + 6)) [some (.ref b), some (zr g (some a1)), some (zr g (some a4)), some (.int (x9 + 6))] d_L_law_1042 rfl rfl (by decide) rfl rfl ?_
      refine zj_goto 18 d_L_law_1045 rfl ?_
      exact hr7 u66 (x9 + 6)
    refine zj_iconst 0 d_L_law_327 (by decide) ?_
    exact zj_zretL (by decide) rfl rfl rfl rfl d_L_law_328
  refine zj_tsw 5 (5) 329 d_L_law_33 (by decide) (by decide) (by decide) rfl rfl (fun _ => ?_) (fun h68 => ?_)
  · refine zj_aload_n d_L_law_329 rfl ?_
    refine zj_aload_o d_L_law_330 rfl ?_
    refine zj_iload_n d_L_law_331 rfl ?_
    refine zj_iconst 1 d_L_law_332 (by decide) ?_
    refine zj_iadd d_L_law_333 ?_
    refine zj_sld hO d_L_law_334 (fun v69 => ?_)
    refine zj_aload_o d_L_law_335 rfl ?_
    refine zj_iload_n d_L_law_336 rfl ?_
    refine zj_iconst 2 d_L_law_337 (by decide) ?_
    refine zj_iadd d_L_law_338 ?_
    refine zj_sld hO d_L_law_339 (fun v70 => ?_)
    refine zj_aload_o d_L_law_340 rfl ?_
    refine zj_iload_n d_L_law_341 rfl ?_
    refine zj_iconst 3 d_L_law_342 (by decide) ?_
    refine zj_iadd d_L_law_343 ?_
    refine zj_sld hO d_L_law_344 (fun v71 => ?_)
    refine zj_cVI (ci := 8) (T := zT8) (N := 16) [.int v69, .int v70, .int v71] zm_V_X_told ml_L_36 rfl (fun _ _ h => B_X_told g (d + 71) h) (Nat.le_refl _) (by decide) rfl rfl (by decide) d_L_law_345 (fun v72 u73 => ?_)
    refine zj_aload_n d_L_law_348 rfl ?_
    refine zj_aload_o d_L_law_349 rfl ?_
    refine zj_iload_n d_L_law_350 rfl ?_
    refine zj_iconst 1 d_L_law_351 (by decide) ?_
    refine zj_iadd d_L_law_352 ?_
    refine zj_sld hO d_L_law_353 (fun v75 => ?_)
    refine zj_aload_o d_L_law_354 rfl ?_
    refine zj_iload_n d_L_law_355 rfl ?_
    refine zj_iconst 2 d_L_law_356 (by decide) ?_
    refine zj_iadd d_L_law_357 ?_
    refine zj_sld hO d_L_law_358 (fun v76 => ?_)
    refine zj_aload_o d_L_law_359 rfl ?_
    refine zj_iload_n d_L_law_360 rfl ?_
    refine zj_iconst 3 d_L_law_361 (by decide) ?_
    refine zj_iadd d_L_law_362 ?_
    refine zj_sld hO d_L_law_363 (fun v77 => ?_)
    refine zj_cVI (ci := 9) (T := zT9) (N := 53) [.int v75, .int v76, .int v77] zm_V_M_told ml_L_39 rfl (fun _ _ h => B_M_told g (d + 73) h) (Nat.le_refl _) (by decide) rfl rfl (by simp [zcI, zcJ]) d_L_law_364 (fun v78 u79 => ?_)
    refine zj_icmp_eq 1042 d_L_law_367 rfl (fun _ => ?_) (fun _ => ?_)
    · refine zj_iinc (v := (x9 + 6)) [some (.ref b), some (zr g (some a1)), some (zr g (some a4)), some (.int (x9 + 6))] d_L_law_1042 rfl rfl (by decide) rfl rfl ?_
      refine zj_goto 18 d_L_law_1045 rfl ?_
      exact hr7 u79 (x9 + 6)
    refine zj_iconst 0 d_L_law_370 (by decide) ?_
    exact zj_zretL (by decide) rfl rfl rfl rfl d_L_law_371
  refine zj_tsw 6 (6) 372 d_L_law_33 (by decide) (by decide) (by decide) rfl rfl (fun _ => ?_) (fun h81 => ?_)
  · refine zj_aload_n d_L_law_372 rfl ?_
    refine zj_aload_o d_L_law_373 rfl ?_
    refine zj_iload_n d_L_law_374 rfl ?_
    refine zj_iconst 1 d_L_law_375 (by decide) ?_
    refine zj_iadd d_L_law_376 ?_
    refine zj_sld hO d_L_law_377 (fun v82 => ?_)
    refine zj_aload_o d_L_law_378 rfl ?_
    refine zj_iload_n d_L_law_379 rfl ?_
    refine zj_iconst 2 d_L_law_380 (by decide) ?_
    refine zj_iadd d_L_law_381 ?_
    refine zj_sld hO d_L_law_382 (fun v83 => ?_)
    refine zj_i2l d_L_law_383 ?_
    refine zj_bipush 32 d_L_law_384 (by decide) ?_
    refine zj_lshl d_L_law_386 ?_
    refine zj_aload_o d_L_law_387 rfl ?_
    refine zj_iload_n d_L_law_388 rfl ?_
    refine zj_iconst 3 d_L_law_389 (by decide) ?_
    refine zj_iadd d_L_law_390 ?_
    refine zj_sld hO d_L_law_391 (fun v84 => ?_)
    refine zj_i2l d_L_law_392 ?_
    refine zj_ldc2 cl_L_40 d_L_law_393 ?_
    refine zj_land d_L_law_396 ?_
    refine zj_lor d_L_law_397 ?_
    refine zj_cVI (ci := 8) (T := zT8) (N := 16) [.int v82, .long (((((v83 : Int32).toInt64) : Int64) <<< ((32 : Int32).toInt64 &&& 63)) ||| (((v84 : Int32).toInt64) &&& 4294967295))] zm_V_X_feed ml_L_42 rfl (fun _ _ h => B_X_feed g (d + 75) h) (Nat.le_refl _) (by decide) rfl rfl (by decide) d_L_law_398 (fun v85 u86 => ?_)
    refine zj_aload_n d_L_law_401 rfl ?_
    refine zj_aload_o d_L_law_402 rfl ?_
    refine zj_iload_n d_L_law_403 rfl ?_
    refine zj_iconst 1 d_L_law_404 (by decide) ?_
    refine zj_iadd d_L_law_405 ?_
    refine zj_sld hO d_L_law_406 (fun v88 => ?_)
    refine zj_aload_o d_L_law_407 rfl ?_
    refine zj_iload_n d_L_law_408 rfl ?_
    refine zj_iconst 2 d_L_law_409 (by decide) ?_
    refine zj_iadd d_L_law_410 ?_
    refine zj_sld hO d_L_law_411 (fun v89 => ?_)
    refine zj_i2l d_L_law_412 ?_
    refine zj_bipush 32 d_L_law_413 (by decide) ?_
    refine zj_lshl d_L_law_415 ?_
    refine zj_aload_o d_L_law_416 rfl ?_
    refine zj_iload_n d_L_law_417 rfl ?_
    refine zj_iconst 3 d_L_law_418 (by decide) ?_
    refine zj_iadd d_L_law_419 ?_
    refine zj_sld hO d_L_law_420 (fun v90 => ?_)
    refine zj_i2l d_L_law_421 ?_
    refine zj_ldc2 cl_L_40 d_L_law_422 ?_
    refine zj_land d_L_law_425 ?_
    refine zj_lor d_L_law_426 ?_
    refine zj_cVI (ci := 9) (T := zT9) (N := 53) [.int v88, .long (((((v89 : Int32).toInt64) : Int64) <<< ((32 : Int32).toInt64 &&& 63)) ||| (((v90 : Int32).toInt64) &&& 4294967295))] zm_V_M_feed ml_L_46 rfl (fun _ _ h => B_M_feed g (d + 75) h) (Nat.le_refl _) (by decide) rfl rfl (by simp [zcI, zcJ]) d_L_law_427 (fun v91 u92 => ?_)
    refine zj_icmp_eq 1042 d_L_law_430 rfl (fun _ => ?_) (fun _ => ?_)
    · refine zj_iinc (v := (x9 + 6)) [some (.ref b), some (zr g (some a1)), some (zr g (some a4)), some (.int (x9 + 6))] d_L_law_1042 rfl rfl (by decide) rfl rfl ?_
      refine zj_goto 18 d_L_law_1045 rfl ?_
      exact hr7 u92 (x9 + 6)
    refine zj_iconst 0 d_L_law_433 (by decide) ?_
    exact zj_zretL (by decide) rfl rfl rfl rfl d_L_law_434
  refine zj_tsw 7 (7) 435 d_L_law_33 (by decide) (by decide) (by decide) rfl rfl (fun _ => ?_) (fun h94 => ?_)
  · refine zj_aload_n d_L_law_435 rfl ?_
    refine zj_cVI (ci := 8) (T := zT8) (N := 16) [] zm_V_X_text ml_L_47 rfl (fun _ _ h => B_X_text g (d) h) (Nat.le_refl _) (by decide) rfl rfl (by decide) d_L_law_436 (fun v95 u96 => ?_)
    refine zj_aload_n d_L_law_439 rfl ?_
    refine zj_cVI (ci := 9) (T := zT9) (N := 53) [] zm_V_M_text ml_L_51 rfl (fun _ _ h => B_M_text g (d + 6) h) (Nat.le_refl _) (by decide) rfl rfl (by simp [zcI, zcJ]) d_L_law_440 (fun v98 u99 => ?_)
    refine zj_icmp_eq 1042 d_L_law_443 rfl (fun _ => ?_) (fun _ => ?_)
    · refine zj_iinc (v := (x9 + 6)) [some (.ref b), some (zr g (some a1)), some (zr g (some a4)), some (.int (x9 + 6))] d_L_law_1042 rfl rfl (by decide) rfl rfl ?_
      refine zj_goto 18 d_L_law_1045 rfl ?_
      exact hr7 u99 (x9 + 6)
    refine zj_iconst 0 d_L_law_446 (by decide) ?_
    exact zj_zretL (by decide) rfl rfl rfl rfl d_L_law_447
  refine zj_tsw 8 (8) 448 d_L_law_33 (by decide) (by decide) (by decide) rfl rfl (fun _ => ?_) (fun h101 => ?_)
  · refine zj_aload_n d_L_law_448 rfl ?_
    refine zj_aload_o d_L_law_449 rfl ?_
    refine zj_iload_n d_L_law_450 rfl ?_
    refine zj_iconst 1 d_L_law_451 (by decide) ?_
    refine zj_iadd d_L_law_452 ?_
    refine zj_sld hO d_L_law_453 (fun v102 => ?_)
    refine zj_cVI (ci := 8) (T := zT8) (N := 16) [.int v102] zm_V_X_force ml_L_52 rfl (fun _ _ h => B_X_force g (d + 76) h) (Nat.le_refl _) (by decide) rfl rfl (by decide) d_L_law_454 (fun v103 u104 => ?_)
    refine zj_aload_n d_L_law_457 rfl ?_
    refine zj_aload_o d_L_law_458 rfl ?_
    refine zj_iload_n d_L_law_459 rfl ?_
    refine zj_iconst 1 d_L_law_460 (by decide) ?_
    refine zj_iadd d_L_law_461 ?_
    refine zj_sld hO d_L_law_462 (fun v106 => ?_)
    refine zj_cVI (ci := 9) (T := zT9) (N := 53) [.int v106] zm_V_M_force ml_L_55 rfl (fun _ _ h => B_M_force g (d + 75) h) (Nat.le_refl _) (by decide) rfl rfl (by simp [zcI, zcJ]) d_L_law_463 (fun v107 u108 => ?_)
    refine zj_icmp_eq 1042 d_L_law_466 rfl (fun _ => ?_) (fun _ => ?_)
    · refine zj_iinc (v := (x9 + 6)) [some (.ref b), some (zr g (some a1)), some (zr g (some a4)), some (.int (x9 + 6))] d_L_law_1042 rfl rfl (by decide) rfl rfl ?_
      refine zj_goto 18 d_L_law_1045 rfl ?_
      exact hr7 u108 (x9 + 6)
    refine zj_iconst 0 d_L_law_469 (by decide) ?_
    exact zj_zretL (by decide) rfl rfl rfl rfl d_L_law_470
  refine zj_tsw 9 (9) 471 d_L_law_33 (by decide) (by decide) (by decide) rfl rfl (fun _ => ?_) (fun h110 => ?_)
  · refine zj_aload_n d_L_law_471 rfl ?_
    refine zj_aload_o d_L_law_472 rfl ?_
    refine zj_iload_n d_L_law_473 rfl ?_
    refine zj_iconst 1 d_L_law_474 (by decide) ?_
    refine zj_iadd d_L_law_475 ?_
    refine zj_sld hO d_L_law_476 (fun v111 => ?_)
    refine zj_aload_o d_L_law_477 rfl ?_
    refine zj_iload_n d_L_law_478 rfl ?_
    refine zj_iconst 2 d_L_law_479 (by decide) ?_
    refine zj_iadd d_L_law_480 ?_
    refine zj_sld hO d_L_law_481 (fun v112 => ?_)
    refine zj_cVI (ci := 8) (T := zT8) (N := 16) [.int v111, .int v112] zm_V_X_fill ml_L_56 rfl (fun _ _ h => B_X_fill g (d + 70) h) (Nat.le_refl _) (by decide) rfl rfl (by decide) d_L_law_482 (fun v113 u114 => ?_)
    refine zj_aload_n d_L_law_485 rfl ?_
    refine zj_aload_o d_L_law_486 rfl ?_
    refine zj_iload_n d_L_law_487 rfl ?_
    refine zj_iconst 1 d_L_law_488 (by decide) ?_
    refine zj_iadd d_L_law_489 ?_
    refine zj_sld hO d_L_law_490 (fun v116 => ?_)
    refine zj_aload_o d_L_law_491 rfl ?_
    refine zj_iload_n d_L_law_492 rfl ?_
    refine zj_iconst 2 d_L_law_493 (by decide) ?_
    refine zj_iadd d_L_law_494 ?_
    refine zj_sld hO d_L_law_495 (fun v117 => ?_)
    refine zj_cVI (ci := 9) (T := zT9) (N := 53) [.int v116, .int v117] zm_V_M_fill ml_L_59 rfl (fun _ _ h => B_M_fill g (d + 63) h) (Nat.le_refl _) (by decide) rfl rfl (by simp [zcI, zcJ]) d_L_law_496 (fun v118 u119 => ?_)
    refine zj_icmp_eq 1042 d_L_law_499 rfl (fun _ => ?_) (fun _ => ?_)
    · refine zj_iinc (v := (x9 + 6)) [some (.ref b), some (zr g (some a1)), some (zr g (some a4)), some (.int (x9 + 6))] d_L_law_1042 rfl rfl (by decide) rfl rfl ?_
      refine zj_goto 18 d_L_law_1045 rfl ?_
      exact hr7 u119 (x9 + 6)
    refine zj_iconst 0 d_L_law_502 (by decide) ?_
    exact zj_zretL (by decide) rfl rfl rfl rfl d_L_law_503
  refine zj_tsw 10 (10) 504 d_L_law_33 (by decide) (by decide) (by decide) rfl rfl (fun _ => ?_) (fun h121 => ?_)
  · refine zj_aload_n d_L_law_504 rfl ?_
    refine zj_aload_o d_L_law_505 rfl ?_
    refine zj_iload_n d_L_law_506 rfl ?_
    refine zj_iconst 1 d_L_law_507 (by decide) ?_
    refine zj_iadd d_L_law_508 ?_
    refine zj_sld hO d_L_law_509 (fun v122 => ?_)
    refine zj_cVI (ci := 8) (T := zT8) (N := 16) [.int v122] zm_V_X_few ml_L_60 rfl (fun _ _ h => B_X_few g (d + 71) h) (Nat.le_refl _) (by decide) rfl rfl (by decide) d_L_law_510 (fun v123 u124 => ?_)
    refine zj_aload_n d_L_law_513 rfl ?_
    refine zj_aload_o d_L_law_514 rfl ?_
    refine zj_iload_n d_L_law_515 rfl ?_
    refine zj_iconst 1 d_L_law_516 (by decide) ?_
    refine zj_iadd d_L_law_517 ?_
    refine zj_sld hO d_L_law_518 (fun v126 => ?_)
    refine zj_cVI (ci := 9) (T := zT9) (N := 53) [.int v126] zm_V_M_few ml_L_63 rfl (fun _ _ h => B_M_few g (d + 73) h) (Nat.le_refl _) (by decide) rfl rfl (by simp [zcI, zcJ]) d_L_law_519 (fun v127 u128 => ?_)
    refine zj_icmp_eq 1042 d_L_law_522 rfl (fun _ => ?_) (fun _ => ?_)
    · refine zj_iinc (v := (x9 + 6)) [some (.ref b), some (zr g (some a1)), some (zr g (some a4)), some (.int (x9 + 6))] d_L_law_1042 rfl rfl (by decide) rfl rfl ?_
      refine zj_goto 18 d_L_law_1045 rfl ?_
      exact hr7 u128 (x9 + 6)
    refine zj_iconst 0 d_L_law_525 (by decide) ?_
    exact zj_zretL (by decide) rfl rfl rfl rfl d_L_law_526
  refine zj_tsw 11 (11) 527 d_L_law_33 (by decide) (by decide) (by decide) rfl rfl (fun _ => ?_) (fun h130 => ?_)
  · refine zj_aload_n d_L_law_527 rfl ?_
    refine zj_aload_o d_L_law_528 rfl ?_
    refine zj_iload_n d_L_law_529 rfl ?_
    refine zj_iconst 1 d_L_law_530 (by decide) ?_
    refine zj_iadd d_L_law_531 ?_
    refine zj_sld hO d_L_law_532 (fun v131 => ?_)
    refine zj_cVI (ci := 8) (T := zT8) (N := 16) [.int v131] zm_V_X_holds ml_L_64 rfl (fun _ _ h => B_X_holds g (d + 71) h) (Nat.le_refl _) (by decide) rfl rfl (by decide) d_L_law_533 (fun v132 u133 => ?_)
    refine zj_aload_n d_L_law_536 rfl ?_
    refine zj_aload_o d_L_law_537 rfl ?_
    refine zj_iload_n d_L_law_538 rfl ?_
    refine zj_iconst 1 d_L_law_539 (by decide) ?_
    refine zj_iadd d_L_law_540 ?_
    refine zj_sld hO d_L_law_541 (fun v135 => ?_)
    refine zj_cVI (ci := 9) (T := zT9) (N := 53) [.int v135] zm_V_M_holds ml_L_67 rfl (fun _ _ h => B_M_holds g (d + 62) h) (Nat.le_refl _) (by decide) rfl rfl (by simp [zcI, zcJ]) d_L_law_542 (fun v136 u137 => ?_)
    refine zj_icmp_eq 1042 d_L_law_545 rfl (fun _ => ?_) (fun _ => ?_)
    · refine zj_iinc (v := (x9 + 6)) [some (.ref b), some (zr g (some a1)), some (zr g (some a4)), some (.int (x9 + 6))] d_L_law_1042 rfl rfl (by decide) rfl rfl ?_
      refine zj_goto 18 d_L_law_1045 rfl ?_
      exact hr7 u137 (x9 + 6)
    refine zj_iconst 0 d_L_law_548 (by decide) ?_
    exact zj_zretL (by decide) rfl rfl rfl rfl d_L_law_549
  refine zj_tsw 12 (12) 550 d_L_law_33 (by decide) (by decide) (by decide) rfl rfl (fun _ => ?_) (fun h139 => ?_)
  · refine zj_aload_n d_L_law_550 rfl ?_
    refine zj_aload_o d_L_law_551 rfl ?_
    refine zj_iload_n d_L_law_552 rfl ?_
    refine zj_iconst 1 d_L_law_553 (by decide) ?_
    refine zj_iadd d_L_law_554 ?_
    refine zj_sld hO d_L_law_555 (fun v140 => ?_)
    refine zj_aload_o d_L_law_556 rfl ?_
    refine zj_iload_n d_L_law_557 rfl ?_
    refine zj_iconst 2 d_L_law_558 (by decide) ?_
    refine zj_iadd d_L_law_559 ?_
    refine zj_sld hO d_L_law_560 (fun v141 => ?_)
    refine zj_cVI (ci := 8) (T := zT8) (N := 16) [.int v140, .int v141] zm_V_X_worst ml_L_68 rfl (fun _ _ h => B_X_worst g (d + 70) h) (Nat.le_refl _) (by decide) rfl rfl (by decide) d_L_law_561 (fun v142 u143 => ?_)
    refine zj_aload_n d_L_law_564 rfl ?_
    refine zj_aload_o d_L_law_565 rfl ?_
    refine zj_iload_n d_L_law_566 rfl ?_
    refine zj_iconst 1 d_L_law_567 (by decide) ?_
    refine zj_iadd d_L_law_568 ?_
    refine zj_sld hO d_L_law_569 (fun v145 => ?_)
    refine zj_aload_o d_L_law_570 rfl ?_
    refine zj_iload_n d_L_law_571 rfl ?_
    refine zj_iconst 2 d_L_law_572 (by decide) ?_
    refine zj_iadd d_L_law_573 ?_
    refine zj_sld hO d_L_law_574 (fun v146 => ?_)
    refine zj_cVI (ci := 9) (T := zT9) (N := 53) [.int v145, .int v146] zm_V_M_worst ml_L_71 rfl (fun _ _ h => B_M_worst g (d + 62) h) (Nat.le_refl _) (by decide) rfl rfl (by simp [zcI, zcJ]) d_L_law_575 (fun v147 u148 => ?_)
    refine zj_icmp_eq 1042 d_L_law_578 rfl (fun _ => ?_) (fun _ => ?_)
    · refine zj_iinc (v := (x9 + 6)) [some (.ref b), some (zr g (some a1)), some (zr g (some a4)), some (.int (x9 + 6))] d_L_law_1042 rfl rfl (by decide) rfl rfl ?_
      refine zj_goto 18 d_L_law_1045 rfl ?_
      exact hr7 u148 (x9 + 6)
    refine zj_iconst 0 d_L_law_581 (by decide) ?_
    exact zj_zretL (by decide) rfl rfl rfl rfl d_L_law_582
  refine zj_tsw 13 (13) 583 d_L_law_33 (by decide) (by decide) (by decide) rfl rfl (fun _ => ?_) (fun h150 => ?_)
  · refine zj_aload_n d_L_law_583 rfl ?_
    refine zj_aload_o d_L_law_584 rfl ?_
    refine zj_iload_n d_L_law_585 rfl ?_
    refine zj_iconst 1 d_L_law_586 (by decide) ?_
    refine zj_iadd d_L_law_587 ?_
    refine zj_sld hO d_L_law_588 (fun v151 => ?_)
    refine zj_aload_o d_L_law_589 rfl ?_
    refine zj_iload_n d_L_law_590 rfl ?_
    refine zj_iconst 2 d_L_law_591 (by decide) ?_
    refine zj_iadd d_L_law_592 ?_
    refine zj_sld hO d_L_law_593 (fun v152 => ?_)
    refine zj_cVI (ci := 8) (T := zT8) (N := 16) [.int v151, .int v152] zm_V_X_lessons ml_L_72 rfl (fun _ _ h => B_X_lessons g (d + 71) h) (Nat.le_refl _) (by decide) rfl rfl (by decide) d_L_law_594 (fun v153 u154 => ?_)
    refine zj_aload_n d_L_law_597 rfl ?_
    refine zj_aload_o d_L_law_598 rfl ?_
    refine zj_iload_n d_L_law_599 rfl ?_
    refine zj_iconst 1 d_L_law_600 (by decide) ?_
    refine zj_iadd d_L_law_601 ?_
    refine zj_sld hO d_L_law_602 (fun v156 => ?_)
    refine zj_aload_o d_L_law_603 rfl ?_
    refine zj_iload_n d_L_law_604 rfl ?_
    refine zj_iconst 2 d_L_law_605 (by decide) ?_
    refine zj_iadd d_L_law_606 ?_
    refine zj_sld hO d_L_law_607 (fun v157 => ?_)
    refine zj_cVI (ci := 9) (T := zT9) (N := 53) [.int v156, .int v157] zm_V_M_lessons ml_L_75 rfl (fun _ _ h => B_M_lessons g (d + 59) h) (Nat.le_refl _) (by decide) rfl rfl (by simp [zcI, zcJ]) d_L_law_608 (fun v158 u159 => ?_)
    refine zj_icmp_eq 1042 d_L_law_611 rfl (fun _ => ?_) (fun _ => ?_)
    · refine zj_iinc (v := (x9 + 6)) [some (.ref b), some (zr g (some a1)), some (zr g (some a4)), some (.int (x9 + 6))] d_L_law_1042 rfl rfl (by decide) rfl rfl ?_
      refine zj_goto 18 d_L_law_1045 rfl ?_
      exact hr7 u159 (x9 + 6)
    refine zj_iconst 0 d_L_law_614 (by decide) ?_
    exact zj_zretL (by decide) rfl rfl rfl rfl d_L_law_615
  refine zj_tsw 14 (14) 616 d_L_law_33 (by decide) (by decide) (by decide) rfl rfl (fun _ => ?_) (fun h161 => ?_)
  · refine zj_aload_n d_L_law_616 rfl ?_
    refine zj_cVI (ci := 8) (T := zT8) (N := 16) [] zm_V_X_ring ml_L_76 rfl (fun _ _ h => B_X_ring g (d + 71) h) (Nat.le_refl _) (by decide) rfl rfl (by decide) d_L_law_617 (fun v162 u163 => ?_)
    refine zj_aload_n d_L_law_620 rfl ?_
    refine zj_cVI (ci := 9) (T := zT9) (N := 53) [] zm_V_M_ring ml_L_79 rfl (fun _ _ h => B_M_ring g (d + 62) h) (Nat.le_refl _) (by decide) rfl rfl (by simp [zcI, zcJ]) d_L_law_621 (fun v165 u166 => ?_)
    refine zj_icmp_eq 1042 d_L_law_624 rfl (fun _ => ?_) (fun _ => ?_)
    · refine zj_iinc (v := (x9 + 6)) [some (.ref b), some (zr g (some a1)), some (zr g (some a4)), some (.int (x9 + 6))] d_L_law_1042 rfl rfl (by decide) rfl rfl ?_
      refine zj_goto 18 d_L_law_1045 rfl ?_
      exact hr7 u166 (x9 + 6)
    refine zj_iconst 0 d_L_law_627 (by decide) ?_
    exact zj_zretL (by decide) rfl rfl rfl rfl d_L_law_628
  refine zj_tsw 15 (15) 629 d_L_law_33 (by decide) (by decide) (by decide) rfl rfl (fun _ => ?_) (fun h168 => ?_)
  · refine zj_aload_n d_L_law_629 rfl ?_
    refine zj_aload_o d_L_law_630 rfl ?_
    refine zj_iload_n d_L_law_631 rfl ?_
    refine zj_iconst 1 d_L_law_632 (by decide) ?_
    refine zj_iadd d_L_law_633 ?_
    refine zj_sld hO d_L_law_634 (fun v169 => ?_)
    refine zj_cVJ (ci := 8) (T := zT8) (N := 16) [.int v169] zm_V_X_sure ml_L_80 rfl (fun _ _ h => B_X_sure g (d + 71) h) (Nat.le_refl _) (by decide) rfl rfl (by decide) d_L_law_635 (fun v170 u171 => ?_)
    refine zj_aload_n d_L_law_638 rfl ?_
    refine zj_aload_o d_L_law_639 rfl ?_
    refine zj_iload_n d_L_law_640 rfl ?_
    refine zj_iconst 1 d_L_law_641 (by decide) ?_
    refine zj_iadd d_L_law_642 ?_
    refine zj_sld hO d_L_law_643 (fun v173 => ?_)
    refine zj_cVJ (ci := 9) (T := zT9) (N := 53) [.int v173] zm_V_M_sure ml_L_84 rfl (fun _ _ h => B_M_sure g (d + 63) h) (Nat.le_refl _) (by decide) rfl rfl (by simp [zcI, zcJ]) d_L_law_644 (fun v174 u175 => ?_)
    refine zj_lcmp d_L_law_647 ?_
    refine zj_if_eq 1042 d_L_law_648 rfl (fun _ => ?_) (fun _ => ?_)
    · refine zj_iinc (v := (x9 + 6)) [some (.ref b), some (zr g (some a1)), some (zr g (some a4)), some (.int (x9 + 6))] d_L_law_1042 rfl rfl (by decide) rfl rfl ?_
      refine zj_goto 18 d_L_law_1045 rfl ?_
      exact hr7 u175 (x9 + 6)
    refine zj_iconst 0 d_L_law_651 (by decide) ?_
    exact zj_zretL (by decide) rfl rfl rfl rfl d_L_law_652
  refine zj_tsw 16 (16) 653 d_L_law_33 (by decide) (by decide) (by decide) rfl rfl (fun _ => ?_) (fun h177 => ?_)
  · refine zj_aload_n d_L_law_653 rfl ?_
    refine zj_aload_o d_L_law_654 rfl ?_
    refine zj_iload_n d_L_law_655 rfl ?_
    refine zj_iconst 1 d_L_law_656 (by decide) ?_
    refine zj_iadd d_L_law_657 ?_
    refine zj_sld hO d_L_law_658 (fun v178 => ?_)
    refine zj_cVI (ci := 8) (T := zT8) (N := 16) [.int v178] zm_V_X_done ml_L_85 rfl (fun _ _ h => B_X_done g (d + 70) h) (Nat.le_refl _) (by decide) rfl rfl (by decide) d_L_law_659 (fun v179 u180 => ?_)
    refine zj_aload_n d_L_law_662 rfl ?_
    refine zj_aload_o d_L_law_663 rfl ?_
    refine zj_iload_n d_L_law_664 rfl ?_
    refine zj_iconst 1 d_L_law_665 (by decide) ?_
    refine zj_iadd d_L_law_666 ?_
    refine zj_sld hO d_L_law_667 (fun v182 => ?_)
    refine zj_cVI (ci := 9) (T := zT9) (N := 53) [.int v182] zm_V_M_done ml_L_88 rfl (fun _ _ h => B_M_done g (d + 63) h) (Nat.le_refl _) (by decide) rfl rfl (by simp [zcI, zcJ]) d_L_law_668 (fun v183 u184 => ?_)
    refine zj_icmp_eq 1042 d_L_law_671 rfl (fun _ => ?_) (fun _ => ?_)
    · refine zj_iinc (v := (x9 + 6)) [some (.ref b), some (zr g (some a1)), some (zr g (some a4)), some (.int (x9 + 6))] d_L_law_1042 rfl rfl (by decide) rfl rfl ?_
      refine zj_goto 18 d_L_law_1045 rfl ?_
      exact hr7 u184 (x9 + 6)
    refine zj_iconst 0 d_L_law_674 (by decide) ?_
    exact zj_zretL (by decide) rfl rfl rfl rfl d_L_law_675
  refine zj_tsw 17 (17) 676 d_L_law_33 (by decide) (by decide) (by decide) rfl rfl (fun _ => ?_) (fun h186 => ?_)
  · refine zj_aload_n d_L_law_676 rfl ?_
    refine zj_cVIp (ci := 8) (T := zT8) (N := 16) [] zm_V_X_even ml_L_89 rfl (fun _ _ h => B_X_even g (d + 75) h) (Nat.le_refl _) (by decide) rfl rfl (by decide) d_L_law_677 (fun v187 => ?_)
    refine zj_aload_n d_L_law_680 rfl ?_
    refine zj_cVIp (ci := 9) (T := zT9) (N := 53) [] zm_V_M_even ml_L_92 rfl (fun _ _ h => B_M_even g (d + 76) h) (Nat.le_refl _) (by decide) rfl rfl (by simp [zcI, zcJ]) d_L_law_681 (fun v189 => ?_)
    refine zj_icmp_eq 1042 d_L_law_684 rfl (fun _ => ?_) (fun _ => ?_)
    · refine zj_iinc (v := (x9 + 6)) [some (.ref b), some (zr g (some a1)), some (zr g (some a4)), some (.int (x9 + 6))] d_L_law_1042 rfl rfl (by decide) rfl rfl ?_
      refine zj_goto 18 d_L_law_1045 rfl ?_
      exact hr7 u8 (x9 + 6)
    refine zj_iconst 0 d_L_law_687 (by decide) ?_
    exact zj_zretL (by decide) rfl rfl rfl rfl d_L_law_688
  refine zj_tsw 18 (18) 689 d_L_law_33 (by decide) (by decide) (by decide) rfl rfl (fun _ => ?_) (fun h191 => ?_)
  · refine zj_aload_n d_L_law_689 rfl ?_
    refine zj_aload_o d_L_law_690 rfl ?_
    refine zj_iload_n d_L_law_691 rfl ?_
    refine zj_iconst 1 d_L_law_692 (by decide) ?_
    refine zj_iadd d_L_law_693 ?_
    refine zj_sld hO d_L_law_694 (fun v192 => ?_)
    refine zj_cVI (ci := 8) (T := zT8) (N := 16) [.int v192] zm_V_X_pay ml_L_93 rfl (fun _ _ h => B_X_pay g (d + 70) h) (Nat.le_refl _) (by decide) rfl rfl (by decide) d_L_law_695 (fun v193 u194 => ?_)
    refine zj_aload_n d_L_law_698 rfl ?_
    refine zj_aload_o d_L_law_699 rfl ?_
    refine zj_iload_n d_L_law_700 rfl ?_
    refine zj_iconst 1 d_L_law_701 (by decide) ?_
    refine zj_iadd d_L_law_702 ?_
    refine zj_sld hO d_L_law_703 (fun v196 => ?_)
    refine zj_cVI (ci := 9) (T := zT9) (N := 53) [.int v196] zm_V_M_pay ml_L_96 rfl (fun _ _ h => B_M_pay g (d + 73) h) (Nat.le_refl _) (by decide) rfl rfl (by simp [zcI, zcJ]) d_L_law_704 (fun v197 u198 => ?_)
    refine zj_icmp_eq 1042 d_L_law_707 rfl (fun _ => ?_) (fun _ => ?_)
    · refine zj_iinc (v := (x9 + 6)) [some (.ref b), some (zr g (some a1)), some (zr g (some a4)), some (.int (x9 + 6))] d_L_law_1042 rfl rfl (by decide) rfl rfl ?_
      refine zj_goto 18 d_L_law_1045 rfl ?_
      exact hr7 u198 (x9 + 6)
    refine zj_iconst 0 d_L_law_710 (by decide) ?_
    exact zj_zretL (by decide) rfl rfl rfl rfl d_L_law_711
  refine zj_tsw 19 (19) 712 d_L_law_33 (by decide) (by decide) (by decide) rfl rfl (fun _ => ?_) (fun h200 => ?_)
  · refine zj_aload_n d_L_law_712 rfl ?_
    refine zj_cVIp (ci := 8) (T := zT8) (N := 16) [] zm_V_X_first ml_L_97 rfl (fun _ _ h => B_X_first g (d + 73) h) (Nat.le_refl _) (by decide) rfl rfl (by decide) d_L_law_713 (fun v201 => ?_)
    refine zj_aload_n d_L_law_716 rfl ?_
    refine zj_cVIp (ci := 9) (T := zT9) (N := 53) [] zm_V_M_first ml_L_100 rfl (fun _ _ h => B_M_first g (d + 75) h) (Nat.le_refl _) (by decide) rfl rfl (by simp [zcI, zcJ]) d_L_law_717 (fun v203 => ?_)
    refine zj_icmp_eq 1042 d_L_law_720 rfl (fun _ => ?_) (fun _ => ?_)
    · refine zj_iinc (v := (x9 + 6)) [some (.ref b), some (zr g (some a1)), some (zr g (some a4)), some (.int (x9 + 6))] d_L_law_1042 rfl rfl (by decide) rfl rfl ?_
      refine zj_goto 18 d_L_law_1045 rfl ?_
      exact hr7 u8 (x9 + 6)
    refine zj_iconst 0 d_L_law_723 (by decide) ?_
    exact zj_zretL (by decide) rfl rfl rfl rfl d_L_law_724
  refine zj_tsw 20 (20) 725 d_L_law_33 (by decide) (by decide) (by decide) rfl rfl (fun _ => ?_) (fun h205 => ?_)
  · refine zj_aload_n d_L_law_725 rfl ?_
    refine zj_aload_o d_L_law_726 rfl ?_
    refine zj_iload_n d_L_law_727 rfl ?_
    refine zj_iconst 1 d_L_law_728 (by decide) ?_
    refine zj_iadd d_L_law_729 ?_
    refine zj_sld hO d_L_law_730 (fun v206 => ?_)
    refine zj_aload_o d_L_law_731 rfl ?_
    refine zj_iload_n d_L_law_732 rfl ?_
    refine zj_iconst 2 d_L_law_733 (by decide) ?_
    refine zj_iadd d_L_law_734 ?_
    refine zj_sld hO d_L_law_735 (fun v207 => ?_)
    refine zj_cVIp (ci := 8) (T := zT8) (N := 16) [.int v206, .int v207] zm_V_X_judge ml_L_101 rfl (fun _ _ h => B_X_judge g (d + 71) h) (Nat.le_refl _) (by decide) rfl rfl (by decide) d_L_law_736 (fun v208 => ?_)
    refine zj_aload_n d_L_law_739 rfl ?_
    refine zj_aload_o d_L_law_740 rfl ?_
    refine zj_iload_n d_L_law_741 rfl ?_
    refine zj_iconst 1 d_L_law_742 (by decide) ?_
    refine zj_iadd d_L_law_743 ?_
    refine zj_sld hO d_L_law_744 (fun v210 => ?_)
    refine zj_aload_o d_L_law_745 rfl ?_
    refine zj_iload_n d_L_law_746 rfl ?_
    refine zj_iconst 2 d_L_law_747 (by decide) ?_
    refine zj_iadd d_L_law_748 ?_
    refine zj_sld hO d_L_law_749 (fun v211 => ?_)
    refine zj_cVIp (ci := 9) (T := zT9) (N := 53) [.int v210, .int v211] zm_V_M_judge ml_L_104 rfl (fun _ _ h => B_M_judge g (d + 74) h) (Nat.le_refl _) (by decide) rfl rfl (by simp [zcI, zcJ]) d_L_law_750 (fun v212 => ?_)
    refine zj_icmp_eq 1042 d_L_law_753 rfl (fun _ => ?_) (fun _ => ?_)
    · refine zj_iinc (v := (x9 + 6)) [some (.ref b), some (zr g (some a1)), some (zr g (some a4)), some (.int (x9 + 6))] d_L_law_1042 rfl rfl (by decide) rfl rfl ?_
      refine zj_goto 18 d_L_law_1045 rfl ?_
      exact hr7 u8 (x9 + 6)
    refine zj_iconst 0 d_L_law_756 (by decide) ?_
    exact zj_zretL (by decide) rfl rfl rfl rfl d_L_law_757
  refine zj_tsw 21 (21) 758 d_L_law_33 (by decide) (by decide) (by decide) rfl rfl (fun _ => ?_) (fun h214 => ?_)
  · refine zj_aload_n d_L_law_758 rfl ?_
    refine zj_cVI (ci := 8) (T := zT8) (N := 16) [] zm_V_X_image ml_L_105 rfl (fun _ _ h => B_X_image g (d + 74) h) (Nat.le_refl _) (by decide) rfl rfl (by decide) d_L_law_759 (fun v215 u216 => ?_)
    refine zj_aload_n d_L_law_762 rfl ?_
    refine zj_cVI (ci := 9) (T := zT9) (N := 53) [] zm_V_M_image ml_L_108 rfl (fun _ _ h => B_M_image g (d + 76) h) (Nat.le_refl _) (by decide) rfl rfl (by simp [zcI, zcJ]) d_L_law_763 (fun v218 u219 => ?_)
    refine zj_icmp_eq 1042 d_L_law_766 rfl (fun _ => ?_) (fun _ => ?_)
    · refine zj_iinc (v := (x9 + 6)) [some (.ref b), some (zr g (some a1)), some (zr g (some a4)), some (.int (x9 + 6))] d_L_law_1042 rfl rfl (by decide) rfl rfl ?_
      refine zj_goto 18 d_L_law_1045 rfl ?_
      exact hr7 u219 (x9 + 6)
    refine zj_iconst 0 d_L_law_769 (by decide) ?_
    exact zj_zretL (by decide) rfl rfl rfl rfl d_L_law_770
  refine zj_tsw 22 (22) 771 d_L_law_33 (by decide) (by decide) (by decide) rfl rfl (fun _ => ?_) (fun h221 => ?_)
  · refine zj_aload_n d_L_law_771 rfl ?_
    refine zj_cVI (ci := 8) (T := zT8) (N := 16) [] zm_V_X_back ml_L_109 rfl (fun _ _ h => B_X_back g (d + 74) h) (Nat.le_refl _) (by decide) rfl rfl (by decide) d_L_law_772 (fun v222 u223 => ?_)
    refine zj_aload_n d_L_law_775 rfl ?_
    refine zj_cVI (ci := 9) (T := zT9) (N := 53) [] zm_V_M_back ml_L_112 rfl (fun _ _ h => B_M_back g (d + 76) h) (Nat.le_refl _) (by decide) rfl rfl (by simp [zcI, zcJ]) d_L_law_776 (fun v225 u226 => ?_)
    refine zj_icmp_eq 1042 d_L_law_779 rfl (fun _ => ?_) (fun _ => ?_)
    · refine zj_iinc (v := (x9 + 6)) [some (.ref b), some (zr g (some a1)), some (zr g (some a4)), some (.int (x9 + 6))] d_L_law_1042 rfl rfl (by decide) rfl rfl ?_
      refine zj_goto 18 d_L_law_1045 rfl ?_
      exact hr7 u226 (x9 + 6)
    refine zj_iconst 0 d_L_law_782 (by decide) ?_
    exact zj_zretL (by decide) rfl rfl rfl rfl d_L_law_783
  refine zj_tsw 23 (23) 784 d_L_law_33 (by decide) (by decide) (by decide) rfl rfl (fun _ => ?_) (fun h228 => ?_)
  · refine zj_aload_n d_L_law_784 rfl ?_
    refine zj_aload_o d_L_law_785 rfl ?_
    refine zj_iload_n d_L_law_786 rfl ?_
    refine zj_iconst 1 d_L_law_787 (by decide) ?_
    refine zj_iadd d_L_law_788 ?_
    refine zj_sld hO d_L_law_789 (fun v229 => ?_)
    refine zj_cVIp (ci := 8) (T := zT8) (N := 16) [.int v229] zm_V_X_count ml_L_113 rfl (fun _ _ h => B_X_count g (d + 74) h) (Nat.le_refl _) (by decide) rfl rfl (by decide) d_L_law_790 (fun v230 => ?_)
    refine zj_aload_n d_L_law_793 rfl ?_
    refine zj_aload_o d_L_law_794 rfl ?_
    refine zj_iload_n d_L_law_795 rfl ?_
    refine zj_iconst 1 d_L_law_796 (by decide) ?_
    refine zj_iadd d_L_law_797 ?_
    refine zj_sld hO d_L_law_798 (fun v232 => ?_)
    refine zj_cVIp (ci := 9) (T := zT9) (N := 53) [.int v232] zm_V_M_count ml_L_116 rfl (fun _ _ h => B_M_count g (d + 75) h) (Nat.le_refl _) (by decide) rfl rfl (by simp [zcI, zcJ]) d_L_law_799 (fun v233 => ?_)
    refine zj_icmp_eq 1042 d_L_law_802 rfl (fun _ => ?_) (fun _ => ?_)
    · refine zj_iinc (v := (x9 + 6)) [some (.ref b), some (zr g (some a1)), some (zr g (some a4)), some (.int (x9 + 6))] d_L_law_1042 rfl rfl (by decide) rfl rfl ?_
      refine zj_goto 18 d_L_law_1045 rfl ?_
      exact hr7 u8 (x9 + 6)
    refine zj_iconst 0 d_L_law_805 (by decide) ?_
    exact zj_zretL (by decide) rfl rfl rfl rfl d_L_law_806
  refine zj_tsw 24 (24) 807 d_L_law_33 (by decide) (by decide) (by decide) rfl rfl (fun _ => ?_) (fun h235 => ?_)
  · refine zj_aload_n d_L_law_807 rfl ?_
    refine zj_aload_o d_L_law_808 rfl ?_
    refine zj_iload_n d_L_law_809 rfl ?_
    refine zj_iconst 1 d_L_law_810 (by decide) ?_
    refine zj_iadd d_L_law_811 ?_
    refine zj_sld hO d_L_law_812 (fun v236 => ?_)
    refine zj_aload_o d_L_law_813 rfl ?_
    refine zj_iload_n d_L_law_814 rfl ?_
    refine zj_iconst 2 d_L_law_815 (by decide) ?_
    refine zj_iadd d_L_law_816 ?_
    refine zj_sld hO d_L_law_817 (fun v237 => ?_)
    refine zj_aload_o d_L_law_818 rfl ?_
    refine zj_iload_n d_L_law_819 rfl ?_
    refine zj_iconst 3 d_L_law_820 (by decide) ?_
    refine zj_iadd d_L_law_821 ?_
    refine zj_sld hO d_L_law_822 (fun v238 => ?_)
    refine zj_cVI (ci := 8) (T := zT8) (N := 16) [.int v236, .int v237, .int v238] zm_V_X_sheet ml_L_117 rfl (fun _ _ h => B_X_sheet g (d + 74) h) (Nat.le_refl _) (by decide) rfl rfl (by decide) d_L_law_823 (fun v239 u240 => ?_)
    refine zj_aload_n d_L_law_826 rfl ?_
    refine zj_aload_o d_L_law_827 rfl ?_
    refine zj_iload_n d_L_law_828 rfl ?_
    refine zj_iconst 1 d_L_law_829 (by decide) ?_
    refine zj_iadd d_L_law_830 ?_
    refine zj_sld hO d_L_law_831 (fun v242 => ?_)
    refine zj_aload_o d_L_law_832 rfl ?_
    refine zj_iload_n d_L_law_833 rfl ?_
    refine zj_iconst 2 d_L_law_834 (by decide) ?_
    refine zj_iadd d_L_law_835 ?_
    refine zj_sld hO d_L_law_836 (fun v243 => ?_)
    refine zj_aload_o d_L_law_837 rfl ?_
    refine zj_iload_n d_L_law_838 rfl ?_
    refine zj_iconst 3 d_L_law_839 (by decide) ?_
    refine zj_iadd d_L_law_840 ?_
    refine zj_sld hO d_L_law_841 (fun v244 => ?_)
    refine zj_cVI (ci := 9) (T := zT9) (N := 53) [.int v242, .int v243, .int v244] zm_V_M_sheet ml_L_120 rfl (fun _ _ h => B_M_sheet g (d + 74) h) (Nat.le_refl _) (by decide) rfl rfl (by simp [zcI, zcJ]) d_L_law_842 (fun v245 u246 => ?_)
    refine zj_icmp_eq 1042 d_L_law_845 rfl (fun _ => ?_) (fun _ => ?_)
    · refine zj_iinc (v := (x9 + 6)) [some (.ref b), some (zr g (some a1)), some (zr g (some a4)), some (.int (x9 + 6))] d_L_law_1042 rfl rfl (by decide) rfl rfl ?_
      refine zj_goto 18 d_L_law_1045 rfl ?_
      exact hr7 u246 (x9 + 6)
    refine zj_iconst 0 d_L_law_848 (by decide) ?_
    exact zj_zretL (by decide) rfl rfl rfl rfl d_L_law_849
  refine zj_tsw 25 (25) 850 d_L_law_33 (by decide) (by decide) (by decide) rfl rfl (fun _ => ?_) (fun h248 => ?_)
  · refine zj_aload_n d_L_law_850 rfl ?_
    refine zj_aload_o d_L_law_851 rfl ?_
    refine zj_iload_n d_L_law_852 rfl ?_
    refine zj_iconst 1 d_L_law_853 (by decide) ?_
    refine zj_iadd d_L_law_854 ?_
    refine zj_sld hO d_L_law_855 (fun v249 => ?_)
    refine zj_aload_o d_L_law_856 rfl ?_
    refine zj_iload_n d_L_law_857 rfl ?_
    refine zj_iconst 2 d_L_law_858 (by decide) ?_
    refine zj_iadd d_L_law_859 ?_
    refine zj_sld hO d_L_law_860 (fun v250 => ?_)
    refine zj_aload_o d_L_law_861 rfl ?_
    refine zj_iload_n d_L_law_862 rfl ?_
    refine zj_iconst 3 d_L_law_863 (by decide) ?_
    refine zj_iadd d_L_law_864 ?_
    refine zj_sld hO d_L_law_865 (fun v251 => ?_)
    refine zj_cVI (ci := 8) (T := zT8) (N := 16) [.int v249, .int v250, .int v251] zm_V_X_cell ml_L_121 rfl (fun _ _ h => B_X_cell g (d + 74) h) (Nat.le_refl _) (by decide) rfl rfl (by decide) d_L_law_866 (fun v252 u253 => ?_)
    refine zj_aload_n d_L_law_869 rfl ?_
    refine zj_aload_o d_L_law_870 rfl ?_
    refine zj_iload_n d_L_law_871 rfl ?_
    refine zj_iconst 1 d_L_law_872 (by decide) ?_
    refine zj_iadd d_L_law_873 ?_
    refine zj_sld hO d_L_law_874 (fun v255 => ?_)
    refine zj_aload_o d_L_law_875 rfl ?_
    refine zj_iload_n d_L_law_876 rfl ?_
    refine zj_iconst 2 d_L_law_877 (by decide) ?_
    refine zj_iadd d_L_law_878 ?_
    refine zj_sld hO d_L_law_879 (fun v256 => ?_)
    refine zj_aload_o d_L_law_880 rfl ?_
    refine zj_iload_n d_L_law_881 rfl ?_
    refine zj_iconst 3 d_L_law_882 (by decide) ?_
    refine zj_iadd d_L_law_883 ?_
    refine zj_sld hO d_L_law_884 (fun v257 => ?_)
    refine zj_cVI (ci := 9) (T := zT9) (N := 53) [.int v255, .int v256, .int v257] zm_V_M_cell ml_L_124 rfl (fun _ _ h => B_M_cell g (d + 74) h) (Nat.le_refl _) (by decide) rfl rfl (by simp [zcI, zcJ]) d_L_law_885 (fun v258 u259 => ?_)
    refine zj_icmp_eq 1042 d_L_law_888 rfl (fun _ => ?_) (fun _ => ?_)
    · refine zj_iinc (v := (x9 + 6)) [some (.ref b), some (zr g (some a1)), some (zr g (some a4)), some (.int (x9 + 6))] d_L_law_1042 rfl rfl (by decide) rfl rfl ?_
      refine zj_goto 18 d_L_law_1045 rfl ?_
      exact hr7 u259 (x9 + 6)
    refine zj_iconst 0 d_L_law_891 (by decide) ?_
    exact zj_zretL (by decide) rfl rfl rfl rfl d_L_law_892
  refine zj_tsw 26 (26) 893 d_L_law_33 (by decide) (by decide) (by decide) rfl rfl (fun _ => ?_) (fun h261 => ?_)
  · refine zj_aload_n d_L_law_893 rfl ?_
    refine zj_aload_o d_L_law_894 rfl ?_
    refine zj_iload_n d_L_law_895 rfl ?_
    refine zj_iconst 1 d_L_law_896 (by decide) ?_
    refine zj_iadd d_L_law_897 ?_
    refine zj_sld hO d_L_law_898 (fun v262 => ?_)
    refine zj_aload_o d_L_law_899 rfl ?_
    refine zj_iload_n d_L_law_900 rfl ?_
    refine zj_iconst 2 d_L_law_901 (by decide) ?_
    refine zj_iadd d_L_law_902 ?_
    refine zj_sld hO d_L_law_903 (fun v263 => ?_)
    refine zj_aload_o d_L_law_904 rfl ?_
    refine zj_iload_n d_L_law_905 rfl ?_
    refine zj_iconst 3 d_L_law_906 (by decide) ?_
    refine zj_iadd d_L_law_907 ?_
    refine zj_sld hO d_L_law_908 (fun v264 => ?_)
    refine zj_aload_o d_L_law_909 rfl ?_
    refine zj_iload_n d_L_law_910 rfl ?_
    refine zj_iconst 4 d_L_law_911 (by decide) ?_
    refine zj_iadd d_L_law_912 ?_
    refine zj_sld hO d_L_law_913 (fun v265 => ?_)
    refine zj_aload_o d_L_law_914 rfl ?_
    refine zj_iload_n d_L_law_915 rfl ?_
    refine zj_iconst 5 d_L_law_916 (by decide) ?_
    refine zj_iadd d_L_law_917 ?_
    refine zj_sld hO d_L_law_918 (fun v266 => ?_)
    refine zj_cVI (ci := 8) (T := zT8) (N := 16) [.int v262, .int v263, .int v264, .int v265, .int v266] zm_V_X_copy ml_L_125 rfl (fun _ _ h => B_X_copy g (d + 75) h) (Nat.le_refl _) (by decide) rfl rfl (by decide) d_L_law_919 (fun v267 u268 => ?_)
    refine zj_aload_n d_L_law_922 rfl ?_
    refine zj_aload_o d_L_law_923 rfl ?_
    refine zj_iload_n d_L_law_924 rfl ?_
    refine zj_iconst 1 d_L_law_925 (by decide) ?_
    refine zj_iadd d_L_law_926 ?_
    refine zj_sld hO d_L_law_927 (fun v270 => ?_)
    refine zj_aload_o d_L_law_928 rfl ?_
    refine zj_iload_n d_L_law_929 rfl ?_
    refine zj_iconst 2 d_L_law_930 (by decide) ?_
    refine zj_iadd d_L_law_931 ?_
    refine zj_sld hO d_L_law_932 (fun v271 => ?_)
    refine zj_aload_o d_L_law_933 rfl ?_
    refine zj_iload_n d_L_law_934 rfl ?_
    refine zj_iconst 3 d_L_law_935 (by decide) ?_
    refine zj_iadd d_L_law_936 ?_
    refine zj_sld hO d_L_law_937 (fun v272 => ?_)
    refine zj_aload_o d_L_law_938 rfl ?_
    refine zj_iload_n d_L_law_939 rfl ?_
    refine zj_iconst 4 d_L_law_940 (by decide) ?_
    refine zj_iadd d_L_law_941 ?_
    refine zj_sld hO d_L_law_942 (fun v273 => ?_)
    refine zj_aload_o d_L_law_943 rfl ?_
    refine zj_iload_n d_L_law_944 rfl ?_
    refine zj_iconst 5 d_L_law_945 (by decide) ?_
    refine zj_iadd d_L_law_946 ?_
    refine zj_sld hO d_L_law_947 (fun v274 => ?_)
    refine zj_cVI (ci := 9) (T := zT9) (N := 53) [.int v270, .int v271, .int v272, .int v273, .int v274] zm_V_M_copy ml_L_129 rfl (fun _ _ h => B_M_copy g (d + 74) h) (Nat.le_refl _) (by decide) rfl rfl (by simp [zcI, zcJ]) d_L_law_948 (fun v275 u276 => ?_)
    refine zj_icmp_eq 1042 d_L_law_951 rfl (fun _ => ?_) (fun _ => ?_)
    · refine zj_iinc (v := (x9 + 6)) [some (.ref b), some (zr g (some a1)), some (zr g (some a4)), some (.int (x9 + 6))] d_L_law_1042 rfl rfl (by decide) rfl rfl ?_
      refine zj_goto 18 d_L_law_1045 rfl ?_
      exact hr7 u276 (x9 + 6)
    refine zj_iconst 0 d_L_law_954 (by decide) ?_
    exact zj_zretL (by decide) rfl rfl rfl rfl d_L_law_955
  refine zj_tsw 27 (27) 956 d_L_law_33 (by decide) (by decide) (by decide) rfl rfl (fun _ => ?_) (fun h278 => ?_)
  · refine zj_aload_n d_L_law_956 rfl ?_
    refine zj_aload_o d_L_law_957 rfl ?_
    refine zj_iload_n d_L_law_958 rfl ?_
    refine zj_iconst 1 d_L_law_959 (by decide) ?_
    refine zj_iadd d_L_law_960 ?_
    refine zj_sld hO d_L_law_961 (fun v279 => ?_)
    refine zj_aload_o d_L_law_962 rfl ?_
    refine zj_iload_n d_L_law_963 rfl ?_
    refine zj_iconst 2 d_L_law_964 (by decide) ?_
    refine zj_iadd d_L_law_965 ?_
    refine zj_sld hO d_L_law_966 (fun v280 => ?_)
    refine zj_aload_o d_L_law_967 rfl ?_
    refine zj_iload_n d_L_law_968 rfl ?_
    refine zj_iconst 3 d_L_law_969 (by decide) ?_
    refine zj_iadd d_L_law_970 ?_
    refine zj_sld hO d_L_law_971 (fun v281 => ?_)
    refine zj_aload_o d_L_law_972 rfl ?_
    refine zj_iload_n d_L_law_973 rfl ?_
    refine zj_iconst 4 d_L_law_974 (by decide) ?_
    refine zj_iadd d_L_law_975 ?_
    refine zj_sld hO d_L_law_976 (fun v282 => ?_)
    refine zj_cVI (ci := 8) (T := zT8) (N := 16) [.int v279, .int v280, .int v281, .int v282] zm_V_X_people ml_L_130 rfl (fun _ _ h => B_X_people g (d + 74) h) (Nat.le_refl _) (by decide) rfl rfl (by decide) d_L_law_977 (fun v283 u284 => ?_)
    refine zj_aload_n d_L_law_980 rfl ?_
    refine zj_aload_o d_L_law_981 rfl ?_
    refine zj_iload_n d_L_law_982 rfl ?_
    refine zj_iconst 1 d_L_law_983 (by decide) ?_
    refine zj_iadd d_L_law_984 ?_
    refine zj_sld hO d_L_law_985 (fun v286 => ?_)
    refine zj_aload_o d_L_law_986 rfl ?_
    refine zj_iload_n d_L_law_987 rfl ?_
    refine zj_iconst 2 d_L_law_988 (by decide) ?_
    refine zj_iadd d_L_law_989 ?_
    refine zj_sld hO d_L_law_990 (fun v287 => ?_)
    refine zj_aload_o d_L_law_991 rfl ?_
    refine zj_iload_n d_L_law_992 rfl ?_
    refine zj_iconst 3 d_L_law_993 (by decide) ?_
    refine zj_iadd d_L_law_994 ?_
    refine zj_sld hO d_L_law_995 (fun v288 => ?_)
    refine zj_aload_o d_L_law_996 rfl ?_
    refine zj_iload_n d_L_law_997 rfl ?_
    refine zj_iconst 4 d_L_law_998 (by decide) ?_
    refine zj_iadd d_L_law_999 ?_
    refine zj_sld hO d_L_law_1000 (fun v289 => ?_)
    refine zj_cVI (ci := 9) (T := zT9) (N := 53) [.int v286, .int v287, .int v288, .int v289] zm_V_M_people ml_L_134 rfl (fun _ _ h => B_M_people g (d + 72) h) (Nat.le_refl _) (by decide) rfl rfl (by simp [zcI, zcJ]) d_L_law_1001 (fun v290 u291 => ?_)
    refine zj_icmp_eq 1042 d_L_law_1004 rfl (fun _ => ?_) (fun _ => ?_)
    · refine zj_iinc (v := (x9 + 6)) [some (.ref b), some (zr g (some a1)), some (zr g (some a4)), some (.int (x9 + 6))] d_L_law_1042 rfl rfl (by decide) rfl rfl ?_
      refine zj_goto 18 d_L_law_1045 rfl ?_
      exact hr7 u291 (x9 + 6)
    refine zj_iconst 0 d_L_law_1007 (by decide) ?_
    exact zj_zretL (by decide) rfl rfl rfl rfl d_L_law_1008
  refine zj_tsw 28 (28) 1009 d_L_law_33 (by decide) (by decide) (by decide) rfl rfl (fun _ => ?_) (fun h293 => ?_)
  · refine zj_aload_n d_L_law_1009 rfl ?_
    refine zj_aload_o d_L_law_1010 rfl ?_
    refine zj_iload_n d_L_law_1011 rfl ?_
    refine zj_iconst 1 d_L_law_1012 (by decide) ?_
    refine zj_iadd d_L_law_1013 ?_
    refine zj_sld hO d_L_law_1014 (fun v294 => ?_)
    refine zj_aload_o d_L_law_1015 rfl ?_
    refine zj_iload_n d_L_law_1016 rfl ?_
    refine zj_iconst 2 d_L_law_1017 (by decide) ?_
    refine zj_iadd d_L_law_1018 ?_
    refine zj_sld hO d_L_law_1019 (fun v295 => ?_)
    refine zj_cVIp (ci := 8) (T := zT8) (N := 16) [.int v294, .int v295] zm_V_X_taken ml_L_135 rfl (fun _ _ h => B_X_taken g (d + 75) h) (Nat.le_refl _) (by decide) rfl rfl (by decide) d_L_law_1020 (fun v296 => ?_)
    refine zj_aload_n d_L_law_1023 rfl ?_
    refine zj_aload_o d_L_law_1024 rfl ?_
    refine zj_iload_n d_L_law_1025 rfl ?_
    refine zj_iconst 1 d_L_law_1026 (by decide) ?_
    refine zj_iadd d_L_law_1027 ?_
    refine zj_sld hO d_L_law_1028 (fun v298 => ?_)
    refine zj_aload_o d_L_law_1029 rfl ?_
    refine zj_iload_n d_L_law_1030 rfl ?_
    refine zj_iconst 2 d_L_law_1031 (by decide) ?_
    refine zj_iadd d_L_law_1032 ?_
    refine zj_sld hO d_L_law_1033 (fun v299 => ?_)
    refine zj_cVIp (ci := 9) (T := zT9) (N := 53) [.int v298, .int v299] zm_V_M_taken ml_L_138 rfl (fun _ _ h => B_M_taken g (d + 74) h) (Nat.le_refl _) (by decide) rfl rfl (by simp [zcI, zcJ]) d_L_law_1034 (fun v300 => ?_)
    refine zj_icmp_eq 1042 d_L_law_1037 rfl (fun _ => ?_) (fun _ => ?_)
    · refine zj_iinc (v := (x9 + 6)) [some (.ref b), some (zr g (some a1)), some (zr g (some a4)), some (.int (x9 + 6))] d_L_law_1042 rfl rfl (by decide) rfl rfl ?_
      refine zj_goto 18 d_L_law_1045 rfl ?_
      exact hr7 u8 (x9 + 6)
    refine zj_iconst 0 d_L_law_1040 (by decide) ?_
    exact zj_zretL (by decide) rfl rfl rfl rfl d_L_law_1041
  refine zj_tswD 1042 d_L_law_33 (by have e0 := lv_neT h13 (show (0 : Int32).toInt = 0 by decide); have e1 := lv_neT h24 (show (1 : Int32).toInt = 1 by decide); have e2 := lv_neT h35 (show (2 : Int32).toInt = 2 by decide); have e3 := lv_neT h44 (show (3 : Int32).toInt = 3 by decide); have e4 := lv_neT h55 (show (4 : Int32).toInt = 4 by decide); have e5 := lv_neT h68 (show (5 : Int32).toInt = 5 by decide); have e6 := lv_neT h81 (show (6 : Int32).toInt = 6 by decide); have e7 := lv_neT h94 (show (7 : Int32).toInt = 7 by decide); have e8 := lv_neT h101 (show (8 : Int32).toInt = 8 by decide); have e9 := lv_neT h110 (show (9 : Int32).toInt = 9 by decide); have e10 := lv_neT h121 (show (10 : Int32).toInt = 10 by decide); have e11 := lv_neT h130 (show (11 : Int32).toInt = 11 by decide); have e12 := lv_neT h139 (show (12 : Int32).toInt = 12 by decide); have e13 := lv_neT h150 (show (13 : Int32).toInt = 13 by decide); have e14 := lv_neT h161 (show (14 : Int32).toInt = 14 by decide); have e15 := lv_neT h168 (show (15 : Int32).toInt = 15 by decide); have e16 := lv_neT h177 (show (16 : Int32).toInt = 16 by decide); have e17 := lv_neT h186 (show (17 : Int32).toInt = 17 by decide); have e18 := lv_neT h191 (show (18 : Int32).toInt = 18 by decide); have e19 := lv_neT h200 (show (19 : Int32).toInt = 19 by decide); have e20 := lv_neT h205 (show (20 : Int32).toInt = 20 by decide); have e21 := lv_neT h214 (show (21 : Int32).toInt = 21 by decide); have e22 := lv_neT h221 (show (22 : Int32).toInt = 22 by decide); have e23 := lv_neT h228 (show (23 : Int32).toInt = 23 by decide); have e24 := lv_neT h235 (show (24 : Int32).toInt = 24 by decide); have e25 := lv_neT h248 (show (25 : Int32).toInt = 25 by decide); have e26 := lv_neT h261 (show (26 : Int32).toInt = 26 by decide); have e27 := lv_neT h278 (show (27 : Int32).toInt = 27 by decide); have e28 := lv_neT h293 (show (28 : Int32).toInt = 28 by decide); omega) rfl ?_
  refine zj_iinc (v := (x9 + 6)) [some (.ref b), some (zr g (some a1)), some (zr g (some a4)), some (.int (x9 + 6))] d_L_law_1042 rfl rfl (by decide) rfl rfl ?_
  refine zj_goto 18 d_L_law_1045 rfl ?_
  exact hr7 u8 (x9 + 6)
