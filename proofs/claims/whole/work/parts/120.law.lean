def f_law (Z : ph_L) (h : ph_Hp) : Option (Int32 × ph_Hp) :=
  ph_lp (α := Int32 × ph_Hp) (fun j1 (x2, h3) =>
    if ((nI (ph_n Z)) - (nI 6)) < x2 then
      ph_rz (nI 1) h3
    else
      ph_ldS Z x2 fun v5 =>
      ph_jn (α := ph_Hp) (fun h7 =>
        j1 (x2 + (nI 6), h7)) (fun j6 =>
        if (v5 &&& (nI 63)) = (nI 0) then
          ph_ldS Z (x2 + (nI 1)) fun v9 =>
          ph_ldS Z (x2 + (nI 2)) fun v10 =>
          ph_cl (f_X8_type v9 v10 h3) fun v11 h12 =>
          ph_ldS Z (x2 + (nI 1)) fun v13 =>
          ph_ldS Z (x2 + (nI 2)) fun v14 =>
          ph_cl (f_X9_type v13 v14 h12) fun v15 h16 =>
          if v11 = v15 then
            j6 h16
          else
            ph_rz (nI 0) h16
        else
        if (v5 &&& (nI 63)) = (nI 1) then
          ph_ldS Z (x2 + (nI 1)) fun v19 =>
          ph_cl (f_X8_wipe v19 h3) fun v20 h21 =>
          ph_ldS Z (x2 + (nI 1)) fun v22 =>
          ph_cl (f_X9_wipe v22 h21) fun v23 h24 =>
          if v20 = v23 then
            j6 h24
          else
            ph_rz (nI 0) h24
        else
        if (v5 &&& (nI 63)) = (nI 2) then
          ph_ldS Z (x2 + (nI 1)) fun v27 =>
          ph_cl (f_X8_undo v27 h3) fun v28 h29 =>
          ph_ldS Z (x2 + (nI 1)) fun v30 =>
          ph_cl (f_X9_undo v30 h29) fun v31 h32 =>
          if v28 = v31 then
            j6 h32
          else
            ph_rz (nI 0) h32
        else
        if (v5 &&& (nI 63)) = (nI 3) then
          ph_ldS Z (x2 + (nI 1)) fun v35 =>
          ph_cl (f_X8_fault v35 h3) fun v36 h37 =>
          ph_ldS Z (x2 + (nI 1)) fun v38 =>
          ph_cl (f_X9_fault v38 h37) fun v39 h40 =>
          if v36 = v39 then
            j6 h40
          else
            ph_rz (nI 0) h40
        else
        if (v5 &&& (nI 63)) = (nI 4) then
          ph_ldS Z (x2 + (nI 1)) fun v43 =>
          ph_cl (f_X8_line v43 h3) fun v44 h45 =>
          ph_ldS Z (x2 + (nI 1)) fun v46 =>
          ph_cl (f_X9_line v46 h45) fun v47 h48 =>
          if v44 = v47 then
            j6 h48
          else
            ph_rz (nI 0) h48
        else
        if (v5 &&& (nI 63)) = (nI 5) then
          ph_ldS Z (x2 + (nI 1)) fun v51 =>
          ph_ldS Z (x2 + (nI 2)) fun v52 =>
          ph_cl (f_X8_hole v51 v52 h3) fun v53 h54 =>
          ph_ldS Z (x2 + (nI 1)) fun v55 =>
          ph_ldS Z (x2 + (nI 2)) fun v56 =>
          ph_cl (f_X9_hole v55 v56 h54) fun v57 h58 =>
          if v53 = v57 then
            j6 h58
          else
            ph_rz (nI 0) h58
        else
        if (v5 &&& (nI 63)) = (nI 6) then
          ph_ldS Z (x2 + (nI 1)) fun v61 =>
          ph_ldS Z (x2 + (nI 2)) fun v62 =>
          ph_cl (f_X8_printed v61 v62 h3) fun v63 h64 =>
          ph_ldS Z (x2 + (nI 1)) fun v65 =>
          ph_ldS Z (x2 + (nI 2)) fun v66 =>
          ph_cl (f_X9_printed v65 v66 h64) fun v67 h68 =>
          if v63 = v67 then
            j6 h68
          else
            ph_rz (nI 0) h68
        else
        if (v5 &&& (nI 63)) = (nI 7) then
          ph_ldS Z (x2 + (nI 1)) fun v71 =>
          ph_ldS Z (x2 + (nI 2)) fun v72 =>
          ph_cl (f_X8_move v71 v72 h3) fun v73 h74 =>
          ph_ldS Z (x2 + (nI 1)) fun v75 =>
          ph_ldS Z (x2 + (nI 2)) fun v76 =>
          ph_cl (f_X9_move v75 v76 h74) fun v77 h78 =>
          if v73 = v77 then
            j6 h78
          else
            ph_rz (nI 0) h78
        else
        if (v5 &&& (nI 63)) = (nI 8) then
          ph_ldS Z (x2 + (nI 1)) fun v81 =>
          ph_ldS Z (x2 + (nI 2)) fun v82 =>
          ph_cl (f_X8_cough v81 v82 h3) fun v83 h84 =>
          ph_ldS Z (x2 + (nI 1)) fun v85 =>
          ph_ldS Z (x2 + (nI 2)) fun v86 =>
          ph_cl (f_X9_cough v85 v86 h84) fun v87 h88 =>
          if v83 = v87 then
            j6 h88
          else
            ph_rz (nI 0) h88
        else
        if (v5 &&& (nI 63)) = (nI 9) then
          ph_ldS Z (x2 + (nI 1)) fun v91 =>
          ph_cl (f_X8_dark v91 h3) fun v92 h93 =>
          ph_ldS Z (x2 + (nI 1)) fun v94 =>
          ph_cl (f_X9_dark v94 h93) fun v95 h96 =>
          if v92 = v95 then
            j6 h96
          else
            ph_rz (nI 0) h96
        else
        if (v5 &&& (nI 63)) = (nI 10) then
          ph_ldS Z (x2 + (nI 1)) fun v99 =>
          ph_cl (f_X8_back v99 h3) fun v100 h101 =>
          ph_ldS Z (x2 + (nI 1)) fun v102 =>
          ph_cl (f_X9_back v102 h101) fun v103 h104 =>
          if v100 = v103 then
            j6 h104
          else
            ph_rz (nI 0) h104
        else
        if (v5 &&& (nI 63)) = (nI 11) then
          ph_ldS Z (x2 + (nI 1)) fun v107 =>
          ph_cl (f_X8_read v107 h3) fun v108 h109 =>
          ph_ldS Z (x2 + (nI 1)) fun v110 =>
          ph_cl (f_X9_read v110 h109) fun v111 h112 =>
          if v108 = v111 then
            j6 h112
          else
            ph_rz (nI 0) h112
        else
        if (v5 &&& (nI 63)) = (nI 12) then
          ph_ldS Z (x2 + (nI 1)) fun v115 =>
          ph_ldS Z (x2 + (nI 2)) fun v116 =>
          ph_cl (f_X8_step v115 v116 h3) fun v117 h118 =>
          ph_ldS Z (x2 + (nI 1)) fun v119 =>
          ph_ldS Z (x2 + (nI 2)) fun v120 =>
          ph_cl (f_X9_step v119 v120 h118) fun v121 h122 =>
          if v117 = v121 then
            j6 h122
          else
            ph_rz (nI 0) h122
        else
        if (v5 &&& (nI 63)) = (nI 13) then
          ph_ldS Z (x2 + (nI 1)) fun v125 =>
          ph_ldS Z (x2 + (nI 2)) fun v126 =>
          ph_cl (f_X8_whispers v125 v126 h3) fun v127 h128 =>
          ph_ldS Z (x2 + (nI 1)) fun v129 =>
          ph_ldS Z (x2 + (nI 2)) fun v130 =>
          ph_cl (f_X9_whispers v129 v130 h128) fun v131 h132 =>
          if v127 = v131 then
            j6 h132
          else
            ph_rz (nI 0) h132
        else
        if (v5 &&& (nI 63)) = (nI 14) then
          ph_ldS Z (x2 + (nI 1)) fun v135 =>
          ph_cl (f_X8_drift v135 h3) fun v136 h137 =>
          ph_ldS Z (x2 + (nI 1)) fun v138 =>
          ph_cl (f_X9_drift v138 h137) fun v139 h140 =>
          if v136 = v139 then
            j6 h140
          else
            ph_rz (nI 0) h140
        else
        if (v5 &&& (nI 63)) = (nI 15) then
          ph_cl (f_X8_round h3) fun v143 h144 =>
          ph_cl (f_X9_round h144) fun v145 h146 =>
          if v143 = v145 then
            j6 h146
          else
            ph_rz (nI 0) h146
        else
        if (v5 &&& (nI 63)) = (nI 16) then
          ph_ldS Z (x2 + (nI 1)) fun v149 =>
          ph_ldS Z (x2 + (nI 2)) fun v150 =>
          ph_cl (f_X8_often v149 v150 h3) fun v151 h152 =>
          ph_ldS Z (x2 + (nI 1)) fun v153 =>
          ph_ldS Z (x2 + (nI 2)) fun v154 =>
          ph_cl (f_X9_often v153 v154 h152) fun v155 h156 =>
          if v151 = v155 then
            j6 h156
          else
            ph_rz (nI 0) h156
        else
        if (v5 &&& (nI 63)) = (nI 17) then
          ph_ldS Z (x2 + (nI 1)) fun v159 =>
          ph_ldS Z (x2 + (nI 2)) fun v160 =>
          ph_cl (f_X8_may v159 v160 h3) fun v161 h162 =>
          ph_ldS Z (x2 + (nI 1)) fun v163 =>
          ph_ldS Z (x2 + (nI 2)) fun v164 =>
          ph_cl (f_X9_may v163 v164 h162) fun v165 h166 =>
          if v161 = v165 then
            j6 h166
          else
            ph_rz (nI 0) h166
        else
        if (v5 &&& (nI 63)) = (nI 18) then
          ph_ldS Z (x2 + (nI 1)) fun v169 =>
          ph_ldS Z (x2 + (nI 2)) fun v170 =>
          ph_ldS Z (x2 + (nI 3)) fun v171 =>
          ph_ldS Z (x2 + (nI 4)) fun v172 =>
          ph_cl (f_X8_prompt v169 v170 v171 v172 h3) fun v173 h174 =>
          ph_ldS Z (x2 + (nI 1)) fun v175 =>
          ph_ldS Z (x2 + (nI 2)) fun v176 =>
          ph_ldS Z (x2 + (nI 3)) fun v177 =>
          ph_ldS Z (x2 + (nI 4)) fun v178 =>
          ph_cl (f_X9_prompt v175 v176 v177 v178 h174) fun v179 h180 =>
          if v173 = v179 then
            j6 h180
          else
            ph_rz (nI 0) h180
        else
        if (v5 &&& (nI 63)) = (nI 19) then
          ph_ldS Z (x2 + (nI 1)) fun v183 =>
          ph_ldS Z (x2 + (nI 2)) fun v184 =>
          ph_cl (f_X8_seen v183 v184 h3) fun v185 h186 =>
          ph_ldS Z (x2 + (nI 1)) fun v187 =>
          ph_ldS Z (x2 + (nI 2)) fun v188 =>
          ph_cl (f_X9_seen v187 v188 h186) fun v189 h190 =>
          if v185 = v189 then
            j6 h190
          else
            ph_rz (nI 0) h190
        else
        if (v5 &&& (nI 63)) = (nI 20) then
          ph_cl (f_X8_forget h3) fun v193 h194 =>
          ph_cl (f_X9_forget h194) fun v195 h196 =>
          if v193 = v195 then
            j6 h196
          else
            ph_rz (nI 0) h196
        else
        if (v5 &&& (nI 63)) = (nI 21) then
          ph_cl (f_X8_filed h3) fun v199 h200 =>
          ph_cl (f_X9_filed h200) fun v201 h202 =>
          if v199 = v201 then
            j6 h202
          else
            ph_rz (nI 0) h202
        else
        if (v5 &&& (nI 63)) = (nI 22) then
          ph_ldS Z (x2 + (nI 1)) fun v205 =>
          ph_cl (f_X8_coughed v205 h3) fun v206 h207 =>
          ph_ldS Z (x2 + (nI 1)) fun v208 =>
          ph_cl (f_X9_coughed v208 h207) fun v209 h210 =>
          if v206 = v209 then
            j6 h210
          else
            ph_rz (nI 0) h210
        else
        if (v5 &&& (nI 63)) = (nI 23) then
          ph_ldS Z (x2 + (nI 1)) fun v213 =>
          ph_cl (f_X8_ask v213 h3) fun v214 h215 =>
          ph_ldS Z (x2 + (nI 1)) fun v216 =>
          ph_cl (f_X9_ask v216 h215) fun v217 h218 =>
          if v214 = v217 then
            j6 h218
          else
            ph_rz (nI 0) h218
        else
        if (v5 &&& (nI 63)) = (nI 24) then
          ph_ldS Z (x2 + (nI 1)) fun v221 =>
          ph_ldS Z (x2 + (nI 2)) fun v222 =>
          ph_ldS Z (x2 + (nI 3)) fun v223 =>
          ph_ldS Z (x2 + (nI 4)) fun v224 =>
          ph_ldS Z (x2 + (nI 5)) fun v225 =>
          ph_cl (f_X8_slips v221 v222 v223 v224 v225 h3) fun v226 h227 =>
          ph_ldS Z (x2 + (nI 1)) fun v228 =>
          ph_ldS Z (x2 + (nI 2)) fun v229 =>
          ph_ldS Z (x2 + (nI 3)) fun v230 =>
          ph_ldS Z (x2 + (nI 4)) fun v231 =>
          ph_ldS Z (x2 + (nI 5)) fun v232 =>
          ph_cl (f_X9_slips v228 v229 v230 v231 v232 h227) fun v233 h234 =>
          if (lg_cmp v226 v233) = nI 0 then
            j6 h234
          else
            ph_rz (nI 0) h234
        else
        if (v5 &&& (nI 63)) = (nI 25) then
          ph_ldS Z (x2 + (nI 1)) fun v237 =>
          ph_ldS Z (x2 + (nI 2)) fun v238 =>
          ph_ldS Z (x2 + (nI 3)) fun v239 =>
          ph_cl (f_X8_evening v237 v238 v239 h3) fun v240 h241 =>
          ph_ldS Z (x2 + (nI 1)) fun v242 =>
          ph_ldS Z (x2 + (nI 2)) fun v243 =>
          ph_ldS Z (x2 + (nI 3)) fun v244 =>
          ph_cl (f_X9_evening v242 v243 v244 h241) fun v245 h246 =>
          if v240 = v245 then
            j6 h246
          else
            ph_rz (nI 0) h246
        else
        if (v5 &&& (nI 63)) = (nI 26) then
          ph_ldS Z (x2 + (nI 1)) fun v249 =>
          ph_ldS Z (x2 + (nI 2)) fun v250 =>
          ph_ldS Z (x2 + (nI 3)) fun v251 =>
          ph_cl (f_X8_sheet v249 v250 v251 h3) fun v252 h253 =>
          ph_ldS Z (x2 + (nI 1)) fun v254 =>
          ph_ldS Z (x2 + (nI 2)) fun v255 =>
          ph_ldS Z (x2 + (nI 3)) fun v256 =>
          ph_cl (f_X9_sheet v254 v255 v256 h253) fun v257 h258 =>
          if v252 = v257 then
            j6 h258
          else
            ph_rz (nI 0) h258
        else
        if (v5 &&& (nI 63)) = (nI 27) then
          ph_ldS Z (x2 + (nI 1)) fun v261 =>
          ph_cl (f_X8_lose v261 h3) fun v262 h263 =>
          ph_ldS Z (x2 + (nI 1)) fun v264 =>
          ph_cl (f_X9_lose v264 h263) fun v265 h266 =>
          if v262 = v265 then
            j6 h266
          else
            ph_rz (nI 0) h266
        else
        if (v5 &&& (nI 63)) = (nI 28) then
          ph_ldS Z (x2 + (nI 1)) fun v269 =>
          ph_ldS Z (x2 + (nI 2)) fun v270 =>
          ph_ldS Z (x2 + (nI 3)) fun v271 =>
          ph_ldS Z (x2 + (nI 4)) fun v272 =>
          ph_cl (f_X8_lay v269 v270 v271 v272 h3) fun v273 h274 =>
          ph_ldS Z (x2 + (nI 1)) fun v275 =>
          ph_ldS Z (x2 + (nI 2)) fun v276 =>
          ph_ldS Z (x2 + (nI 3)) fun v277 =>
          ph_ldS Z (x2 + (nI 4)) fun v278 =>
          ph_cl (f_X9_lay v275 v276 v277 v278 h274) fun v279 h280 =>
          if v273 = v279 then
            j6 h280
          else
            ph_rz (nI 0) h280
        else
        if (v5 &&& (nI 63)) = (nI 29) then
          ph_ldS Z (x2 + (nI 1)) fun v283 =>
          ph_ldS Z (x2 + (nI 2)) fun v284 =>
          ph_ldS Z (x2 + (nI 3)) fun v285 =>
          ph_cl (f_X8_get v283 v284 v285 h3) fun v286 h287 =>
          ph_ldS Z (x2 + (nI 1)) fun v288 =>
          ph_ldS Z (x2 + (nI 2)) fun v289 =>
          ph_ldS Z (x2 + (nI 3)) fun v290 =>
          ph_cl (f_X9_get v288 v289 v290 h287) fun v291 h292 =>
          if v286 = v291 then
            j6 h292
          else
            ph_rz (nI 0) h292
        else
        if (v5 &&& (nI 63)) = (nI 30) then
          ph_ldS Z (x2 + (nI 1)) fun v295 =>
          ph_ldS Z (x2 + (nI 2)) fun v296 =>
          ph_ldS Z (x2 + (nI 3)) fun v297 =>
          ph_ldS Z (x2 + (nI 4)) fun v298 =>
          ph_ldS Z (x2 + (nI 5)) fun v299 =>
          ph_cl (f_X8_copy v295 v296 v297 v298 v299 h3) fun v300 h301 =>
          ph_ldS Z (x2 + (nI 1)) fun v302 =>
          ph_ldS Z (x2 + (nI 2)) fun v303 =>
          ph_ldS Z (x2 + (nI 3)) fun v304 =>
          ph_ldS Z (x2 + (nI 4)) fun v305 =>
          ph_ldS Z (x2 + (nI 5)) fun v306 =>
          ph_cl (f_X9_copy v302 v303 v304 v305 v306 h301) fun v307 h308 =>
          if v300 = v307 then
            j6 h308
          else
            ph_rz (nI 0) h308
        else
        if (v5 &&& (nI 63)) = (nI 31) then
          ph_ldS Z (x2 + (nI 1)) fun v311 =>
          ph_ldS Z (x2 + (nI 2)) fun v312 =>
          ph_cl (f_X8_write v311 v312 h3) fun v313 h314 =>
          ph_ldS Z (x2 + (nI 1)) fun v315 =>
          ph_ldS Z (x2 + (nI 2)) fun v316 =>
          ph_cl (f_X9_write v315 v316 h314) fun v317 h318 =>
          if v313 = v317 then
            j6 h318
          else
            ph_rz (nI 0) h318
        else
        if (v5 &&& (nI 63)) = (nI 32) then
          ph_ldS Z (x2 + (nI 1)) fun v321 =>
          ph_cl (f_X8_count v321 h3) fun v322 h323 =>
          ph_ldS Z (x2 + (nI 1)) fun v324 =>
          ph_cl (f_X9_count v324 h323) fun v325 h326 =>
          if v322 = v325 then
            j6 h326
          else
            ph_rz (nI 0) h326
        else
        if (v5 &&& (nI 63)) = (nI 33) then
          ph_cl (f_X8_digest h3) fun v329 h330 =>
          ph_cl (f_X9_digest h330) fun v331 h332 =>
          if (lg_cmp v329 v331) = nI 0 then
            j6 h332
          else
            ph_rz (nI 0) h332
        else
        j6 h3)) ph_fu ((nI 0), h)
set_option maxRecDepth 100000 in
theorem g_law (Z : ph_L) (d : Nat) (hdd : 11 ≤ d) (h : ph_Hp) : ph_G Z RL cL_law 4 (some .boolean) d ph_vi 16 [some (.ref (ph_b Z)), some (.ref (ph_a Z 0)), some (.ref (ph_a Z 51)), none] [] h (f_law Z h) := by
  unfold f_law
  refine ph_iconst (v := (nI 0)) (pc := 16) dL_law_16 ph_ic_0 ?_
  refine ph_istore_n (i := 3) (ls1 := [some (.ref (ph_b Z)), some (.ref (ph_a Z 0)), some (.ref (ph_a Z 51)), some (.int (nI 0))]) (pc := 17) dL_law_17 rfl (by decide) rfl ?_
  refine ph_loop (α := Int32 × ph_Hp) 18 (fun x => [some (.ref (ph_b Z)), some (.ref (ph_a Z 0)), some (.ref (ph_a Z 51)), some (.int x.1)]) (fun x => []) (fun x => x.2) (fun j1 hj1 x => ?_) ph_fu ((nI 0), h)
  obtain ⟨x2, h3⟩ := x
  dsimp only
  refine ph_iload_n (i := 3) (pc := 18) dL_law_18 rfl rfl ?_
  refine ph_aload_n (i := 0) (pc := 19) dL_law_19 rfl rfl ?_
  refine ph_slen (pc := 20) dL_law_20 rfl ?_
  refine ph_bipush (v := (nI 6)) (pc := 21) dL_law_21 ph_bp_6 ?_
  refine ph_isub (pc := 23) dL_law_23 ?_
  refine ph_icmp_gt (tgt := 1244) (pc := 24) dL_law_24 (by decide) (fun c4 => ?_) (fun c4 => ?_)
  · refine ph_iconst (v := (nI 1)) (pc := 1244) dL_law_1244 ph_ic_1 ?_
    exact ph_zret (pc := 1245) dL_law_1245 rfl
  · refine ph_aload_n (i := 0) (pc := 27) dL_law_27 rfl rfl ?_
    refine ph_iload_n (i := 3) (pc := 28) dL_law_28 rfl rfl ?_
    refine ph_sald (pc := 29) dL_law_29 rfl (fun v5 => ?_)
    refine ph_bipush (v := (nI 63)) (pc := 30) dL_law_30 ph_bp_63 ?_
    refine ph_iand (pc := 32) dL_law_32 ?_
    refine ph_join (α := ph_Hp) 1238 (fun x => [some (.ref (ph_b Z)), some (.ref (ph_a Z 0)), some (.ref (ph_a Z 51)), some (.int x2)]) (fun x => []) (fun x => x) (fun x => ?_) (fun j6 hj6 => ?_)
    · revert x; intro h7
      refine ph_iinc (i := 3) (v := (nI 6)) (ls1 := [some (.ref (ph_b Z)), some (.ref (ph_a Z 0)), some (.ref (ph_a Z 51)), some (.int (x2 + (nI 6)))]) (pc := 1238) dL_law_1238 rfl ph_ic_6 (by decide) rfl ?_
      refine ph_goto (tgt := 18) (pc := 1241) dL_law_1241 (by decide) ?_
      exact hj1 (x2 + (nI 6), h7)
    · refine ph_ite (fun c8 => ?_) (fun c8 => ?_)
      · refine ph_tin (tgt := 184) (v := (nI 0)) (pc := 33) dL_law_33 c8 (by decide) (by decide) rfl (by decide) ?_
        refine ph_aload_n (i := 1) (pc := 184) dL_law_184 rfl rfl ?_
        refine ph_aload_n (i := 0) (pc := 185) dL_law_185 rfl rfl ?_
        refine ph_iload_n (i := 3) (pc := 186) dL_law_186 rfl rfl ?_
        refine ph_iconst (v := (nI 1)) (pc := 187) dL_law_187 ph_ic_1 ?_
        refine ph_iadd (pc := 188) dL_law_188 ?_
        refine ph_sald (pc := 189) dL_law_189 rfl (fun v9 => ?_)
        refine ph_aload_n (i := 0) (pc := 190) dL_law_190 rfl rfl ?_
        refine ph_iload_n (i := 3) (pc := 191) dL_law_191 rfl rfl ?_
        refine ph_iconst (v := (nI 2)) (pc := 192) dL_law_192 ph_ic_2 ?_
        refine ph_iadd (pc := 193) dL_law_193 ?_
        refine ph_sald (pc := 194) dL_law_194 rfl (fun v10 => ?_)
        refine ph_callVi (pc := 195) dL_law_195 ph_mf_yX8_type ph_ml_RL_13 ph_mi_yX8_type ph_mv_yX8_type rfl rfl (c_X8_type Z (d - 1) (by omega) v9 v10 h3) (by omega) rfl rfl (Nat.le_of_ble_eq_true rfl) (fun v11 h12 => ?_)
        refine ph_aload_n (i := 2) (pc := 198) dL_law_198 rfl rfl ?_
        refine ph_aload_n (i := 0) (pc := 199) dL_law_199 rfl rfl ?_
        refine ph_iload_n (i := 3) (pc := 200) dL_law_200 rfl rfl ?_
        refine ph_iconst (v := (nI 1)) (pc := 201) dL_law_201 ph_ic_1 ?_
        refine ph_iadd (pc := 202) dL_law_202 ?_
        refine ph_sald (pc := 203) dL_law_203 rfl (fun v13 => ?_)
        refine ph_aload_n (i := 0) (pc := 204) dL_law_204 rfl rfl ?_
        refine ph_iload_n (i := 3) (pc := 205) dL_law_205 rfl rfl ?_
        refine ph_iconst (v := (nI 2)) (pc := 206) dL_law_206 ph_ic_2 ?_
        refine ph_iadd (pc := 207) dL_law_207 ?_
        refine ph_sald (pc := 208) dL_law_208 rfl (fun v14 => ?_)
        refine ph_callVi (pc := 209) dL_law_209 ph_mf_yX9_type ph_ml_RL_17 ph_mi_yX9_type ph_mv_yX9_type rfl rfl (c_X9_type Z (d - 1) (by omega) v13 v14 h12) (by omega) rfl rfl (Nat.le_of_ble_eq_true rfl) (fun v15 h16 => ?_)
        refine ph_icmp_eq (tgt := 1238) (pc := 212) dL_law_212 (by decide) (fun c17 => ?_) (fun c17 => ?_)
        · exact hj6 h16
        · refine ph_iconst (v := (nI 0)) (pc := 215) dL_law_215 ph_ic_0 ?_
          exact ph_zret (pc := 216) dL_law_216 rfl
      refine ph_ite (fun c18 => ?_) (fun c18 => ?_)
      · refine ph_tin (tgt := 217) (v := (nI 1)) (pc := 33) dL_law_33 c18 (by decide) (by decide) rfl (by decide) ?_
        refine ph_aload_n (i := 1) (pc := 217) dL_law_217 rfl rfl ?_
        refine ph_aload_n (i := 0) (pc := 218) dL_law_218 rfl rfl ?_
        refine ph_iload_n (i := 3) (pc := 219) dL_law_219 rfl rfl ?_
        refine ph_iconst (v := (nI 1)) (pc := 220) dL_law_220 ph_ic_1 ?_
        refine ph_iadd (pc := 221) dL_law_221 ?_
        refine ph_sald (pc := 222) dL_law_222 rfl (fun v19 => ?_)
        refine ph_callVi (pc := 223) dL_law_223 ph_mf_yX8_wipe ph_ml_RL_18 ph_mi_yX8_wipe ph_mv_yX8_wipe rfl rfl (c_X8_wipe Z (d - 1) (by omega) v19 h3) (by omega) rfl rfl (Nat.le_of_ble_eq_true rfl) (fun v20 h21 => ?_)
        refine ph_aload_n (i := 2) (pc := 226) dL_law_226 rfl rfl ?_
        refine ph_aload_n (i := 0) (pc := 227) dL_law_227 rfl rfl ?_
        refine ph_iload_n (i := 3) (pc := 228) dL_law_228 rfl rfl ?_
        refine ph_iconst (v := (nI 1)) (pc := 229) dL_law_229 ph_ic_1 ?_
        refine ph_iadd (pc := 230) dL_law_230 ?_
        refine ph_sald (pc := 231) dL_law_231 rfl (fun v22 => ?_)
        refine ph_callVi (pc := 232) dL_law_232 ph_mf_yX9_wipe ph_ml_RL_22 ph_mi_yX9_wipe ph_mv_yX9_wipe rfl rfl (c_X9_wipe Z (d - 1) (by omega) v22 h21) (by omega) rfl rfl (Nat.le_of_ble_eq_true rfl) (fun v23 h24 => ?_)
        refine ph_icmp_eq (tgt := 1238) (pc := 235) dL_law_235 (by decide) (fun c25 => ?_) (fun c25 => ?_)
        · exact hj6 h24
        · refine ph_iconst (v := (nI 0)) (pc := 238) dL_law_238 ph_ic_0 ?_
          exact ph_zret (pc := 239) dL_law_239 rfl
      refine ph_ite (fun c26 => ?_) (fun c26 => ?_)
      · refine ph_tin (tgt := 240) (v := (nI 2)) (pc := 33) dL_law_33 c26 (by decide) (by decide) rfl (by decide) ?_
        refine ph_aload_n (i := 1) (pc := 240) dL_law_240 rfl rfl ?_
        refine ph_aload_n (i := 0) (pc := 241) dL_law_241 rfl rfl ?_
        refine ph_iload_n (i := 3) (pc := 242) dL_law_242 rfl rfl ?_
        refine ph_iconst (v := (nI 1)) (pc := 243) dL_law_243 ph_ic_1 ?_
        refine ph_iadd (pc := 244) dL_law_244 ?_
        refine ph_sald (pc := 245) dL_law_245 rfl (fun v27 => ?_)
        refine ph_callVi (pc := 246) dL_law_246 ph_mf_yX8_undo ph_ml_RL_23 ph_mi_yX8_undo ph_mv_yX8_undo rfl rfl (c_X8_undo Z (d - 1) (by omega) v27 h3) (by omega) rfl rfl (Nat.le_of_ble_eq_true rfl) (fun v28 h29 => ?_)
        refine ph_aload_n (i := 2) (pc := 249) dL_law_249 rfl rfl ?_
        refine ph_aload_n (i := 0) (pc := 250) dL_law_250 rfl rfl ?_
        refine ph_iload_n (i := 3) (pc := 251) dL_law_251 rfl rfl ?_
        refine ph_iconst (v := (nI 1)) (pc := 252) dL_law_252 ph_ic_1 ?_
        refine ph_iadd (pc := 253) dL_law_253 ?_
        refine ph_sald (pc := 254) dL_law_254 rfl (fun v30 => ?_)
        refine ph_callVi (pc := 255) dL_law_255 ph_mf_yX9_undo ph_ml_RL_26 ph_mi_yX9_undo ph_mv_yX9_undo rfl rfl (c_X9_undo Z (d - 1) (by omega) v30 h29) (by omega) rfl rfl (Nat.le_of_ble_eq_true rfl) (fun v31 h32 => ?_)
        refine ph_icmp_eq (tgt := 1238) (pc := 258) dL_law_258 (by decide) (fun c33 => ?_) (fun c33 => ?_)
        · exact hj6 h32
        · refine ph_iconst (v := (nI 0)) (pc := 261) dL_law_261 ph_ic_0 ?_
          exact ph_zret (pc := 262) dL_law_262 rfl
      refine ph_ite (fun c34 => ?_) (fun c34 => ?_)
      · refine ph_tin (tgt := 263) (v := (nI 3)) (pc := 33) dL_law_33 c34 (by decide) (by decide) rfl (by decide) ?_
        refine ph_aload_n (i := 1) (pc := 263) dL_law_263 rfl rfl ?_
        refine ph_aload_n (i := 0) (pc := 264) dL_law_264 rfl rfl ?_
        refine ph_iload_n (i := 3) (pc := 265) dL_law_265 rfl rfl ?_
        refine ph_iconst (v := (nI 1)) (pc := 266) dL_law_266 ph_ic_1 ?_
        refine ph_iadd (pc := 267) dL_law_267 ?_
        refine ph_sald (pc := 268) dL_law_268 rfl (fun v35 => ?_)
        refine ph_callVi (pc := 269) dL_law_269 ph_mf_yX8_fault ph_ml_RL_27 ph_mi_yX8_fault ph_mv_yX8_fault rfl rfl (c_X8_fault Z (d - 1) (by omega) v35 h3) (by omega) rfl rfl (Nat.le_of_ble_eq_true rfl) (fun v36 h37 => ?_)
        refine ph_aload_n (i := 2) (pc := 272) dL_law_272 rfl rfl ?_
        refine ph_aload_n (i := 0) (pc := 273) dL_law_273 rfl rfl ?_
        refine ph_iload_n (i := 3) (pc := 274) dL_law_274 rfl rfl ?_
        refine ph_iconst (v := (nI 1)) (pc := 275) dL_law_275 ph_ic_1 ?_
        refine ph_iadd (pc := 276) dL_law_276 ?_
        refine ph_sald (pc := 277) dL_law_277 rfl (fun v38 => ?_)
        refine ph_callVi (pc := 278) dL_law_278 ph_mf_yX9_fault ph_ml_RL_30 ph_mi_yX9_fault ph_mv_yX9_fault rfl rfl (c_X9_fault Z (d - 1) (by omega) v38 h37) (by omega) rfl rfl (Nat.le_of_ble_eq_true rfl) (fun v39 h40 => ?_)
        refine ph_icmp_eq (tgt := 1238) (pc := 281) dL_law_281 (by decide) (fun c41 => ?_) (fun c41 => ?_)
        · exact hj6 h40
        · refine ph_iconst (v := (nI 0)) (pc := 284) dL_law_284 ph_ic_0 ?_
          exact ph_zret (pc := 285) dL_law_285 rfl
      refine ph_ite (fun c42 => ?_) (fun c42 => ?_)
      · refine ph_tin (tgt := 286) (v := (nI 4)) (pc := 33) dL_law_33 c42 (by decide) (by decide) rfl (by decide) ?_
        refine ph_aload_n (i := 1) (pc := 286) dL_law_286 rfl rfl ?_
        refine ph_aload_n (i := 0) (pc := 287) dL_law_287 rfl rfl ?_
        refine ph_iload_n (i := 3) (pc := 288) dL_law_288 rfl rfl ?_
        refine ph_iconst (v := (nI 1)) (pc := 289) dL_law_289 ph_ic_1 ?_
        refine ph_iadd (pc := 290) dL_law_290 ?_
        refine ph_sald (pc := 291) dL_law_291 rfl (fun v43 => ?_)
        refine ph_callVi (pc := 292) dL_law_292 ph_mf_yX8_line ph_ml_RL_31 ph_mi_yX8_line ph_mv_yX8_line rfl rfl (c_X8_line Z (d - 1) (by omega) v43 h3) (by omega) rfl rfl (Nat.le_of_ble_eq_true rfl) (fun v44 h45 => ?_)
        refine ph_aload_n (i := 2) (pc := 295) dL_law_295 rfl rfl ?_
        refine ph_aload_n (i := 0) (pc := 296) dL_law_296 rfl rfl ?_
        refine ph_iload_n (i := 3) (pc := 297) dL_law_297 rfl rfl ?_
        refine ph_iconst (v := (nI 1)) (pc := 298) dL_law_298 ph_ic_1 ?_
        refine ph_iadd (pc := 299) dL_law_299 ?_
        refine ph_sald (pc := 300) dL_law_300 rfl (fun v46 => ?_)
        refine ph_callVi (pc := 301) dL_law_301 ph_mf_yX9_line ph_ml_RL_34 ph_mi_yX9_line ph_mv_yX9_line rfl rfl (c_X9_line Z (d - 1) (by omega) v46 h45) (by omega) rfl rfl (Nat.le_of_ble_eq_true rfl) (fun v47 h48 => ?_)
        refine ph_icmp_eq (tgt := 1238) (pc := 304) dL_law_304 (by decide) (fun c49 => ?_) (fun c49 => ?_)
        · exact hj6 h48
        · refine ph_iconst (v := (nI 0)) (pc := 307) dL_law_307 ph_ic_0 ?_
          exact ph_zret (pc := 308) dL_law_308 rfl
      refine ph_ite (fun c50 => ?_) (fun c50 => ?_)
      · refine ph_tin (tgt := 309) (v := (nI 5)) (pc := 33) dL_law_33 c50 (by decide) (by decide) rfl (by decide) ?_
        refine ph_aload_n (i := 1) (pc := 309) dL_law_309 rfl rfl ?_
        refine ph_aload_n (i := 0) (pc := 310) dL_law_310 rfl rfl ?_
        refine ph_iload_n (i := 3) (pc := 311) dL_law_311 rfl rfl ?_
        refine ph_iconst (v := (nI 1)) (pc := 312) dL_law_312 ph_ic_1 ?_
        refine ph_iadd (pc := 313) dL_law_313 ?_
        refine ph_sald (pc := 314) dL_law_314 rfl (fun v51 => ?_)
        refine ph_aload_n (i := 0) (pc := 315) dL_law_315 rfl rfl ?_
        refine ph_iload_n (i := 3) (pc := 316) dL_law_316 rfl rfl ?_
        refine ph_iconst (v := (nI 2)) (pc := 317) dL_law_317 ph_ic_2 ?_
        refine ph_iadd (pc := 318) dL_law_318 ?_
        refine ph_sald (pc := 319) dL_law_319 rfl (fun v52 => ?_)
        refine ph_callVi (pc := 320) dL_law_320 ph_mf_yX8_hole ph_ml_RL_35 ph_mi_yX8_hole ph_mv_yX8_hole rfl rfl (c_X8_hole Z (d - 1) (by omega) v51 v52 h3) (by omega) rfl rfl (Nat.le_of_ble_eq_true rfl) (fun v53 h54 => ?_)
        refine ph_aload_n (i := 2) (pc := 323) dL_law_323 rfl rfl ?_
        refine ph_aload_n (i := 0) (pc := 324) dL_law_324 rfl rfl ?_
        refine ph_iload_n (i := 3) (pc := 325) dL_law_325 rfl rfl ?_
        refine ph_iconst (v := (nI 1)) (pc := 326) dL_law_326 ph_ic_1 ?_
        refine ph_iadd (pc := 327) dL_law_327 ?_
        refine ph_sald (pc := 328) dL_law_328 rfl (fun v55 => ?_)
        refine ph_aload_n (i := 0) (pc := 329) dL_law_329 rfl rfl ?_
        refine ph_iload_n (i := 3) (pc := 330) dL_law_330 rfl rfl ?_
        refine ph_iconst (v := (nI 2)) (pc := 331) dL_law_331 ph_ic_2 ?_
        refine ph_iadd (pc := 332) dL_law_332 ?_
        refine ph_sald (pc := 333) dL_law_333 rfl (fun v56 => ?_)
        refine ph_callVi (pc := 334) dL_law_334 ph_mf_yX9_hole ph_ml_RL_38 ph_mi_yX9_hole ph_mv_yX9_hole rfl rfl (c_X9_hole Z (d - 1) (by omega) v55 v56 h54) (by omega) rfl rfl (Nat.le_of_ble_eq_true rfl) (fun v57 h58 => ?_)
        refine ph_icmp_eq (tgt := 1238) (pc := 337) dL_law_337 (by decide) (fun c59 => ?_) (fun c59 => ?_)
        · exact hj6 h58
        · refine ph_iconst (v := (nI 0)) (pc := 340) dL_law_340 ph_ic_0 ?_
          exact ph_zret (pc := 341) dL_law_341 rfl
      refine ph_ite (fun c60 => ?_) (fun c60 => ?_)
      · refine ph_tin (tgt := 342) (v := (nI 6)) (pc := 33) dL_law_33 c60 (by decide) (by decide) rfl (by decide) ?_
        refine ph_aload_n (i := 1) (pc := 342) dL_law_342 rfl rfl ?_
        refine ph_aload_n (i := 0) (pc := 343) dL_law_343 rfl rfl ?_
        refine ph_iload_n (i := 3) (pc := 344) dL_law_344 rfl rfl ?_
        refine ph_iconst (v := (nI 1)) (pc := 345) dL_law_345 ph_ic_1 ?_
        refine ph_iadd (pc := 346) dL_law_346 ?_
        refine ph_sald (pc := 347) dL_law_347 rfl (fun v61 => ?_)
        refine ph_aload_n (i := 0) (pc := 348) dL_law_348 rfl rfl ?_
        refine ph_iload_n (i := 3) (pc := 349) dL_law_349 rfl rfl ?_
        refine ph_iconst (v := (nI 2)) (pc := 350) dL_law_350 ph_ic_2 ?_
        refine ph_iadd (pc := 351) dL_law_351 ?_
        refine ph_sald (pc := 352) dL_law_352 rfl (fun v62 => ?_)
        refine ph_callVi (pc := 353) dL_law_353 ph_mf_yX8_printed ph_ml_RL_39 ph_mi_yX8_printed ph_mv_yX8_printed rfl rfl (c_X8_printed Z (d - 1) (by omega) v61 v62 h3) (by omega) rfl rfl (Nat.le_of_ble_eq_true rfl) (fun v63 h64 => ?_)
        refine ph_aload_n (i := 2) (pc := 356) dL_law_356 rfl rfl ?_
        refine ph_aload_n (i := 0) (pc := 357) dL_law_357 rfl rfl ?_
        refine ph_iload_n (i := 3) (pc := 358) dL_law_358 rfl rfl ?_
        refine ph_iconst (v := (nI 1)) (pc := 359) dL_law_359 ph_ic_1 ?_
        refine ph_iadd (pc := 360) dL_law_360 ?_
        refine ph_sald (pc := 361) dL_law_361 rfl (fun v65 => ?_)
        refine ph_aload_n (i := 0) (pc := 362) dL_law_362 rfl rfl ?_
        refine ph_iload_n (i := 3) (pc := 363) dL_law_363 rfl rfl ?_
        refine ph_iconst (v := (nI 2)) (pc := 364) dL_law_364 ph_ic_2 ?_
        refine ph_iadd (pc := 365) dL_law_365 ?_
        refine ph_sald (pc := 366) dL_law_366 rfl (fun v66 => ?_)
        refine ph_callVi (pc := 367) dL_law_367 ph_mf_yX9_printed ph_ml_RL_42 ph_mi_yX9_printed ph_mv_yX9_printed rfl rfl (c_X9_printed Z (d - 1) (by omega) v65 v66 h64) (by omega) rfl rfl (Nat.le_of_ble_eq_true rfl) (fun v67 h68 => ?_)
        refine ph_icmp_eq (tgt := 1238) (pc := 370) dL_law_370 (by decide) (fun c69 => ?_) (fun c69 => ?_)
        · exact hj6 h68
        · refine ph_iconst (v := (nI 0)) (pc := 373) dL_law_373 ph_ic_0 ?_
          exact ph_zret (pc := 374) dL_law_374 rfl
      refine ph_ite (fun c70 => ?_) (fun c70 => ?_)
      · refine ph_tin (tgt := 375) (v := (nI 7)) (pc := 33) dL_law_33 c70 (by decide) (by decide) rfl (by decide) ?_
        refine ph_aload_n (i := 1) (pc := 375) dL_law_375 rfl rfl ?_
        refine ph_aload_n (i := 0) (pc := 376) dL_law_376 rfl rfl ?_
        refine ph_iload_n (i := 3) (pc := 377) dL_law_377 rfl rfl ?_
        refine ph_iconst (v := (nI 1)) (pc := 378) dL_law_378 ph_ic_1 ?_
        refine ph_iadd (pc := 379) dL_law_379 ?_
        refine ph_sald (pc := 380) dL_law_380 rfl (fun v71 => ?_)
        refine ph_aload_n (i := 0) (pc := 381) dL_law_381 rfl rfl ?_
        refine ph_iload_n (i := 3) (pc := 382) dL_law_382 rfl rfl ?_
        refine ph_iconst (v := (nI 2)) (pc := 383) dL_law_383 ph_ic_2 ?_
        refine ph_iadd (pc := 384) dL_law_384 ?_
        refine ph_sald (pc := 385) dL_law_385 rfl (fun v72 => ?_)
        refine ph_callVi (pc := 386) dL_law_386 ph_mf_yX8_move ph_ml_RL_43 ph_mi_yX8_move ph_mv_yX8_move rfl rfl (c_X8_move Z (d - 1) (by omega) v71 v72 h3) (by omega) rfl rfl (Nat.le_of_ble_eq_true rfl) (fun v73 h74 => ?_)
        refine ph_aload_n (i := 2) (pc := 389) dL_law_389 rfl rfl ?_
        refine ph_aload_n (i := 0) (pc := 390) dL_law_390 rfl rfl ?_
        refine ph_iload_n (i := 3) (pc := 391) dL_law_391 rfl rfl ?_
        refine ph_iconst (v := (nI 1)) (pc := 392) dL_law_392 ph_ic_1 ?_
        refine ph_iadd (pc := 393) dL_law_393 ?_
        refine ph_sald (pc := 394) dL_law_394 rfl (fun v75 => ?_)
        refine ph_aload_n (i := 0) (pc := 395) dL_law_395 rfl rfl ?_
        refine ph_iload_n (i := 3) (pc := 396) dL_law_396 rfl rfl ?_
        refine ph_iconst (v := (nI 2)) (pc := 397) dL_law_397 ph_ic_2 ?_
        refine ph_iadd (pc := 398) dL_law_398 ?_
        refine ph_sald (pc := 399) dL_law_399 rfl (fun v76 => ?_)
        refine ph_callVi (pc := 400) dL_law_400 ph_mf_yX9_move ph_ml_RL_46 ph_mi_yX9_move ph_mv_yX9_move rfl rfl (c_X9_move Z (d - 1) (by omega) v75 v76 h74) (by omega) rfl rfl (Nat.le_of_ble_eq_true rfl) (fun v77 h78 => ?_)
        refine ph_icmp_eq (tgt := 1238) (pc := 403) dL_law_403 (by decide) (fun c79 => ?_) (fun c79 => ?_)
        · exact hj6 h78
        · refine ph_iconst (v := (nI 0)) (pc := 406) dL_law_406 ph_ic_0 ?_
          exact ph_zret (pc := 407) dL_law_407 rfl
      refine ph_ite (fun c80 => ?_) (fun c80 => ?_)
      · refine ph_tin (tgt := 408) (v := (nI 8)) (pc := 33) dL_law_33 c80 (by decide) (by decide) rfl (by decide) ?_
        refine ph_aload_n (i := 1) (pc := 408) dL_law_408 rfl rfl ?_
        refine ph_aload_n (i := 0) (pc := 409) dL_law_409 rfl rfl ?_
        refine ph_iload_n (i := 3) (pc := 410) dL_law_410 rfl rfl ?_
        refine ph_iconst (v := (nI 1)) (pc := 411) dL_law_411 ph_ic_1 ?_
        refine ph_iadd (pc := 412) dL_law_412 ?_
        refine ph_sald (pc := 413) dL_law_413 rfl (fun v81 => ?_)
        refine ph_aload_n (i := 0) (pc := 414) dL_law_414 rfl rfl ?_
        refine ph_iload_n (i := 3) (pc := 415) dL_law_415 rfl rfl ?_
        refine ph_iconst (v := (nI 2)) (pc := 416) dL_law_416 ph_ic_2 ?_
        refine ph_iadd (pc := 417) dL_law_417 ?_
        refine ph_sald (pc := 418) dL_law_418 rfl (fun v82 => ?_)
        refine ph_callVi (pc := 419) dL_law_419 ph_mf_yX8_cough ph_ml_RL_47 ph_mi_yX8_cough ph_mv_yX8_cough rfl rfl (c_X8_cough Z (d - 1) (by omega) v81 v82 h3) (by omega) rfl rfl (Nat.le_of_ble_eq_true rfl) (fun v83 h84 => ?_)
        refine ph_aload_n (i := 2) (pc := 422) dL_law_422 rfl rfl ?_
        refine ph_aload_n (i := 0) (pc := 423) dL_law_423 rfl rfl ?_
        refine ph_iload_n (i := 3) (pc := 424) dL_law_424 rfl rfl ?_
        refine ph_iconst (v := (nI 1)) (pc := 425) dL_law_425 ph_ic_1 ?_
        refine ph_iadd (pc := 426) dL_law_426 ?_
        refine ph_sald (pc := 427) dL_law_427 rfl (fun v85 => ?_)
        refine ph_aload_n (i := 0) (pc := 428) dL_law_428 rfl rfl ?_
        refine ph_iload_n (i := 3) (pc := 429) dL_law_429 rfl rfl ?_
        refine ph_iconst (v := (nI 2)) (pc := 430) dL_law_430 ph_ic_2 ?_
        refine ph_iadd (pc := 431) dL_law_431 ?_
        refine ph_sald (pc := 432) dL_law_432 rfl (fun v86 => ?_)
        refine ph_callVi (pc := 433) dL_law_433 ph_mf_yX9_cough ph_ml_RL_50 ph_mi_yX9_cough ph_mv_yX9_cough rfl rfl (c_X9_cough Z (d - 1) (by omega) v85 v86 h84) (by omega) rfl rfl (Nat.le_of_ble_eq_true rfl) (fun v87 h88 => ?_)
        refine ph_icmp_eq (tgt := 1238) (pc := 436) dL_law_436 (by decide) (fun c89 => ?_) (fun c89 => ?_)
        · exact hj6 h88
        · refine ph_iconst (v := (nI 0)) (pc := 439) dL_law_439 ph_ic_0 ?_
          exact ph_zret (pc := 440) dL_law_440 rfl
      refine ph_ite (fun c90 => ?_) (fun c90 => ?_)
      · refine ph_tin (tgt := 441) (v := (nI 9)) (pc := 33) dL_law_33 c90 (by decide) (by decide) rfl (by decide) ?_
        refine ph_aload_n (i := 1) (pc := 441) dL_law_441 rfl rfl ?_
        refine ph_aload_n (i := 0) (pc := 442) dL_law_442 rfl rfl ?_
        refine ph_iload_n (i := 3) (pc := 443) dL_law_443 rfl rfl ?_
        refine ph_iconst (v := (nI 1)) (pc := 444) dL_law_444 ph_ic_1 ?_
        refine ph_iadd (pc := 445) dL_law_445 ?_
        refine ph_sald (pc := 446) dL_law_446 rfl (fun v91 => ?_)
        refine ph_callVi (pc := 447) dL_law_447 ph_mf_yX8_dark ph_ml_RL_51 ph_mi_yX8_dark ph_mv_yX8_dark rfl rfl (c_X8_dark Z (d - 1) (by omega) v91 h3) (by omega) rfl rfl (Nat.le_of_ble_eq_true rfl) (fun v92 h93 => ?_)
        refine ph_aload_n (i := 2) (pc := 450) dL_law_450 rfl rfl ?_
        refine ph_aload_n (i := 0) (pc := 451) dL_law_451 rfl rfl ?_
        refine ph_iload_n (i := 3) (pc := 452) dL_law_452 rfl rfl ?_
        refine ph_iconst (v := (nI 1)) (pc := 453) dL_law_453 ph_ic_1 ?_
        refine ph_iadd (pc := 454) dL_law_454 ?_
        refine ph_sald (pc := 455) dL_law_455 rfl (fun v94 => ?_)
        refine ph_callVi (pc := 456) dL_law_456 ph_mf_yX9_dark ph_ml_RL_54 ph_mi_yX9_dark ph_mv_yX9_dark rfl rfl (c_X9_dark Z (d - 1) (by omega) v94 h93) (by omega) rfl rfl (Nat.le_of_ble_eq_true rfl) (fun v95 h96 => ?_)
        refine ph_icmp_eq (tgt := 1238) (pc := 459) dL_law_459 (by decide) (fun c97 => ?_) (fun c97 => ?_)
        · exact hj6 h96
        · refine ph_iconst (v := (nI 0)) (pc := 462) dL_law_462 ph_ic_0 ?_
          exact ph_zret (pc := 463) dL_law_463 rfl
      refine ph_ite (fun c98 => ?_) (fun c98 => ?_)
      · refine ph_tin (tgt := 464) (v := (nI 10)) (pc := 33) dL_law_33 c98 (by decide) (by decide) rfl (by decide) ?_
        refine ph_aload_n (i := 1) (pc := 464) dL_law_464 rfl rfl ?_
        refine ph_aload_n (i := 0) (pc := 465) dL_law_465 rfl rfl ?_
        refine ph_iload_n (i := 3) (pc := 466) dL_law_466 rfl rfl ?_
        refine ph_iconst (v := (nI 1)) (pc := 467) dL_law_467 ph_ic_1 ?_
        refine ph_iadd (pc := 468) dL_law_468 ?_
        refine ph_sald (pc := 469) dL_law_469 rfl (fun v99 => ?_)
        refine ph_callVi (pc := 470) dL_law_470 ph_mf_yX8_back ph_ml_RL_55 ph_mi_yX8_back ph_mv_yX8_back rfl rfl (c_X8_back Z (d - 1) (by omega) v99 h3) (by omega) rfl rfl (Nat.le_of_ble_eq_true rfl) (fun v100 h101 => ?_)
        refine ph_aload_n (i := 2) (pc := 473) dL_law_473 rfl rfl ?_
        refine ph_aload_n (i := 0) (pc := 474) dL_law_474 rfl rfl ?_
        refine ph_iload_n (i := 3) (pc := 475) dL_law_475 rfl rfl ?_
        refine ph_iconst (v := (nI 1)) (pc := 476) dL_law_476 ph_ic_1 ?_
        refine ph_iadd (pc := 477) dL_law_477 ?_
        refine ph_sald (pc := 478) dL_law_478 rfl (fun v102 => ?_)
        refine ph_callVi (pc := 479) dL_law_479 ph_mf_yX9_back ph_ml_RL_58 ph_mi_yX9_back ph_mv_yX9_back rfl rfl (c_X9_back Z (d - 1) (by omega) v102 h101) (by omega) rfl rfl (Nat.le_of_ble_eq_true rfl) (fun v103 h104 => ?_)
        refine ph_icmp_eq (tgt := 1238) (pc := 482) dL_law_482 (by decide) (fun c105 => ?_) (fun c105 => ?_)
        · exact hj6 h104
        · refine ph_iconst (v := (nI 0)) (pc := 485) dL_law_485 ph_ic_0 ?_
          exact ph_zret (pc := 486) dL_law_486 rfl
      refine ph_ite (fun c106 => ?_) (fun c106 => ?_)
      · refine ph_tin (tgt := 487) (v := (nI 11)) (pc := 33) dL_law_33 c106 (by decide) (by decide) rfl (by decide) ?_
        refine ph_aload_n (i := 1) (pc := 487) dL_law_487 rfl rfl ?_
        refine ph_aload_n (i := 0) (pc := 488) dL_law_488 rfl rfl ?_
        refine ph_iload_n (i := 3) (pc := 489) dL_law_489 rfl rfl ?_
        refine ph_iconst (v := (nI 1)) (pc := 490) dL_law_490 ph_ic_1 ?_
        refine ph_iadd (pc := 491) dL_law_491 ?_
        refine ph_sald (pc := 492) dL_law_492 rfl (fun v107 => ?_)
        refine ph_callVi (pc := 493) dL_law_493 ph_mf_yX8_read ph_ml_RL_59 ph_mi_yX8_read ph_mv_yX8_read rfl rfl (c_X8_read Z (d - 1) (by omega) v107 h3) (by omega) rfl rfl (Nat.le_of_ble_eq_true rfl) (fun v108 h109 => ?_)
        refine ph_aload_n (i := 2) (pc := 496) dL_law_496 rfl rfl ?_
        refine ph_aload_n (i := 0) (pc := 497) dL_law_497 rfl rfl ?_
        refine ph_iload_n (i := 3) (pc := 498) dL_law_498 rfl rfl ?_
        refine ph_iconst (v := (nI 1)) (pc := 499) dL_law_499 ph_ic_1 ?_
        refine ph_iadd (pc := 500) dL_law_500 ?_
        refine ph_sald (pc := 501) dL_law_501 rfl (fun v110 => ?_)
        refine ph_callVi (pc := 502) dL_law_502 ph_mf_yX9_read ph_ml_RL_62 ph_mi_yX9_read ph_mv_yX9_read rfl rfl (c_X9_read Z (d - 1) (by omega) v110 h109) (by omega) rfl rfl (Nat.le_of_ble_eq_true rfl) (fun v111 h112 => ?_)
        refine ph_icmp_eq (tgt := 1238) (pc := 505) dL_law_505 (by decide) (fun c113 => ?_) (fun c113 => ?_)
        · exact hj6 h112
        · refine ph_iconst (v := (nI 0)) (pc := 508) dL_law_508 ph_ic_0 ?_
          exact ph_zret (pc := 509) dL_law_509 rfl
      refine ph_ite (fun c114 => ?_) (fun c114 => ?_)
      · refine ph_tin (tgt := 510) (v := (nI 12)) (pc := 33) dL_law_33 c114 (by decide) (by decide) rfl (by decide) ?_
        refine ph_aload_n (i := 1) (pc := 510) dL_law_510 rfl rfl ?_
        refine ph_aload_n (i := 0) (pc := 511) dL_law_511 rfl rfl ?_
        refine ph_iload_n (i := 3) (pc := 512) dL_law_512 rfl rfl ?_
        refine ph_iconst (v := (nI 1)) (pc := 513) dL_law_513 ph_ic_1 ?_
        refine ph_iadd (pc := 514) dL_law_514 ?_
        refine ph_sald (pc := 515) dL_law_515 rfl (fun v115 => ?_)
        refine ph_aload_n (i := 0) (pc := 516) dL_law_516 rfl rfl ?_
        refine ph_iload_n (i := 3) (pc := 517) dL_law_517 rfl rfl ?_
        refine ph_iconst (v := (nI 2)) (pc := 518) dL_law_518 ph_ic_2 ?_
        refine ph_iadd (pc := 519) dL_law_519 ?_
        refine ph_sald (pc := 520) dL_law_520 rfl (fun v116 => ?_)
        refine ph_callVi (pc := 521) dL_law_521 ph_mf_yX8_step ph_ml_RL_63 ph_mi_yX8_step ph_mv_yX8_step rfl rfl (c_X8_step Z (d - 1) (by omega) v115 v116 h3) (by omega) rfl rfl (Nat.le_of_ble_eq_true rfl) (fun v117 h118 => ?_)
        refine ph_aload_n (i := 2) (pc := 524) dL_law_524 rfl rfl ?_
        refine ph_aload_n (i := 0) (pc := 525) dL_law_525 rfl rfl ?_
        refine ph_iload_n (i := 3) (pc := 526) dL_law_526 rfl rfl ?_
        refine ph_iconst (v := (nI 1)) (pc := 527) dL_law_527 ph_ic_1 ?_
        refine ph_iadd (pc := 528) dL_law_528 ?_
        refine ph_sald (pc := 529) dL_law_529 rfl (fun v119 => ?_)
        refine ph_aload_n (i := 0) (pc := 530) dL_law_530 rfl rfl ?_
        refine ph_iload_n (i := 3) (pc := 531) dL_law_531 rfl rfl ?_
        refine ph_iconst (v := (nI 2)) (pc := 532) dL_law_532 ph_ic_2 ?_
        refine ph_iadd (pc := 533) dL_law_533 ?_
        refine ph_sald (pc := 534) dL_law_534 rfl (fun v120 => ?_)
        refine ph_callVi (pc := 535) dL_law_535 ph_mf_yX9_step ph_ml_RL_66 ph_mi_yX9_step ph_mv_yX9_step rfl rfl (c_X9_step Z (d - 1) (by omega) v119 v120 h118) (by omega) rfl rfl (Nat.le_of_ble_eq_true rfl) (fun v121 h122 => ?_)
        refine ph_icmp_eq (tgt := 1238) (pc := 538) dL_law_538 (by decide) (fun c123 => ?_) (fun c123 => ?_)
        · exact hj6 h122
        · refine ph_iconst (v := (nI 0)) (pc := 541) dL_law_541 ph_ic_0 ?_
          exact ph_zret (pc := 542) dL_law_542 rfl
      refine ph_ite (fun c124 => ?_) (fun c124 => ?_)
      · refine ph_tin (tgt := 543) (v := (nI 13)) (pc := 33) dL_law_33 c124 (by decide) (by decide) rfl (by decide) ?_
        refine ph_aload_n (i := 1) (pc := 543) dL_law_543 rfl rfl ?_
        refine ph_aload_n (i := 0) (pc := 544) dL_law_544 rfl rfl ?_
        refine ph_iload_n (i := 3) (pc := 545) dL_law_545 rfl rfl ?_
        refine ph_iconst (v := (nI 1)) (pc := 546) dL_law_546 ph_ic_1 ?_
        refine ph_iadd (pc := 547) dL_law_547 ?_
        refine ph_sald (pc := 548) dL_law_548 rfl (fun v125 => ?_)
        refine ph_aload_n (i := 0) (pc := 549) dL_law_549 rfl rfl ?_
        refine ph_iload_n (i := 3) (pc := 550) dL_law_550 rfl rfl ?_
        refine ph_iconst (v := (nI 2)) (pc := 551) dL_law_551 ph_ic_2 ?_
        refine ph_iadd (pc := 552) dL_law_552 ?_
        refine ph_sald (pc := 553) dL_law_553 rfl (fun v126 => ?_)
        refine ph_callVi (pc := 554) dL_law_554 ph_mf_yX8_whispers ph_ml_RL_67 ph_mi_yX8_whispers ph_mv_yX8_whispers rfl rfl (c_X8_whispers Z (d - 1) (by omega) v125 v126 h3) (by omega) rfl rfl (Nat.le_of_ble_eq_true rfl) (fun v127 h128 => ?_)
        refine ph_aload_n (i := 2) (pc := 557) dL_law_557 rfl rfl ?_
        refine ph_aload_n (i := 0) (pc := 558) dL_law_558 rfl rfl ?_
        refine ph_iload_n (i := 3) (pc := 559) dL_law_559 rfl rfl ?_
        refine ph_iconst (v := (nI 1)) (pc := 560) dL_law_560 ph_ic_1 ?_
        refine ph_iadd (pc := 561) dL_law_561 ?_
        refine ph_sald (pc := 562) dL_law_562 rfl (fun v129 => ?_)
        refine ph_aload_n (i := 0) (pc := 563) dL_law_563 rfl rfl ?_
        refine ph_iload_n (i := 3) (pc := 564) dL_law_564 rfl rfl ?_
        refine ph_iconst (v := (nI 2)) (pc := 565) dL_law_565 ph_ic_2 ?_
        refine ph_iadd (pc := 566) dL_law_566 ?_
        refine ph_sald (pc := 567) dL_law_567 rfl (fun v130 => ?_)
        refine ph_callVi (pc := 568) dL_law_568 ph_mf_yX9_whispers ph_ml_RL_70 ph_mi_yX9_whispers ph_mv_yX9_whispers rfl rfl (c_X9_whispers Z (d - 1) (by omega) v129 v130 h128) (by omega) rfl rfl (Nat.le_of_ble_eq_true rfl) (fun v131 h132 => ?_)
        refine ph_icmp_eq (tgt := 1238) (pc := 571) dL_law_571 (by decide) (fun c133 => ?_) (fun c133 => ?_)
        · exact hj6 h132
        · refine ph_iconst (v := (nI 0)) (pc := 574) dL_law_574 ph_ic_0 ?_
          exact ph_zret (pc := 575) dL_law_575 rfl
      refine ph_ite (fun c134 => ?_) (fun c134 => ?_)
      · refine ph_tin (tgt := 576) (v := (nI 14)) (pc := 33) dL_law_33 c134 (by decide) (by decide) rfl (by decide) ?_
        refine ph_aload_n (i := 1) (pc := 576) dL_law_576 rfl rfl ?_
        refine ph_aload_n (i := 0) (pc := 577) dL_law_577 rfl rfl ?_
        refine ph_iload_n (i := 3) (pc := 578) dL_law_578 rfl rfl ?_
        refine ph_iconst (v := (nI 1)) (pc := 579) dL_law_579 ph_ic_1 ?_
        refine ph_iadd (pc := 580) dL_law_580 ?_
        refine ph_sald (pc := 581) dL_law_581 rfl (fun v135 => ?_)
        refine ph_callVi (pc := 582) dL_law_582 ph_mf_yX8_drift ph_ml_RL_71 ph_mi_yX8_drift ph_mv_yX8_drift rfl rfl (c_X8_drift Z (d - 1) (by omega) v135 h3) (by omega) rfl rfl (Nat.le_of_ble_eq_true rfl) (fun v136 h137 => ?_)
        refine ph_aload_n (i := 2) (pc := 585) dL_law_585 rfl rfl ?_
        refine ph_aload_n (i := 0) (pc := 586) dL_law_586 rfl rfl ?_
        refine ph_iload_n (i := 3) (pc := 587) dL_law_587 rfl rfl ?_
        refine ph_iconst (v := (nI 1)) (pc := 588) dL_law_588 ph_ic_1 ?_
        refine ph_iadd (pc := 589) dL_law_589 ?_
        refine ph_sald (pc := 590) dL_law_590 rfl (fun v138 => ?_)
        refine ph_callVi (pc := 591) dL_law_591 ph_mf_yX9_drift ph_ml_RL_74 ph_mi_yX9_drift ph_mv_yX9_drift rfl rfl (c_X9_drift Z (d - 1) (by omega) v138 h137) (by omega) rfl rfl (Nat.le_of_ble_eq_true rfl) (fun v139 h140 => ?_)
        refine ph_icmp_eq (tgt := 1238) (pc := 594) dL_law_594 (by decide) (fun c141 => ?_) (fun c141 => ?_)
        · exact hj6 h140
        · refine ph_iconst (v := (nI 0)) (pc := 597) dL_law_597 ph_ic_0 ?_
          exact ph_zret (pc := 598) dL_law_598 rfl
      refine ph_ite (fun c142 => ?_) (fun c142 => ?_)
      · refine ph_tin (tgt := 599) (v := (nI 15)) (pc := 33) dL_law_33 c142 (by decide) (by decide) rfl (by decide) ?_
        refine ph_aload_n (i := 1) (pc := 599) dL_law_599 rfl rfl ?_
        refine ph_callVi (pc := 600) dL_law_600 ph_mf_yX8_round ph_ml_RL_75 ph_mi_yX8_round ph_mv_yX8_round rfl rfl (c_X8_round Z (d - 1) (by omega) h3) (by omega) rfl rfl (Nat.le_of_ble_eq_true rfl) (fun v143 h144 => ?_)
        refine ph_aload_n (i := 2) (pc := 603) dL_law_603 rfl rfl ?_
        refine ph_callVi (pc := 604) dL_law_604 ph_mf_yX9_round ph_ml_RL_79 ph_mi_yX9_round ph_mv_yX9_round rfl rfl (c_X9_round Z (d - 1) (by omega) h144) (by omega) rfl rfl (Nat.le_of_ble_eq_true rfl) (fun v145 h146 => ?_)
        refine ph_icmp_eq (tgt := 1238) (pc := 607) dL_law_607 (by decide) (fun c147 => ?_) (fun c147 => ?_)
        · exact hj6 h146
        · refine ph_iconst (v := (nI 0)) (pc := 610) dL_law_610 ph_ic_0 ?_
          exact ph_zret (pc := 611) dL_law_611 rfl
      refine ph_ite (fun c148 => ?_) (fun c148 => ?_)
      · refine ph_tin (tgt := 612) (v := (nI 16)) (pc := 33) dL_law_33 c148 (by decide) (by decide) rfl (by decide) ?_
        refine ph_aload_n (i := 1) (pc := 612) dL_law_612 rfl rfl ?_
        refine ph_aload_n (i := 0) (pc := 613) dL_law_613 rfl rfl ?_
        refine ph_iload_n (i := 3) (pc := 614) dL_law_614 rfl rfl ?_
        refine ph_iconst (v := (nI 1)) (pc := 615) dL_law_615 ph_ic_1 ?_
        refine ph_iadd (pc := 616) dL_law_616 ?_
        refine ph_sald (pc := 617) dL_law_617 rfl (fun v149 => ?_)
        refine ph_aload_n (i := 0) (pc := 618) dL_law_618 rfl rfl ?_
        refine ph_iload_n (i := 3) (pc := 619) dL_law_619 rfl rfl ?_
        refine ph_iconst (v := (nI 2)) (pc := 620) dL_law_620 ph_ic_2 ?_
        refine ph_iadd (pc := 621) dL_law_621 ?_
        refine ph_sald (pc := 622) dL_law_622 rfl (fun v150 => ?_)
        refine ph_callVi (pc := 623) dL_law_623 ph_mf_yX8_often ph_ml_RL_80 ph_mi_yX8_often ph_mv_yX8_often rfl rfl (c_X8_often Z (d - 1) (by omega) v149 v150 h3) (by omega) rfl rfl (Nat.le_of_ble_eq_true rfl) (fun v151 h152 => ?_)
        refine ph_aload_n (i := 2) (pc := 626) dL_law_626 rfl rfl ?_
        refine ph_aload_n (i := 0) (pc := 627) dL_law_627 rfl rfl ?_
        refine ph_iload_n (i := 3) (pc := 628) dL_law_628 rfl rfl ?_
        refine ph_iconst (v := (nI 1)) (pc := 629) dL_law_629 ph_ic_1 ?_
        refine ph_iadd (pc := 630) dL_law_630 ?_
        refine ph_sald (pc := 631) dL_law_631 rfl (fun v153 => ?_)
        refine ph_aload_n (i := 0) (pc := 632) dL_law_632 rfl rfl ?_
        refine ph_iload_n (i := 3) (pc := 633) dL_law_633 rfl rfl ?_
        refine ph_iconst (v := (nI 2)) (pc := 634) dL_law_634 ph_ic_2 ?_
        refine ph_iadd (pc := 635) dL_law_635 ?_
        refine ph_sald (pc := 636) dL_law_636 rfl (fun v154 => ?_)
        refine ph_callVi (pc := 637) dL_law_637 ph_mf_yX9_often ph_ml_RL_83 ph_mi_yX9_often ph_mv_yX9_often rfl rfl (c_X9_often Z (d - 1) (by omega) v153 v154 h152) (by omega) rfl rfl (Nat.le_of_ble_eq_true rfl) (fun v155 h156 => ?_)
        refine ph_icmp_eq (tgt := 1238) (pc := 640) dL_law_640 (by decide) (fun c157 => ?_) (fun c157 => ?_)
        · exact hj6 h156
        · refine ph_iconst (v := (nI 0)) (pc := 643) dL_law_643 ph_ic_0 ?_
          exact ph_zret (pc := 644) dL_law_644 rfl
      refine ph_ite (fun c158 => ?_) (fun c158 => ?_)
      · refine ph_tin (tgt := 645) (v := (nI 17)) (pc := 33) dL_law_33 c158 (by decide) (by decide) rfl (by decide) ?_
        refine ph_aload_n (i := 1) (pc := 645) dL_law_645 rfl rfl ?_
        refine ph_aload_n (i := 0) (pc := 646) dL_law_646 rfl rfl ?_
        refine ph_iload_n (i := 3) (pc := 647) dL_law_647 rfl rfl ?_
        refine ph_iconst (v := (nI 1)) (pc := 648) dL_law_648 ph_ic_1 ?_
        refine ph_iadd (pc := 649) dL_law_649 ?_
        refine ph_sald (pc := 650) dL_law_650 rfl (fun v159 => ?_)
        refine ph_aload_n (i := 0) (pc := 651) dL_law_651 rfl rfl ?_
        refine ph_iload_n (i := 3) (pc := 652) dL_law_652 rfl rfl ?_
        refine ph_iconst (v := (nI 2)) (pc := 653) dL_law_653 ph_ic_2 ?_
        refine ph_iadd (pc := 654) dL_law_654 ?_
        refine ph_sald (pc := 655) dL_law_655 rfl (fun v160 => ?_)
        refine ph_callVi (pc := 656) dL_law_656 ph_mf_yX8_may ph_ml_RL_84 ph_mi_yX8_may ph_mv_yX8_may rfl rfl (c_X8_may Z (d - 1) (by omega) v159 v160 h3) (by omega) rfl rfl (Nat.le_of_ble_eq_true rfl) (fun v161 h162 => ?_)
        refine ph_aload_n (i := 2) (pc := 659) dL_law_659 rfl rfl ?_
        refine ph_aload_n (i := 0) (pc := 660) dL_law_660 rfl rfl ?_
        refine ph_iload_n (i := 3) (pc := 661) dL_law_661 rfl rfl ?_
        refine ph_iconst (v := (nI 1)) (pc := 662) dL_law_662 ph_ic_1 ?_
        refine ph_iadd (pc := 663) dL_law_663 ?_
        refine ph_sald (pc := 664) dL_law_664 rfl (fun v163 => ?_)
        refine ph_aload_n (i := 0) (pc := 665) dL_law_665 rfl rfl ?_
        refine ph_iload_n (i := 3) (pc := 666) dL_law_666 rfl rfl ?_
        refine ph_iconst (v := (nI 2)) (pc := 667) dL_law_667 ph_ic_2 ?_
        refine ph_iadd (pc := 668) dL_law_668 ?_
        refine ph_sald (pc := 669) dL_law_669 rfl (fun v164 => ?_)
        refine ph_callVi (pc := 670) dL_law_670 ph_mf_yX9_may ph_ml_RL_87 ph_mi_yX9_may ph_mv_yX9_may rfl rfl (c_X9_may Z (d - 1) (by omega) v163 v164 h162) (by omega) rfl rfl (Nat.le_of_ble_eq_true rfl) (fun v165 h166 => ?_)
        refine ph_icmp_eq (tgt := 1238) (pc := 673) dL_law_673 (by decide) (fun c167 => ?_) (fun c167 => ?_)
        · exact hj6 h166
        · refine ph_iconst (v := (nI 0)) (pc := 676) dL_law_676 ph_ic_0 ?_
          exact ph_zret (pc := 677) dL_law_677 rfl
      refine ph_ite (fun c168 => ?_) (fun c168 => ?_)
      · refine ph_tin (tgt := 678) (v := (nI 18)) (pc := 33) dL_law_33 c168 (by decide) (by decide) rfl (by decide) ?_
        refine ph_aload_n (i := 1) (pc := 678) dL_law_678 rfl rfl ?_
        refine ph_aload_n (i := 0) (pc := 679) dL_law_679 rfl rfl ?_
        refine ph_iload_n (i := 3) (pc := 680) dL_law_680 rfl rfl ?_
        refine ph_iconst (v := (nI 1)) (pc := 681) dL_law_681 ph_ic_1 ?_
        refine ph_iadd (pc := 682) dL_law_682 ?_
        refine ph_sald (pc := 683) dL_law_683 rfl (fun v169 => ?_)
        refine ph_aload_n (i := 0) (pc := 684) dL_law_684 rfl rfl ?_
        refine ph_iload_n (i := 3) (pc := 685) dL_law_685 rfl rfl ?_
        refine ph_iconst (v := (nI 2)) (pc := 686) dL_law_686 ph_ic_2 ?_
        refine ph_iadd (pc := 687) dL_law_687 ?_
        refine ph_sald (pc := 688) dL_law_688 rfl (fun v170 => ?_)
        refine ph_aload_n (i := 0) (pc := 689) dL_law_689 rfl rfl ?_
        refine ph_iload_n (i := 3) (pc := 690) dL_law_690 rfl rfl ?_
        refine ph_iconst (v := (nI 3)) (pc := 691) dL_law_691 ph_ic_3 ?_
        refine ph_iadd (pc := 692) dL_law_692 ?_
        refine ph_sald (pc := 693) dL_law_693 rfl (fun v171 => ?_)
        refine ph_aload_n (i := 0) (pc := 694) dL_law_694 rfl rfl ?_
        refine ph_iload_n (i := 3) (pc := 695) dL_law_695 rfl rfl ?_
        refine ph_iconst (v := (nI 4)) (pc := 696) dL_law_696 ph_ic_4 ?_
        refine ph_iadd (pc := 697) dL_law_697 ?_
        refine ph_sald (pc := 698) dL_law_698 rfl (fun v172 => ?_)
        refine ph_callVi (pc := 699) dL_law_699 ph_mf_yX8_prompt ph_ml_RL_88 ph_mi_yX8_prompt ph_mv_yX8_prompt rfl rfl (c_X8_prompt Z (d - 1) (by omega) v169 v170 v171 v172 h3) (by omega) rfl rfl (Nat.le_of_ble_eq_true rfl) (fun v173 h174 => ?_)
        refine ph_aload_n (i := 2) (pc := 702) dL_law_702 rfl rfl ?_
        refine ph_aload_n (i := 0) (pc := 703) dL_law_703 rfl rfl ?_
        refine ph_iload_n (i := 3) (pc := 704) dL_law_704 rfl rfl ?_
        refine ph_iconst (v := (nI 1)) (pc := 705) dL_law_705 ph_ic_1 ?_
        refine ph_iadd (pc := 706) dL_law_706 ?_
        refine ph_sald (pc := 707) dL_law_707 rfl (fun v175 => ?_)
        refine ph_aload_n (i := 0) (pc := 708) dL_law_708 rfl rfl ?_
        refine ph_iload_n (i := 3) (pc := 709) dL_law_709 rfl rfl ?_
        refine ph_iconst (v := (nI 2)) (pc := 710) dL_law_710 ph_ic_2 ?_
        refine ph_iadd (pc := 711) dL_law_711 ?_
        refine ph_sald (pc := 712) dL_law_712 rfl (fun v176 => ?_)
        refine ph_aload_n (i := 0) (pc := 713) dL_law_713 rfl rfl ?_
        refine ph_iload_n (i := 3) (pc := 714) dL_law_714 rfl rfl ?_
        refine ph_iconst (v := (nI 3)) (pc := 715) dL_law_715 ph_ic_3 ?_
        refine ph_iadd (pc := 716) dL_law_716 ?_
        refine ph_sald (pc := 717) dL_law_717 rfl (fun v177 => ?_)
        refine ph_aload_n (i := 0) (pc := 718) dL_law_718 rfl rfl ?_
        refine ph_iload_n (i := 3) (pc := 719) dL_law_719 rfl rfl ?_
        refine ph_iconst (v := (nI 4)) (pc := 720) dL_law_720 ph_ic_4 ?_
        refine ph_iadd (pc := 721) dL_law_721 ?_
        refine ph_sald (pc := 722) dL_law_722 rfl (fun v178 => ?_)
        refine ph_callVi (pc := 723) dL_law_723 ph_mf_yX9_prompt ph_ml_RL_92 ph_mi_yX9_prompt ph_mv_yX9_prompt rfl rfl (c_X9_prompt Z (d - 1) (by omega) v175 v176 v177 v178 h174) (by omega) rfl rfl (Nat.le_of_ble_eq_true rfl) (fun v179 h180 => ?_)
        refine ph_icmp_eq (tgt := 1238) (pc := 726) dL_law_726 (by decide) (fun c181 => ?_) (fun c181 => ?_)
        · exact hj6 h180
        · refine ph_iconst (v := (nI 0)) (pc := 729) dL_law_729 ph_ic_0 ?_
          exact ph_zret (pc := 730) dL_law_730 rfl
      refine ph_ite (fun c182 => ?_) (fun c182 => ?_)
      · refine ph_tin (tgt := 731) (v := (nI 19)) (pc := 33) dL_law_33 c182 (by decide) (by decide) rfl (by decide) ?_
        refine ph_aload_n (i := 1) (pc := 731) dL_law_731 rfl rfl ?_
        refine ph_aload_n (i := 0) (pc := 732) dL_law_732 rfl rfl ?_
        refine ph_iload_n (i := 3) (pc := 733) dL_law_733 rfl rfl ?_
        refine ph_iconst (v := (nI 1)) (pc := 734) dL_law_734 ph_ic_1 ?_
        refine ph_iadd (pc := 735) dL_law_735 ?_
        refine ph_sald (pc := 736) dL_law_736 rfl (fun v183 => ?_)
        refine ph_aload_n (i := 0) (pc := 737) dL_law_737 rfl rfl ?_
        refine ph_iload_n (i := 3) (pc := 738) dL_law_738 rfl rfl ?_
        refine ph_iconst (v := (nI 2)) (pc := 739) dL_law_739 ph_ic_2 ?_
        refine ph_iadd (pc := 740) dL_law_740 ?_
        refine ph_sald (pc := 741) dL_law_741 rfl (fun v184 => ?_)
        refine ph_callVi (pc := 742) dL_law_742 ph_mf_yX8_seen ph_ml_RL_93 ph_mi_yX8_seen ph_mv_yX8_seen rfl rfl (c_X8_seen Z (d - 1) (by omega) v183 v184 h3) (by omega) rfl rfl (Nat.le_of_ble_eq_true rfl) (fun v185 h186 => ?_)
        refine ph_aload_n (i := 2) (pc := 745) dL_law_745 rfl rfl ?_
        refine ph_aload_n (i := 0) (pc := 746) dL_law_746 rfl rfl ?_
        refine ph_iload_n (i := 3) (pc := 747) dL_law_747 rfl rfl ?_
        refine ph_iconst (v := (nI 1)) (pc := 748) dL_law_748 ph_ic_1 ?_
        refine ph_iadd (pc := 749) dL_law_749 ?_
        refine ph_sald (pc := 750) dL_law_750 rfl (fun v187 => ?_)
        refine ph_aload_n (i := 0) (pc := 751) dL_law_751 rfl rfl ?_
        refine ph_iload_n (i := 3) (pc := 752) dL_law_752 rfl rfl ?_
        refine ph_iconst (v := (nI 2)) (pc := 753) dL_law_753 ph_ic_2 ?_
        refine ph_iadd (pc := 754) dL_law_754 ?_
        refine ph_sald (pc := 755) dL_law_755 rfl (fun v188 => ?_)
        refine ph_callVi (pc := 756) dL_law_756 ph_mf_yX9_seen ph_ml_RL_96 ph_mi_yX9_seen ph_mv_yX9_seen rfl rfl (c_X9_seen Z (d - 1) (by omega) v187 v188 h186) (by omega) rfl rfl (Nat.le_of_ble_eq_true rfl) (fun v189 h190 => ?_)
        refine ph_icmp_eq (tgt := 1238) (pc := 759) dL_law_759 (by decide) (fun c191 => ?_) (fun c191 => ?_)
        · exact hj6 h190
        · refine ph_iconst (v := (nI 0)) (pc := 762) dL_law_762 ph_ic_0 ?_
          exact ph_zret (pc := 763) dL_law_763 rfl
      refine ph_ite (fun c192 => ?_) (fun c192 => ?_)
      · refine ph_tin (tgt := 764) (v := (nI 20)) (pc := 33) dL_law_33 c192 (by decide) (by decide) rfl (by decide) ?_
        refine ph_aload_n (i := 1) (pc := 764) dL_law_764 rfl rfl ?_
        refine ph_callVi (pc := 765) dL_law_765 ph_mf_yX8_forget ph_ml_RL_97 ph_mi_yX8_forget ph_mv_yX8_forget rfl rfl (c_X8_forget Z (d - 1) (by omega) h3) (by omega) rfl rfl (Nat.le_of_ble_eq_true rfl) (fun v193 h194 => ?_)
        refine ph_aload_n (i := 2) (pc := 768) dL_law_768 rfl rfl ?_
        refine ph_callVi (pc := 769) dL_law_769 ph_mf_yX9_forget ph_ml_RL_100 ph_mi_yX9_forget ph_mv_yX9_forget rfl rfl (c_X9_forget Z (d - 1) (by omega) h194) (by omega) rfl rfl (Nat.le_of_ble_eq_true rfl) (fun v195 h196 => ?_)
        refine ph_icmp_eq (tgt := 1238) (pc := 772) dL_law_772 (by decide) (fun c197 => ?_) (fun c197 => ?_)
        · exact hj6 h196
        · refine ph_iconst (v := (nI 0)) (pc := 775) dL_law_775 ph_ic_0 ?_
          exact ph_zret (pc := 776) dL_law_776 rfl
      refine ph_ite (fun c198 => ?_) (fun c198 => ?_)
      · refine ph_tin (tgt := 777) (v := (nI 21)) (pc := 33) dL_law_33 c198 (by decide) (by decide) rfl (by decide) ?_
        refine ph_aload_n (i := 1) (pc := 777) dL_law_777 rfl rfl ?_
        refine ph_callVi (pc := 778) dL_law_778 ph_mf_yX8_filed ph_ml_RL_101 ph_mi_yX8_filed ph_mv_yX8_filed rfl rfl (c_X8_filed Z (d - 1) (by omega) h3) (by omega) rfl rfl (Nat.le_of_ble_eq_true rfl) (fun v199 h200 => ?_)
        refine ph_aload_n (i := 2) (pc := 781) dL_law_781 rfl rfl ?_
        refine ph_callVi (pc := 782) dL_law_782 ph_mf_yX9_filed ph_ml_RL_104 ph_mi_yX9_filed ph_mv_yX9_filed rfl rfl (c_X9_filed Z (d - 1) (by omega) h200) (by omega) rfl rfl (Nat.le_of_ble_eq_true rfl) (fun v201 h202 => ?_)
        refine ph_icmp_eq (tgt := 1238) (pc := 785) dL_law_785 (by decide) (fun c203 => ?_) (fun c203 => ?_)
        · exact hj6 h202
        · refine ph_iconst (v := (nI 0)) (pc := 788) dL_law_788 ph_ic_0 ?_
          exact ph_zret (pc := 789) dL_law_789 rfl
      refine ph_ite (fun c204 => ?_) (fun c204 => ?_)
      · refine ph_tin (tgt := 790) (v := (nI 22)) (pc := 33) dL_law_33 c204 (by decide) (by decide) rfl (by decide) ?_
        refine ph_aload_n (i := 1) (pc := 790) dL_law_790 rfl rfl ?_
        refine ph_aload_n (i := 0) (pc := 791) dL_law_791 rfl rfl ?_
        refine ph_iload_n (i := 3) (pc := 792) dL_law_792 rfl rfl ?_
        refine ph_iconst (v := (nI 1)) (pc := 793) dL_law_793 ph_ic_1 ?_
        refine ph_iadd (pc := 794) dL_law_794 ?_
        refine ph_sald (pc := 795) dL_law_795 rfl (fun v205 => ?_)
        refine ph_callVi (pc := 796) dL_law_796 ph_mf_yX8_coughed ph_ml_RL_105 ph_mi_yX8_coughed ph_mv_yX8_coughed rfl rfl (c_X8_coughed Z (d - 1) (by omega) v205 h3) (by omega) rfl rfl (Nat.le_of_ble_eq_true rfl) (fun v206 h207 => ?_)
        refine ph_aload_n (i := 2) (pc := 799) dL_law_799 rfl rfl ?_
        refine ph_aload_n (i := 0) (pc := 800) dL_law_800 rfl rfl ?_
        refine ph_iload_n (i := 3) (pc := 801) dL_law_801 rfl rfl ?_
        refine ph_iconst (v := (nI 1)) (pc := 802) dL_law_802 ph_ic_1 ?_
        refine ph_iadd (pc := 803) dL_law_803 ?_
        refine ph_sald (pc := 804) dL_law_804 rfl (fun v208 => ?_)
        refine ph_callVi (pc := 805) dL_law_805 ph_mf_yX9_coughed ph_ml_RL_108 ph_mi_yX9_coughed ph_mv_yX9_coughed rfl rfl (c_X9_coughed Z (d - 1) (by omega) v208 h207) (by omega) rfl rfl (Nat.le_of_ble_eq_true rfl) (fun v209 h210 => ?_)
        refine ph_icmp_eq (tgt := 1238) (pc := 808) dL_law_808 (by decide) (fun c211 => ?_) (fun c211 => ?_)
        · exact hj6 h210
        · refine ph_iconst (v := (nI 0)) (pc := 811) dL_law_811 ph_ic_0 ?_
          exact ph_zret (pc := 812) dL_law_812 rfl
      refine ph_ite (fun c212 => ?_) (fun c212 => ?_)
      · refine ph_tin (tgt := 813) (v := (nI 23)) (pc := 33) dL_law_33 c212 (by decide) (by decide) rfl (by decide) ?_
        refine ph_aload_n (i := 1) (pc := 813) dL_law_813 rfl rfl ?_
        refine ph_aload_n (i := 0) (pc := 814) dL_law_814 rfl rfl ?_
        refine ph_iload_n (i := 3) (pc := 815) dL_law_815 rfl rfl ?_
        refine ph_iconst (v := (nI 1)) (pc := 816) dL_law_816 ph_ic_1 ?_
        refine ph_iadd (pc := 817) dL_law_817 ?_
        refine ph_sald (pc := 818) dL_law_818 rfl (fun v213 => ?_)
        refine ph_callVi (pc := 819) dL_law_819 ph_mf_yX8_ask ph_ml_RL_109 ph_mi_yX8_ask ph_mv_yX8_ask rfl rfl (c_X8_ask Z (d - 1) (by omega) v213 h3) (by omega) rfl rfl (Nat.le_of_ble_eq_true rfl) (fun v214 h215 => ?_)
        refine ph_aload_n (i := 2) (pc := 822) dL_law_822 rfl rfl ?_
        refine ph_aload_n (i := 0) (pc := 823) dL_law_823 rfl rfl ?_
        refine ph_iload_n (i := 3) (pc := 824) dL_law_824 rfl rfl ?_
        refine ph_iconst (v := (nI 1)) (pc := 825) dL_law_825 ph_ic_1 ?_
        refine ph_iadd (pc := 826) dL_law_826 ?_
        refine ph_sald (pc := 827) dL_law_827 rfl (fun v216 => ?_)
        refine ph_callVi (pc := 828) dL_law_828 ph_mf_yX9_ask ph_ml_RL_112 ph_mi_yX9_ask ph_mv_yX9_ask rfl rfl (c_X9_ask Z (d - 1) (by omega) v216 h215) (by omega) rfl rfl (Nat.le_of_ble_eq_true rfl) (fun v217 h218 => ?_)
        refine ph_icmp_eq (tgt := 1238) (pc := 831) dL_law_831 (by decide) (fun c219 => ?_) (fun c219 => ?_)
        · exact hj6 h218
        · refine ph_iconst (v := (nI 0)) (pc := 834) dL_law_834 ph_ic_0 ?_
          exact ph_zret (pc := 835) dL_law_835 rfl
      refine ph_ite (fun c220 => ?_) (fun c220 => ?_)
      · refine ph_tin (tgt := 836) (v := (nI 24)) (pc := 33) dL_law_33 c220 (by decide) (by decide) rfl (by decide) ?_
        refine ph_aload_n (i := 1) (pc := 836) dL_law_836 rfl rfl ?_
        refine ph_aload_n (i := 0) (pc := 837) dL_law_837 rfl rfl ?_
        refine ph_iload_n (i := 3) (pc := 838) dL_law_838 rfl rfl ?_
        refine ph_iconst (v := (nI 1)) (pc := 839) dL_law_839 ph_ic_1 ?_
        refine ph_iadd (pc := 840) dL_law_840 ?_
        refine ph_sald (pc := 841) dL_law_841 rfl (fun v221 => ?_)
        refine ph_aload_n (i := 0) (pc := 842) dL_law_842 rfl rfl ?_
        refine ph_iload_n (i := 3) (pc := 843) dL_law_843 rfl rfl ?_
        refine ph_iconst (v := (nI 2)) (pc := 844) dL_law_844 ph_ic_2 ?_
        refine ph_iadd (pc := 845) dL_law_845 ?_
        refine ph_sald (pc := 846) dL_law_846 rfl (fun v222 => ?_)
        refine ph_aload_n (i := 0) (pc := 847) dL_law_847 rfl rfl ?_
        refine ph_iload_n (i := 3) (pc := 848) dL_law_848 rfl rfl ?_
        refine ph_iconst (v := (nI 3)) (pc := 849) dL_law_849 ph_ic_3 ?_
        refine ph_iadd (pc := 850) dL_law_850 ?_
        refine ph_sald (pc := 851) dL_law_851 rfl (fun v223 => ?_)
        refine ph_aload_n (i := 0) (pc := 852) dL_law_852 rfl rfl ?_
        refine ph_iload_n (i := 3) (pc := 853) dL_law_853 rfl rfl ?_
        refine ph_iconst (v := (nI 4)) (pc := 854) dL_law_854 ph_ic_4 ?_
        refine ph_iadd (pc := 855) dL_law_855 ?_
        refine ph_sald (pc := 856) dL_law_856 rfl (fun v224 => ?_)
        refine ph_aload_n (i := 0) (pc := 857) dL_law_857 rfl rfl ?_
        refine ph_iload_n (i := 3) (pc := 858) dL_law_858 rfl rfl ?_
        refine ph_iconst (v := (nI 5)) (pc := 859) dL_law_859 ph_ic_5 ?_
        refine ph_iadd (pc := 860) dL_law_860 ?_
        refine ph_sald (pc := 861) dL_law_861 rfl (fun v225 => ?_)
        refine ph_callVl (pc := 862) dL_law_862 ph_mf_yX8_slips ph_ml_RL_113 ph_mi_yX8_slips ph_mv_yX8_slips rfl rfl (c_X8_slips Z (d - 1) (by omega) v221 v222 v223 v224 v225 h3) (by omega) rfl rfl (Nat.le_of_ble_eq_true rfl) (fun v226 h227 => ?_)
        refine ph_aload_n (i := 2) (pc := 865) dL_law_865 rfl rfl ?_
        refine ph_aload_n (i := 0) (pc := 866) dL_law_866 rfl rfl ?_
        refine ph_iload_n (i := 3) (pc := 867) dL_law_867 rfl rfl ?_
        refine ph_iconst (v := (nI 1)) (pc := 868) dL_law_868 ph_ic_1 ?_
        refine ph_iadd (pc := 869) dL_law_869 ?_
        refine ph_sald (pc := 870) dL_law_870 rfl (fun v228 => ?_)
        refine ph_aload_n (i := 0) (pc := 871) dL_law_871 rfl rfl ?_
        refine ph_iload_n (i := 3) (pc := 872) dL_law_872 rfl rfl ?_
        refine ph_iconst (v := (nI 2)) (pc := 873) dL_law_873 ph_ic_2 ?_
        refine ph_iadd (pc := 874) dL_law_874 ?_
        refine ph_sald (pc := 875) dL_law_875 rfl (fun v229 => ?_)
        refine ph_aload_n (i := 0) (pc := 876) dL_law_876 rfl rfl ?_
        refine ph_iload_n (i := 3) (pc := 877) dL_law_877 rfl rfl ?_
        refine ph_iconst (v := (nI 3)) (pc := 878) dL_law_878 ph_ic_3 ?_
        refine ph_iadd (pc := 879) dL_law_879 ?_
        refine ph_sald (pc := 880) dL_law_880 rfl (fun v230 => ?_)
        refine ph_aload_n (i := 0) (pc := 881) dL_law_881 rfl rfl ?_
        refine ph_iload_n (i := 3) (pc := 882) dL_law_882 rfl rfl ?_
        refine ph_iconst (v := (nI 4)) (pc := 883) dL_law_883 ph_ic_4 ?_
        refine ph_iadd (pc := 884) dL_law_884 ?_
        refine ph_sald (pc := 885) dL_law_885 rfl (fun v231 => ?_)
        refine ph_aload_n (i := 0) (pc := 886) dL_law_886 rfl rfl ?_
        refine ph_iload_n (i := 3) (pc := 887) dL_law_887 rfl rfl ?_
        refine ph_iconst (v := (nI 5)) (pc := 888) dL_law_888 ph_ic_5 ?_
        refine ph_iadd (pc := 889) dL_law_889 ?_
        refine ph_sald (pc := 890) dL_law_890 rfl (fun v232 => ?_)
        refine ph_callVl (pc := 891) dL_law_891 ph_mf_yX9_slips ph_ml_RL_117 ph_mi_yX9_slips ph_mv_yX9_slips rfl rfl (c_X9_slips Z (d - 1) (by omega) v228 v229 v230 v231 v232 h227) (by omega) rfl rfl (Nat.le_of_ble_eq_true rfl) (fun v233 h234 => ?_)
        refine ph_lcmp (pc := 894) dL_law_894 ?_
        refine ph_if_eq (tgt := 1238) (pc := 895) dL_law_895 (by decide) (fun c235 => ?_) (fun c235 => ?_)
        · exact hj6 h234
        · refine ph_iconst (v := (nI 0)) (pc := 898) dL_law_898 ph_ic_0 ?_
          exact ph_zret (pc := 899) dL_law_899 rfl
      refine ph_ite (fun c236 => ?_) (fun c236 => ?_)
      · refine ph_tin (tgt := 900) (v := (nI 25)) (pc := 33) dL_law_33 c236 (by decide) (by decide) rfl (by decide) ?_
        refine ph_aload_n (i := 1) (pc := 900) dL_law_900 rfl rfl ?_
        refine ph_aload_n (i := 0) (pc := 901) dL_law_901 rfl rfl ?_
        refine ph_iload_n (i := 3) (pc := 902) dL_law_902 rfl rfl ?_
        refine ph_iconst (v := (nI 1)) (pc := 903) dL_law_903 ph_ic_1 ?_
        refine ph_iadd (pc := 904) dL_law_904 ?_
        refine ph_sald (pc := 905) dL_law_905 rfl (fun v237 => ?_)
        refine ph_aload_n (i := 0) (pc := 906) dL_law_906 rfl rfl ?_
        refine ph_iload_n (i := 3) (pc := 907) dL_law_907 rfl rfl ?_
        refine ph_iconst (v := (nI 2)) (pc := 908) dL_law_908 ph_ic_2 ?_
        refine ph_iadd (pc := 909) dL_law_909 ?_
        refine ph_sald (pc := 910) dL_law_910 rfl (fun v238 => ?_)
        refine ph_aload_n (i := 0) (pc := 911) dL_law_911 rfl rfl ?_
        refine ph_iload_n (i := 3) (pc := 912) dL_law_912 rfl rfl ?_
        refine ph_iconst (v := (nI 3)) (pc := 913) dL_law_913 ph_ic_3 ?_
        refine ph_iadd (pc := 914) dL_law_914 ?_
        refine ph_sald (pc := 915) dL_law_915 rfl (fun v239 => ?_)
        refine ph_callVi (pc := 916) dL_law_916 ph_mf_yX8_evening ph_ml_RL_118 ph_mi_yX8_evening ph_mv_yX8_evening rfl rfl (c_X8_evening Z (d - 1) (by omega) v237 v238 v239 h3) (by omega) rfl rfl (Nat.le_of_ble_eq_true rfl) (fun v240 h241 => ?_)
        refine ph_aload_n (i := 2) (pc := 919) dL_law_919 rfl rfl ?_
        refine ph_aload_n (i := 0) (pc := 920) dL_law_920 rfl rfl ?_
        refine ph_iload_n (i := 3) (pc := 921) dL_law_921 rfl rfl ?_
        refine ph_iconst (v := (nI 1)) (pc := 922) dL_law_922 ph_ic_1 ?_
        refine ph_iadd (pc := 923) dL_law_923 ?_
        refine ph_sald (pc := 924) dL_law_924 rfl (fun v242 => ?_)
        refine ph_aload_n (i := 0) (pc := 925) dL_law_925 rfl rfl ?_
        refine ph_iload_n (i := 3) (pc := 926) dL_law_926 rfl rfl ?_
        refine ph_iconst (v := (nI 2)) (pc := 927) dL_law_927 ph_ic_2 ?_
        refine ph_iadd (pc := 928) dL_law_928 ?_
        refine ph_sald (pc := 929) dL_law_929 rfl (fun v243 => ?_)
        refine ph_aload_n (i := 0) (pc := 930) dL_law_930 rfl rfl ?_
        refine ph_iload_n (i := 3) (pc := 931) dL_law_931 rfl rfl ?_
        refine ph_iconst (v := (nI 3)) (pc := 932) dL_law_932 ph_ic_3 ?_
        refine ph_iadd (pc := 933) dL_law_933 ?_
        refine ph_sald (pc := 934) dL_law_934 rfl (fun v244 => ?_)
        refine ph_callVi (pc := 935) dL_law_935 ph_mf_yX9_evening ph_ml_RL_122 ph_mi_yX9_evening ph_mv_yX9_evening rfl rfl (c_X9_evening Z (d - 1) (by omega) v242 v243 v244 h241) (by omega) rfl rfl (Nat.le_of_ble_eq_true rfl) (fun v245 h246 => ?_)
        refine ph_icmp_eq (tgt := 1238) (pc := 938) dL_law_938 (by decide) (fun c247 => ?_) (fun c247 => ?_)
        · exact hj6 h246
        · refine ph_iconst (v := (nI 0)) (pc := 941) dL_law_941 ph_ic_0 ?_
          exact ph_zret (pc := 942) dL_law_942 rfl
      refine ph_ite (fun c248 => ?_) (fun c248 => ?_)
      · refine ph_tin (tgt := 943) (v := (nI 26)) (pc := 33) dL_law_33 c248 (by decide) (by decide) rfl (by decide) ?_
        refine ph_aload_n (i := 1) (pc := 943) dL_law_943 rfl rfl ?_
        refine ph_aload_n (i := 0) (pc := 944) dL_law_944 rfl rfl ?_
        refine ph_iload_n (i := 3) (pc := 945) dL_law_945 rfl rfl ?_
        refine ph_iconst (v := (nI 1)) (pc := 946) dL_law_946 ph_ic_1 ?_
        refine ph_iadd (pc := 947) dL_law_947 ?_
        refine ph_sald (pc := 948) dL_law_948 rfl (fun v249 => ?_)
        refine ph_aload_n (i := 0) (pc := 949) dL_law_949 rfl rfl ?_
        refine ph_iload_n (i := 3) (pc := 950) dL_law_950 rfl rfl ?_
        refine ph_iconst (v := (nI 2)) (pc := 951) dL_law_951 ph_ic_2 ?_
        refine ph_iadd (pc := 952) dL_law_952 ?_
        refine ph_sald (pc := 953) dL_law_953 rfl (fun v250 => ?_)
        refine ph_aload_n (i := 0) (pc := 954) dL_law_954 rfl rfl ?_
        refine ph_iload_n (i := 3) (pc := 955) dL_law_955 rfl rfl ?_
        refine ph_iconst (v := (nI 3)) (pc := 956) dL_law_956 ph_ic_3 ?_
        refine ph_iadd (pc := 957) dL_law_957 ?_
        refine ph_sald (pc := 958) dL_law_958 rfl (fun v251 => ?_)
        refine ph_callVi (pc := 959) dL_law_959 ph_mf_yX8_sheet ph_ml_RL_123 ph_mi_yX8_sheet ph_mv_yX8_sheet rfl rfl (c_X8_sheet Z (d - 1) (by omega) v249 v250 v251 h3) (by omega) rfl rfl (Nat.le_of_ble_eq_true rfl) (fun v252 h253 => ?_)
        refine ph_aload_n (i := 2) (pc := 962) dL_law_962 rfl rfl ?_
        refine ph_aload_n (i := 0) (pc := 963) dL_law_963 rfl rfl ?_
        refine ph_iload_n (i := 3) (pc := 964) dL_law_964 rfl rfl ?_
        refine ph_iconst (v := (nI 1)) (pc := 965) dL_law_965 ph_ic_1 ?_
        refine ph_iadd (pc := 966) dL_law_966 ?_
        refine ph_sald (pc := 967) dL_law_967 rfl (fun v254 => ?_)
        refine ph_aload_n (i := 0) (pc := 968) dL_law_968 rfl rfl ?_
        refine ph_iload_n (i := 3) (pc := 969) dL_law_969 rfl rfl ?_
        refine ph_iconst (v := (nI 2)) (pc := 970) dL_law_970 ph_ic_2 ?_
        refine ph_iadd (pc := 971) dL_law_971 ?_
        refine ph_sald (pc := 972) dL_law_972 rfl (fun v255 => ?_)
        refine ph_aload_n (i := 0) (pc := 973) dL_law_973 rfl rfl ?_
        refine ph_iload_n (i := 3) (pc := 974) dL_law_974 rfl rfl ?_
        refine ph_iconst (v := (nI 3)) (pc := 975) dL_law_975 ph_ic_3 ?_
        refine ph_iadd (pc := 976) dL_law_976 ?_
        refine ph_sald (pc := 977) dL_law_977 rfl (fun v256 => ?_)
        refine ph_callVi (pc := 978) dL_law_978 ph_mf_yX9_sheet ph_ml_RL_126 ph_mi_yX9_sheet ph_mv_yX9_sheet rfl rfl (c_X9_sheet Z (d - 1) (by omega) v254 v255 v256 h253) (by omega) rfl rfl (Nat.le_of_ble_eq_true rfl) (fun v257 h258 => ?_)
        refine ph_icmp_eq (tgt := 1238) (pc := 981) dL_law_981 (by decide) (fun c259 => ?_) (fun c259 => ?_)
        · exact hj6 h258
        · refine ph_iconst (v := (nI 0)) (pc := 984) dL_law_984 ph_ic_0 ?_
          exact ph_zret (pc := 985) dL_law_985 rfl
      refine ph_ite (fun c260 => ?_) (fun c260 => ?_)
      · refine ph_tin (tgt := 986) (v := (nI 27)) (pc := 33) dL_law_33 c260 (by decide) (by decide) rfl (by decide) ?_
        refine ph_aload_n (i := 1) (pc := 986) dL_law_986 rfl rfl ?_
        refine ph_aload_n (i := 0) (pc := 987) dL_law_987 rfl rfl ?_
        refine ph_iload_n (i := 3) (pc := 988) dL_law_988 rfl rfl ?_
        refine ph_iconst (v := (nI 1)) (pc := 989) dL_law_989 ph_ic_1 ?_
        refine ph_iadd (pc := 990) dL_law_990 ?_
        refine ph_sald (pc := 991) dL_law_991 rfl (fun v261 => ?_)
        refine ph_callVi (pc := 992) dL_law_992 ph_mf_yX8_lose ph_ml_RL_127 ph_mi_yX8_lose ph_mv_yX8_lose rfl rfl (c_X8_lose Z (d - 1) (by omega) v261 h3) (by omega) rfl rfl (Nat.le_of_ble_eq_true rfl) (fun v262 h263 => ?_)
        refine ph_aload_n (i := 2) (pc := 995) dL_law_995 rfl rfl ?_
        refine ph_aload_n (i := 0) (pc := 996) dL_law_996 rfl rfl ?_
        refine ph_iload_n (i := 3) (pc := 997) dL_law_997 rfl rfl ?_
        refine ph_iconst (v := (nI 1)) (pc := 998) dL_law_998 ph_ic_1 ?_
        refine ph_iadd (pc := 999) dL_law_999 ?_
        refine ph_sald (pc := 1000) dL_law_1000 rfl (fun v264 => ?_)
        refine ph_callVi (pc := 1001) dL_law_1001 ph_mf_yX9_lose ph_ml_RL_130 ph_mi_yX9_lose ph_mv_yX9_lose rfl rfl (c_X9_lose Z (d - 1) (by omega) v264 h263) (by omega) rfl rfl (Nat.le_of_ble_eq_true rfl) (fun v265 h266 => ?_)
        refine ph_icmp_eq (tgt := 1238) (pc := 1004) dL_law_1004 (by decide) (fun c267 => ?_) (fun c267 => ?_)
        · exact hj6 h266
        · refine ph_iconst (v := (nI 0)) (pc := 1007) dL_law_1007 ph_ic_0 ?_
          exact ph_zret (pc := 1008) dL_law_1008 rfl
      refine ph_ite (fun c268 => ?_) (fun c268 => ?_)
      · refine ph_tin (tgt := 1009) (v := (nI 28)) (pc := 33) dL_law_33 c268 (by decide) (by decide) rfl (by decide) ?_
        refine ph_aload_n (i := 1) (pc := 1009) dL_law_1009 rfl rfl ?_
        refine ph_aload_n (i := 0) (pc := 1010) dL_law_1010 rfl rfl ?_
        refine ph_iload_n (i := 3) (pc := 1011) dL_law_1011 rfl rfl ?_
        refine ph_iconst (v := (nI 1)) (pc := 1012) dL_law_1012 ph_ic_1 ?_
        refine ph_iadd (pc := 1013) dL_law_1013 ?_
        refine ph_sald (pc := 1014) dL_law_1014 rfl (fun v269 => ?_)
        refine ph_aload_n (i := 0) (pc := 1015) dL_law_1015 rfl rfl ?_
        refine ph_iload_n (i := 3) (pc := 1016) dL_law_1016 rfl rfl ?_
        refine ph_iconst (v := (nI 2)) (pc := 1017) dL_law_1017 ph_ic_2 ?_
        refine ph_iadd (pc := 1018) dL_law_1018 ?_
        refine ph_sald (pc := 1019) dL_law_1019 rfl (fun v270 => ?_)
        refine ph_aload_n (i := 0) (pc := 1020) dL_law_1020 rfl rfl ?_
        refine ph_iload_n (i := 3) (pc := 1021) dL_law_1021 rfl rfl ?_
        refine ph_iconst (v := (nI 3)) (pc := 1022) dL_law_1022 ph_ic_3 ?_
        refine ph_iadd (pc := 1023) dL_law_1023 ?_
        refine ph_sald (pc := 1024) dL_law_1024 rfl (fun v271 => ?_)
        refine ph_aload_n (i := 0) (pc := 1025) dL_law_1025 rfl rfl ?_
        refine ph_iload_n (i := 3) (pc := 1026) dL_law_1026 rfl rfl ?_
        refine ph_iconst (v := (nI 4)) (pc := 1027) dL_law_1027 ph_ic_4 ?_
        refine ph_iadd (pc := 1028) dL_law_1028 ?_
        refine ph_sald (pc := 1029) dL_law_1029 rfl (fun v272 => ?_)
        refine ph_callVi (pc := 1030) dL_law_1030 ph_mf_yX8_lay ph_ml_RL_131 ph_mi_yX8_lay ph_mv_yX8_lay rfl rfl (c_X8_lay Z (d - 1) (by omega) v269 v270 v271 v272 h3) (by omega) rfl rfl (Nat.le_of_ble_eq_true rfl) (fun v273 h274 => ?_)
        refine ph_aload_n (i := 2) (pc := 1033) dL_law_1033 rfl rfl ?_
        refine ph_aload_n (i := 0) (pc := 1034) dL_law_1034 rfl rfl ?_
        refine ph_iload_n (i := 3) (pc := 1035) dL_law_1035 rfl rfl ?_
        refine ph_iconst (v := (nI 1)) (pc := 1036) dL_law_1036 ph_ic_1 ?_
        refine ph_iadd (pc := 1037) dL_law_1037 ?_
        refine ph_sald (pc := 1038) dL_law_1038 rfl (fun v275 => ?_)
        refine ph_aload_n (i := 0) (pc := 1039) dL_law_1039 rfl rfl ?_
        refine ph_iload_n (i := 3) (pc := 1040) dL_law_1040 rfl rfl ?_
        refine ph_iconst (v := (nI 2)) (pc := 1041) dL_law_1041 ph_ic_2 ?_
        refine ph_iadd (pc := 1042) dL_law_1042 ?_
        refine ph_sald (pc := 1043) dL_law_1043 rfl (fun v276 => ?_)
        refine ph_aload_n (i := 0) (pc := 1044) dL_law_1044 rfl rfl ?_
        refine ph_iload_n (i := 3) (pc := 1045) dL_law_1045 rfl rfl ?_
        refine ph_iconst (v := (nI 3)) (pc := 1046) dL_law_1046 ph_ic_3 ?_
        refine ph_iadd (pc := 1047) dL_law_1047 ?_
        refine ph_sald (pc := 1048) dL_law_1048 rfl (fun v277 => ?_)
        refine ph_aload_n (i := 0) (pc := 1049) dL_law_1049 rfl rfl ?_
        refine ph_iload_n (i := 3) (pc := 1050) dL_law_1050 rfl rfl ?_
        refine ph_iconst (v := (nI 4)) (pc := 1051) dL_law_1051 ph_ic_4 ?_
        refine ph_iadd (pc := 1052) dL_law_1052 ?_
        refine ph_sald (pc := 1053) dL_law_1053 rfl (fun v278 => ?_)
        refine ph_callVi (pc := 1054) dL_law_1054 ph_mf_yX9_lay ph_ml_RL_134 ph_mi_yX9_lay ph_mv_yX9_lay rfl rfl (c_X9_lay Z (d - 1) (by omega) v275 v276 v277 v278 h274) (by omega) rfl rfl (Nat.le_of_ble_eq_true rfl) (fun v279 h280 => ?_)
        refine ph_icmp_eq (tgt := 1238) (pc := 1057) dL_law_1057 (by decide) (fun c281 => ?_) (fun c281 => ?_)
        · exact hj6 h280
        · refine ph_iconst (v := (nI 0)) (pc := 1060) dL_law_1060 ph_ic_0 ?_
          exact ph_zret (pc := 1061) dL_law_1061 rfl
      refine ph_ite (fun c282 => ?_) (fun c282 => ?_)
      · refine ph_tin (tgt := 1062) (v := (nI 29)) (pc := 33) dL_law_33 c282 (by decide) (by decide) rfl (by decide) ?_
        refine ph_aload_n (i := 1) (pc := 1062) dL_law_1062 rfl rfl ?_
        refine ph_aload_n (i := 0) (pc := 1063) dL_law_1063 rfl rfl ?_
        refine ph_iload_n (i := 3) (pc := 1064) dL_law_1064 rfl rfl ?_
        refine ph_iconst (v := (nI 1)) (pc := 1065) dL_law_1065 ph_ic_1 ?_
        refine ph_iadd (pc := 1066) dL_law_1066 ?_
        refine ph_sald (pc := 1067) dL_law_1067 rfl (fun v283 => ?_)
        refine ph_aload_n (i := 0) (pc := 1068) dL_law_1068 rfl rfl ?_
        refine ph_iload_n (i := 3) (pc := 1069) dL_law_1069 rfl rfl ?_
        refine ph_iconst (v := (nI 2)) (pc := 1070) dL_law_1070 ph_ic_2 ?_
        refine ph_iadd (pc := 1071) dL_law_1071 ?_
        refine ph_sald (pc := 1072) dL_law_1072 rfl (fun v284 => ?_)
        refine ph_aload_n (i := 0) (pc := 1073) dL_law_1073 rfl rfl ?_
        refine ph_iload_n (i := 3) (pc := 1074) dL_law_1074 rfl rfl ?_
        refine ph_iconst (v := (nI 3)) (pc := 1075) dL_law_1075 ph_ic_3 ?_
        refine ph_iadd (pc := 1076) dL_law_1076 ?_
        refine ph_sald (pc := 1077) dL_law_1077 rfl (fun v285 => ?_)
        refine ph_callVi (pc := 1078) dL_law_1078 ph_mf_yX8_get ph_ml_RL_135 ph_mi_yX8_get ph_mv_yX8_get rfl rfl (c_X8_get Z (d - 1) (by omega) v283 v284 v285 h3) (by omega) rfl rfl (Nat.le_of_ble_eq_true rfl) (fun v286 h287 => ?_)
        refine ph_aload_n (i := 2) (pc := 1081) dL_law_1081 rfl rfl ?_
        refine ph_aload_n (i := 0) (pc := 1082) dL_law_1082 rfl rfl ?_
        refine ph_iload_n (i := 3) (pc := 1083) dL_law_1083 rfl rfl ?_
        refine ph_iconst (v := (nI 1)) (pc := 1084) dL_law_1084 ph_ic_1 ?_
        refine ph_iadd (pc := 1085) dL_law_1085 ?_
        refine ph_sald (pc := 1086) dL_law_1086 rfl (fun v288 => ?_)
        refine ph_aload_n (i := 0) (pc := 1087) dL_law_1087 rfl rfl ?_
        refine ph_iload_n (i := 3) (pc := 1088) dL_law_1088 rfl rfl ?_
        refine ph_iconst (v := (nI 2)) (pc := 1089) dL_law_1089 ph_ic_2 ?_
        refine ph_iadd (pc := 1090) dL_law_1090 ?_
        refine ph_sald (pc := 1091) dL_law_1091 rfl (fun v289 => ?_)
        refine ph_aload_n (i := 0) (pc := 1092) dL_law_1092 rfl rfl ?_
        refine ph_iload_n (i := 3) (pc := 1093) dL_law_1093 rfl rfl ?_
        refine ph_iconst (v := (nI 3)) (pc := 1094) dL_law_1094 ph_ic_3 ?_
        refine ph_iadd (pc := 1095) dL_law_1095 ?_
        refine ph_sald (pc := 1096) dL_law_1096 rfl (fun v290 => ?_)
        refine ph_callVi (pc := 1097) dL_law_1097 ph_mf_yX9_get ph_ml_RL_138 ph_mi_yX9_get ph_mv_yX9_get rfl rfl (c_X9_get Z (d - 1) (by omega) v288 v289 v290 h287) (by omega) rfl rfl (Nat.le_of_ble_eq_true rfl) (fun v291 h292 => ?_)
        refine ph_icmp_eq (tgt := 1238) (pc := 1100) dL_law_1100 (by decide) (fun c293 => ?_) (fun c293 => ?_)
        · exact hj6 h292
        · refine ph_iconst (v := (nI 0)) (pc := 1103) dL_law_1103 ph_ic_0 ?_
          exact ph_zret (pc := 1104) dL_law_1104 rfl
      refine ph_ite (fun c294 => ?_) (fun c294 => ?_)
      · refine ph_tin (tgt := 1105) (v := (nI 30)) (pc := 33) dL_law_33 c294 (by decide) (by decide) rfl (by decide) ?_
        refine ph_aload_n (i := 1) (pc := 1105) dL_law_1105 rfl rfl ?_
        refine ph_aload_n (i := 0) (pc := 1106) dL_law_1106 rfl rfl ?_
        refine ph_iload_n (i := 3) (pc := 1107) dL_law_1107 rfl rfl ?_
        refine ph_iconst (v := (nI 1)) (pc := 1108) dL_law_1108 ph_ic_1 ?_
        refine ph_iadd (pc := 1109) dL_law_1109 ?_
        refine ph_sald (pc := 1110) dL_law_1110 rfl (fun v295 => ?_)
        refine ph_aload_n (i := 0) (pc := 1111) dL_law_1111 rfl rfl ?_
        refine ph_iload_n (i := 3) (pc := 1112) dL_law_1112 rfl rfl ?_
        refine ph_iconst (v := (nI 2)) (pc := 1113) dL_law_1113 ph_ic_2 ?_
        refine ph_iadd (pc := 1114) dL_law_1114 ?_
        refine ph_sald (pc := 1115) dL_law_1115 rfl (fun v296 => ?_)
        refine ph_aload_n (i := 0) (pc := 1116) dL_law_1116 rfl rfl ?_
        refine ph_iload_n (i := 3) (pc := 1117) dL_law_1117 rfl rfl ?_
        refine ph_iconst (v := (nI 3)) (pc := 1118) dL_law_1118 ph_ic_3 ?_
        refine ph_iadd (pc := 1119) dL_law_1119 ?_
        refine ph_sald (pc := 1120) dL_law_1120 rfl (fun v297 => ?_)
        refine ph_aload_n (i := 0) (pc := 1121) dL_law_1121 rfl rfl ?_
        refine ph_iload_n (i := 3) (pc := 1122) dL_law_1122 rfl rfl ?_
        refine ph_iconst (v := (nI 4)) (pc := 1123) dL_law_1123 ph_ic_4 ?_
        refine ph_iadd (pc := 1124) dL_law_1124 ?_
        refine ph_sald (pc := 1125) dL_law_1125 rfl (fun v298 => ?_)
        refine ph_aload_n (i := 0) (pc := 1126) dL_law_1126 rfl rfl ?_
        refine ph_iload_n (i := 3) (pc := 1127) dL_law_1127 rfl rfl ?_
        refine ph_iconst (v := (nI 5)) (pc := 1128) dL_law_1128 ph_ic_5 ?_
        refine ph_iadd (pc := 1129) dL_law_1129 ?_
        refine ph_sald (pc := 1130) dL_law_1130 rfl (fun v299 => ?_)
        refine ph_callVi (pc := 1131) dL_law_1131 ph_mf_yX8_copy ph_ml_RL_139 ph_mi_yX8_copy ph_mv_yX8_copy rfl rfl (c_X8_copy Z (d - 1) (by omega) v295 v296 v297 v298 v299 h3) (by omega) rfl rfl (Nat.le_of_ble_eq_true rfl) (fun v300 h301 => ?_)
        refine ph_aload_n (i := 2) (pc := 1134) dL_law_1134 rfl rfl ?_
        refine ph_aload_n (i := 0) (pc := 1135) dL_law_1135 rfl rfl ?_
        refine ph_iload_n (i := 3) (pc := 1136) dL_law_1136 rfl rfl ?_
        refine ph_iconst (v := (nI 1)) (pc := 1137) dL_law_1137 ph_ic_1 ?_
        refine ph_iadd (pc := 1138) dL_law_1138 ?_
        refine ph_sald (pc := 1139) dL_law_1139 rfl (fun v302 => ?_)
        refine ph_aload_n (i := 0) (pc := 1140) dL_law_1140 rfl rfl ?_
        refine ph_iload_n (i := 3) (pc := 1141) dL_law_1141 rfl rfl ?_
        refine ph_iconst (v := (nI 2)) (pc := 1142) dL_law_1142 ph_ic_2 ?_
        refine ph_iadd (pc := 1143) dL_law_1143 ?_
        refine ph_sald (pc := 1144) dL_law_1144 rfl (fun v303 => ?_)
        refine ph_aload_n (i := 0) (pc := 1145) dL_law_1145 rfl rfl ?_
        refine ph_iload_n (i := 3) (pc := 1146) dL_law_1146 rfl rfl ?_
        refine ph_iconst (v := (nI 3)) (pc := 1147) dL_law_1147 ph_ic_3 ?_
        refine ph_iadd (pc := 1148) dL_law_1148 ?_
        refine ph_sald (pc := 1149) dL_law_1149 rfl (fun v304 => ?_)
        refine ph_aload_n (i := 0) (pc := 1150) dL_law_1150 rfl rfl ?_
        refine ph_iload_n (i := 3) (pc := 1151) dL_law_1151 rfl rfl ?_
        refine ph_iconst (v := (nI 4)) (pc := 1152) dL_law_1152 ph_ic_4 ?_
        refine ph_iadd (pc := 1153) dL_law_1153 ?_
        refine ph_sald (pc := 1154) dL_law_1154 rfl (fun v305 => ?_)
        refine ph_aload_n (i := 0) (pc := 1155) dL_law_1155 rfl rfl ?_
        refine ph_iload_n (i := 3) (pc := 1156) dL_law_1156 rfl rfl ?_
        refine ph_iconst (v := (nI 5)) (pc := 1157) dL_law_1157 ph_ic_5 ?_
        refine ph_iadd (pc := 1158) dL_law_1158 ?_
        refine ph_sald (pc := 1159) dL_law_1159 rfl (fun v306 => ?_)
        refine ph_callVi (pc := 1160) dL_law_1160 ph_mf_yX9_copy ph_ml_RL_143 ph_mi_yX9_copy ph_mv_yX9_copy rfl rfl (c_X9_copy Z (d - 1) (by omega) v302 v303 v304 v305 v306 h301) (by omega) rfl rfl (Nat.le_of_ble_eq_true rfl) (fun v307 h308 => ?_)
        refine ph_icmp_eq (tgt := 1238) (pc := 1163) dL_law_1163 (by decide) (fun c309 => ?_) (fun c309 => ?_)
        · exact hj6 h308
        · refine ph_iconst (v := (nI 0)) (pc := 1166) dL_law_1166 ph_ic_0 ?_
          exact ph_zret (pc := 1167) dL_law_1167 rfl
      refine ph_ite (fun c310 => ?_) (fun c310 => ?_)
      · refine ph_tin (tgt := 1168) (v := (nI 31)) (pc := 33) dL_law_33 c310 (by decide) (by decide) rfl (by decide) ?_
        refine ph_aload_n (i := 1) (pc := 1168) dL_law_1168 rfl rfl ?_
        refine ph_aload_n (i := 0) (pc := 1169) dL_law_1169 rfl rfl ?_
        refine ph_iload_n (i := 3) (pc := 1170) dL_law_1170 rfl rfl ?_
        refine ph_iconst (v := (nI 1)) (pc := 1171) dL_law_1171 ph_ic_1 ?_
        refine ph_iadd (pc := 1172) dL_law_1172 ?_
        refine ph_sald (pc := 1173) dL_law_1173 rfl (fun v311 => ?_)
        refine ph_aload_n (i := 0) (pc := 1174) dL_law_1174 rfl rfl ?_
        refine ph_iload_n (i := 3) (pc := 1175) dL_law_1175 rfl rfl ?_
        refine ph_iconst (v := (nI 2)) (pc := 1176) dL_law_1176 ph_ic_2 ?_
        refine ph_iadd (pc := 1177) dL_law_1177 ?_
        refine ph_sald (pc := 1178) dL_law_1178 rfl (fun v312 => ?_)
        refine ph_callVi (pc := 1179) dL_law_1179 ph_mf_yX8_write ph_ml_RL_144 ph_mi_yX8_write ph_mv_yX8_write rfl rfl (c_X8_write Z (d - 1) (by omega) v311 v312 h3) (by omega) rfl rfl (Nat.le_of_ble_eq_true rfl) (fun v313 h314 => ?_)
        refine ph_aload_n (i := 2) (pc := 1182) dL_law_1182 rfl rfl ?_
        refine ph_aload_n (i := 0) (pc := 1183) dL_law_1183 rfl rfl ?_
        refine ph_iload_n (i := 3) (pc := 1184) dL_law_1184 rfl rfl ?_
        refine ph_iconst (v := (nI 1)) (pc := 1185) dL_law_1185 ph_ic_1 ?_
        refine ph_iadd (pc := 1186) dL_law_1186 ?_
        refine ph_sald (pc := 1187) dL_law_1187 rfl (fun v315 => ?_)
        refine ph_aload_n (i := 0) (pc := 1188) dL_law_1188 rfl rfl ?_
        refine ph_iload_n (i := 3) (pc := 1189) dL_law_1189 rfl rfl ?_
        refine ph_iconst (v := (nI 2)) (pc := 1190) dL_law_1190 ph_ic_2 ?_
        refine ph_iadd (pc := 1191) dL_law_1191 ?_
        refine ph_sald (pc := 1192) dL_law_1192 rfl (fun v316 => ?_)
        refine ph_callVi (pc := 1193) dL_law_1193 ph_mf_yX9_write ph_ml_RL_147 ph_mi_yX9_write ph_mv_yX9_write rfl rfl (c_X9_write Z (d - 1) (by omega) v315 v316 h314) (by omega) rfl rfl (Nat.le_of_ble_eq_true rfl) (fun v317 h318 => ?_)
        refine ph_icmp_eq (tgt := 1238) (pc := 1196) dL_law_1196 (by decide) (fun c319 => ?_) (fun c319 => ?_)
        · exact hj6 h318
        · refine ph_iconst (v := (nI 0)) (pc := 1199) dL_law_1199 ph_ic_0 ?_
          exact ph_zret (pc := 1200) dL_law_1200 rfl
      refine ph_ite (fun c320 => ?_) (fun c320 => ?_)
      · refine ph_tin (tgt := 1201) (v := (nI 32)) (pc := 33) dL_law_33 c320 (by decide) (by decide) rfl (by decide) ?_
        refine ph_aload_n (i := 1) (pc := 1201) dL_law_1201 rfl rfl ?_
        refine ph_aload_n (i := 0) (pc := 1202) dL_law_1202 rfl rfl ?_
        refine ph_iload_n (i := 3) (pc := 1203) dL_law_1203 rfl rfl ?_
        refine ph_iconst (v := (nI 1)) (pc := 1204) dL_law_1204 ph_ic_1 ?_
        refine ph_iadd (pc := 1205) dL_law_1205 ?_
        refine ph_sald (pc := 1206) dL_law_1206 rfl (fun v321 => ?_)
        refine ph_callVi (pc := 1207) dL_law_1207 ph_mf_yX8_count ph_ml_RL_148 ph_mi_yX8_count ph_mv_yX8_count rfl rfl (c_X8_count Z (d - 1) (by omega) v321 h3) (by omega) rfl rfl (Nat.le_of_ble_eq_true rfl) (fun v322 h323 => ?_)
        refine ph_aload_n (i := 2) (pc := 1210) dL_law_1210 rfl rfl ?_
        refine ph_aload_n (i := 0) (pc := 1211) dL_law_1211 rfl rfl ?_
        refine ph_iload_n (i := 3) (pc := 1212) dL_law_1212 rfl rfl ?_
        refine ph_iconst (v := (nI 1)) (pc := 1213) dL_law_1213 ph_ic_1 ?_
        refine ph_iadd (pc := 1214) dL_law_1214 ?_
        refine ph_sald (pc := 1215) dL_law_1215 rfl (fun v324 => ?_)
        refine ph_callVi (pc := 1216) dL_law_1216 ph_mf_yX9_count ph_ml_RL_151 ph_mi_yX9_count ph_mv_yX9_count rfl rfl (c_X9_count Z (d - 1) (by omega) v324 h323) (by omega) rfl rfl (Nat.le_of_ble_eq_true rfl) (fun v325 h326 => ?_)
        refine ph_icmp_eq (tgt := 1238) (pc := 1219) dL_law_1219 (by decide) (fun c327 => ?_) (fun c327 => ?_)
        · exact hj6 h326
        · refine ph_iconst (v := (nI 0)) (pc := 1222) dL_law_1222 ph_ic_0 ?_
          exact ph_zret (pc := 1223) dL_law_1223 rfl
      refine ph_ite (fun c328 => ?_) (fun c328 => ?_)
      · refine ph_tin (tgt := 1224) (v := (nI 33)) (pc := 33) dL_law_33 c328 (by decide) (by decide) rfl (by decide) ?_
        refine ph_aload_n (i := 1) (pc := 1224) dL_law_1224 rfl rfl ?_
        refine ph_callVl (pc := 1225) dL_law_1225 ph_mf_yX8_digest ph_ml_RL_152 ph_mi_yX8_digest ph_mv_yX8_digest rfl rfl (c_X8_digest Z (d - 1) (by omega) h3) (by omega) rfl rfl (Nat.le_of_ble_eq_true rfl) (fun v329 h330 => ?_)
        refine ph_aload_n (i := 2) (pc := 1228) dL_law_1228 rfl rfl ?_
        refine ph_callVl (pc := 1229) dL_law_1229 ph_mf_yX9_digest ph_ml_RL_156 ph_mi_yX9_digest ph_mv_yX9_digest rfl rfl (c_X9_digest Z (d - 1) (by omega) h330) (by omega) rfl rfl (Nat.le_of_ble_eq_true rfl) (fun v331 h332 => ?_)
        refine ph_lcmp (pc := 1232) dL_law_1232 ?_
        refine ph_if_eq (tgt := 1238) (pc := 1233) dL_law_1233 (by decide) (fun c333 => ?_) (fun c333 => ?_)
        · exact hj6 h332
        · refine ph_iconst (v := (nI 0)) (pc := 1236) dL_law_1236 ph_ic_0 ?_
          exact ph_zret (pc := 1237) dL_law_1237 rfl
      refine ph_tout (tgt := 1238) (pc := 33) dL_law_33 (by
        have := lv_neT (a := 0) c8 (by decide)
        have := lv_neT (a := 1) c18 (by decide)
        have := lv_neT (a := 2) c26 (by decide)
        have := lv_neT (a := 3) c34 (by decide)
        have := lv_neT (a := 4) c42 (by decide)
        have := lv_neT (a := 5) c50 (by decide)
        have := lv_neT (a := 6) c60 (by decide)
        have := lv_neT (a := 7) c70 (by decide)
        have := lv_neT (a := 8) c80 (by decide)
        have := lv_neT (a := 9) c90 (by decide)
        have := lv_neT (a := 10) c98 (by decide)
        have := lv_neT (a := 11) c106 (by decide)
        have := lv_neT (a := 12) c114 (by decide)
        have := lv_neT (a := 13) c124 (by decide)
        have := lv_neT (a := 14) c134 (by decide)
        have := lv_neT (a := 15) c142 (by decide)
        have := lv_neT (a := 16) c148 (by decide)
        have := lv_neT (a := 17) c158 (by decide)
        have := lv_neT (a := 18) c168 (by decide)
        have := lv_neT (a := 19) c182 (by decide)
        have := lv_neT (a := 20) c192 (by decide)
        have := lv_neT (a := 21) c198 (by decide)
        have := lv_neT (a := 22) c204 (by decide)
        have := lv_neT (a := 23) c212 (by decide)
        have := lv_neT (a := 24) c220 (by decide)
        have := lv_neT (a := 25) c236 (by decide)
        have := lv_neT (a := 26) c248 (by decide)
        have := lv_neT (a := 27) c260 (by decide)
        have := lv_neT (a := 28) c268 (by decide)
        have := lv_neT (a := 29) c282 (by decide)
        have := lv_neT (a := 30) c294 (by decide)
        have := lv_neT (a := 31) c310 (by decide)
        have := lv_neT (a := 32) c320 (by decide)
        have := lv_neT (a := 33) c328 (by decide)
        omega) (by decide) ?_
      exact hj6 h3
