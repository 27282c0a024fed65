def qX4_reckon_18  (y1 : Int32) (y2 : Int32) (y3 : Int32) (y4 : Int32) (y5 : Int32) (y6 : Int32) : Nat → Int32 → Int32 → ps_S → Option (((Int32 × Int32)) × ps_S)
  | 0, _, _, _ => none
  | n + 1, x8, x9, σ =>
    if y2 ≤ x9 then
    some ((x8, x9), σ)
    else
    if 900 ≤ x9 then
    some ((x8, x9), σ)
    else
    if ps_in x9 900 = true then
    ps_let (σ.1 (12 + 8) (x9).toNatClampNeg) fun v3 =>
    if v3 = 1005 then
    if x8 < 3 then
    if v3 = 1004 then
    if x8 < 1 then
    if v3 < 1006 then
    if 100 ≤ x8 then
    ps_let (x9 + 1) fun v215 =>
    qX4_reckon_18 y1 y2 y3 y4 y5 y6 n x8 v215 σ
    else
    if v3 = 1000 then
    if ps_in x8 100 = true then
    ps_let (ps_rI σ 25 (upd (σ.1 25) (x8).toNatClampNeg ((y3 - y3 / 100 * 100)))) fun σ236 =>
    ps_let (x8 + 1) fun v237 =>
    ps_let (x9 + 1) fun v238 =>
    qX4_reckon_18 y1 y2 y3 y4 y5 y6 n v237 v238 σ236
    else none
    else
    if v3 = 1001 then
    if ps_in x8 100 = true then
    ps_let (ps_rI σ 25 (upd (σ.1 25) (x8).toNatClampNeg y4)) fun σ232 =>
    ps_let (x8 + 1) fun v233 =>
    ps_let (x9 + 1) fun v234 =>
    qX4_reckon_18 y1 y2 y3 y4 y5 y6 n v233 v234 σ232
    else none
    else
    if v3 = 1002 then
    if ps_in x8 100 = true then
    ps_let (ps_rI σ 25 (upd (σ.1 25) (x8).toNatClampNeg y5)) fun σ228 =>
    ps_let (x8 + 1) fun v229 =>
    ps_let (x9 + 1) fun v230 =>
    qX4_reckon_18 y1 y2 y3 y4 y5 y6 n v229 v230 σ228
    else none
    else
    if v3 = 1003 then
    if ps_in x8 100 = true then
    ps_let (ps_rI σ 25 (upd (σ.1 25) (x8).toNatClampNeg y6)) fun σ224 =>
    ps_let (x8 + 1) fun v225 =>
    ps_let (x9 + 1) fun v226 =>
    qX4_reckon_18 y1 y2 y3 y4 y5 y6 n v225 v226 σ224
    else none
    else
    if ps_in x8 100 = true then
    ps_let (ps_rI σ 25 (upd (σ.1 25) (x8).toNatClampNeg v3)) fun σ220 =>
    ps_let (x8 + 1) fun v221 =>
    ps_let (x9 + 1) fun v222 =>
    qX4_reckon_18 y1 y2 y3 y4 y5 y6 n v221 v222 σ220
    else none
    else
    if x8 < 2 then
    if 100 ≤ x8 then
    ps_let (x9 + 1) fun v242 =>
    qX4_reckon_18 y1 y2 y3 y4 y5 y6 n x8 v242 σ
    else
    if v3 = 1000 then
    if ps_in x8 100 = true then
    ps_let (ps_rI σ 25 (upd (σ.1 25) (x8).toNatClampNeg ((y3 - y3 / 100 * 100)))) fun σ263 =>
    ps_let (x8 + 1) fun v264 =>
    ps_let (x9 + 1) fun v265 =>
    qX4_reckon_18 y1 y2 y3 y4 y5 y6 n v264 v265 σ263
    else none
    else
    if v3 = 1001 then
    if ps_in x8 100 = true then
    ps_let (ps_rI σ 25 (upd (σ.1 25) (x8).toNatClampNeg y4)) fun σ259 =>
    ps_let (x8 + 1) fun v260 =>
    ps_let (x9 + 1) fun v261 =>
    qX4_reckon_18 y1 y2 y3 y4 y5 y6 n v260 v261 σ259
    else none
    else
    if v3 = 1002 then
    if ps_in x8 100 = true then
    ps_let (ps_rI σ 25 (upd (σ.1 25) (x8).toNatClampNeg y5)) fun σ255 =>
    ps_let (x8 + 1) fun v256 =>
    ps_let (x9 + 1) fun v257 =>
    qX4_reckon_18 y1 y2 y3 y4 y5 y6 n v256 v257 σ255
    else none
    else
    if v3 = 1003 then
    if ps_in x8 100 = true then
    ps_let (ps_rI σ 25 (upd (σ.1 25) (x8).toNatClampNeg y6)) fun σ251 =>
    ps_let (x8 + 1) fun v252 =>
    ps_let (x9 + 1) fun v253 =>
    qX4_reckon_18 y1 y2 y3 y4 y5 y6 n v252 v253 σ251
    else none
    else
    if ps_in x8 100 = true then
    ps_let (ps_rI σ 25 (upd (σ.1 25) (x8).toNatClampNeg v3)) fun σ247 =>
    ps_let (x8 + 1) fun v248 =>
    ps_let (x9 + 1) fun v249 =>
    qX4_reckon_18 y1 y2 y3 y4 y5 y6 n v248 v249 σ247
    else none
    else
    ps_let (x8 + (-1)) fun v267 =>
    if ps_in ((v267 - 1)) 100 = true then
    ps_let (σ.1 25 ((v267 - 1)).toNatClampNeg) fun v268 =>
    if ps_in v267 100 = true then
    ps_let (σ.1 25 (v267).toNatClampNeg) fun v269 =>
    ps_bd (qX4_join v3 (((v268).toInt64)) (((v269).toInt64)) σ) (fun v270 σ271 =>
    ps_bd (qX4_kept v270 σ271) (fun v272 σ273 =>
    if ps_in ((v267 - 1)) 100 = true then
    ps_let (ps_rI σ273 25 (upd (σ273.1 25) ((v267 - 1)).toNatClampNeg v272)) fun σ274 =>
    ps_let (x9 + 1) fun v275 =>
    qX4_reckon_18 y1 y2 y3 y4 y5 y6 n v267 v275 σ274
    else none))
    else none
    else none
    else
    if ps_in ((x8 - 1)) 100 = true then
    ps_let (σ.1 25 ((x8 - 1)).toNatClampNeg) fun v279 =>
    if ps_in ((x8 - 1)) 100 = true then
    ps_let (ps_rI σ 25 (upd (σ.1 25) ((x8 - 1)).toNatClampNeg ((1 - v279)))) fun σ280 =>
    ps_let (x9 + 1) fun v281 =>
    qX4_reckon_18 y1 y2 y3 y4 y5 y6 n x8 v281 σ280
    else none
    else none
    else
    if v3 < 1006 then
    if 100 ≤ x8 then
    ps_let (x9 + 1) fun v148 =>
    qX4_reckon_18 y1 y2 y3 y4 y5 y6 n x8 v148 σ
    else
    if v3 = 1000 then
    if ps_in x8 100 = true then
    ps_let (ps_rI σ 25 (upd (σ.1 25) (x8).toNatClampNeg ((y3 - y3 / 100 * 100)))) fun σ169 =>
    ps_let (x8 + 1) fun v170 =>
    ps_let (x9 + 1) fun v171 =>
    qX4_reckon_18 y1 y2 y3 y4 y5 y6 n v170 v171 σ169
    else none
    else
    if v3 = 1001 then
    if ps_in x8 100 = true then
    ps_let (ps_rI σ 25 (upd (σ.1 25) (x8).toNatClampNeg y4)) fun σ165 =>
    ps_let (x8 + 1) fun v166 =>
    ps_let (x9 + 1) fun v167 =>
    qX4_reckon_18 y1 y2 y3 y4 y5 y6 n v166 v167 σ165
    else none
    else
    if v3 = 1002 then
    if ps_in x8 100 = true then
    ps_let (ps_rI σ 25 (upd (σ.1 25) (x8).toNatClampNeg y5)) fun σ161 =>
    ps_let (x8 + 1) fun v162 =>
    ps_let (x9 + 1) fun v163 =>
    qX4_reckon_18 y1 y2 y3 y4 y5 y6 n v162 v163 σ161
    else none
    else
    if v3 = 1003 then
    if ps_in x8 100 = true then
    ps_let (ps_rI σ 25 (upd (σ.1 25) (x8).toNatClampNeg y6)) fun σ157 =>
    ps_let (x8 + 1) fun v158 =>
    ps_let (x9 + 1) fun v159 =>
    qX4_reckon_18 y1 y2 y3 y4 y5 y6 n v158 v159 σ157
    else none
    else
    if ps_in x8 100 = true then
    ps_let (ps_rI σ 25 (upd (σ.1 25) (x8).toNatClampNeg v3)) fun σ153 =>
    ps_let (x8 + 1) fun v154 =>
    ps_let (x9 + 1) fun v155 =>
    qX4_reckon_18 y1 y2 y3 y4 y5 y6 n v154 v155 σ153
    else none
    else
    if x8 < 2 then
    if 100 ≤ x8 then
    ps_let (x9 + 1) fun v175 =>
    qX4_reckon_18 y1 y2 y3 y4 y5 y6 n x8 v175 σ
    else
    if v3 = 1000 then
    if ps_in x8 100 = true then
    ps_let (ps_rI σ 25 (upd (σ.1 25) (x8).toNatClampNeg ((y3 - y3 / 100 * 100)))) fun σ196 =>
    ps_let (x8 + 1) fun v197 =>
    ps_let (x9 + 1) fun v198 =>
    qX4_reckon_18 y1 y2 y3 y4 y5 y6 n v197 v198 σ196
    else none
    else
    if v3 = 1001 then
    if ps_in x8 100 = true then
    ps_let (ps_rI σ 25 (upd (σ.1 25) (x8).toNatClampNeg y4)) fun σ192 =>
    ps_let (x8 + 1) fun v193 =>
    ps_let (x9 + 1) fun v194 =>
    qX4_reckon_18 y1 y2 y3 y4 y5 y6 n v193 v194 σ192
    else none
    else
    if v3 = 1002 then
    if ps_in x8 100 = true then
    ps_let (ps_rI σ 25 (upd (σ.1 25) (x8).toNatClampNeg y5)) fun σ188 =>
    ps_let (x8 + 1) fun v189 =>
    ps_let (x9 + 1) fun v190 =>
    qX4_reckon_18 y1 y2 y3 y4 y5 y6 n v189 v190 σ188
    else none
    else
    if v3 = 1003 then
    if ps_in x8 100 = true then
    ps_let (ps_rI σ 25 (upd (σ.1 25) (x8).toNatClampNeg y6)) fun σ184 =>
    ps_let (x8 + 1) fun v185 =>
    ps_let (x9 + 1) fun v186 =>
    qX4_reckon_18 y1 y2 y3 y4 y5 y6 n v185 v186 σ184
    else none
    else
    if ps_in x8 100 = true then
    ps_let (ps_rI σ 25 (upd (σ.1 25) (x8).toNatClampNeg v3)) fun σ180 =>
    ps_let (x8 + 1) fun v181 =>
    ps_let (x9 + 1) fun v182 =>
    qX4_reckon_18 y1 y2 y3 y4 y5 y6 n v181 v182 σ180
    else none
    else
    ps_let (x8 + (-1)) fun v200 =>
    if ps_in ((v200 - 1)) 100 = true then
    ps_let (σ.1 25 ((v200 - 1)).toNatClampNeg) fun v201 =>
    if ps_in v200 100 = true then
    ps_let (σ.1 25 (v200).toNatClampNeg) fun v202 =>
    ps_bd (qX4_join v3 (((v201).toInt64)) (((v202).toInt64)) σ) (fun v203 σ204 =>
    ps_bd (qX4_kept v203 σ204) (fun v205 σ206 =>
    if ps_in ((v200 - 1)) 100 = true then
    ps_let (ps_rI σ206 25 (upd (σ206.1 25) ((v200 - 1)).toNatClampNeg v205)) fun σ207 =>
    ps_let (x9 + 1) fun v208 =>
    qX4_reckon_18 y1 y2 y3 y4 y5 y6 n v200 v208 σ207
    else none))
    else none
    else none
    else
    ps_let (x8 + (-2)) fun v284 =>
    if ps_in ((v284 - 1)) 100 = true then
    ps_let (σ.1 25 ((v284 - 1)).toNatClampNeg) fun v285 =>
    if v285 = 0 then
    if ps_in ((v284 + 1)) 100 = true then
    ps_let (σ.1 25 ((v284 + 1)).toNatClampNeg) fun v287 =>
    if ps_in ((v284 - 1)) 100 = true then
    ps_let (ps_rI σ 25 (upd (σ.1 25) ((v284 - 1)).toNatClampNeg v287)) fun σ288 =>
    ps_let (x9 + 1) fun v289 =>
    qX4_reckon_18 y1 y2 y3 y4 y5 y6 n v284 v289 σ288
    else none
    else none
    else
    if ps_in v284 100 = true then
    ps_let (σ.1 25 (v284).toNatClampNeg) fun v292 =>
    if ps_in ((v284 - 1)) 100 = true then
    ps_let (ps_rI σ 25 (upd (σ.1 25) ((v284 - 1)).toNatClampNeg v292)) fun σ293 =>
    ps_let (x9 + 1) fun v294 =>
    qX4_reckon_18 y1 y2 y3 y4 y5 y6 n v284 v294 σ293
    else none
    else none
    else none
    else
    if v3 = 1004 then
    if x8 < 1 then
    if v3 < 1006 then
    if 100 ≤ x8 then
    ps_let (x9 + 1) fun v75 =>
    qX4_reckon_18 y1 y2 y3 y4 y5 y6 n x8 v75 σ
    else
    if v3 = 1000 then
    if ps_in x8 100 = true then
    ps_let (ps_rI σ 25 (upd (σ.1 25) (x8).toNatClampNeg ((y3 - y3 / 100 * 100)))) fun σ96 =>
    ps_let (x8 + 1) fun v97 =>
    ps_let (x9 + 1) fun v98 =>
    qX4_reckon_18 y1 y2 y3 y4 y5 y6 n v97 v98 σ96
    else none
    else
    if v3 = 1001 then
    if ps_in x8 100 = true then
    ps_let (ps_rI σ 25 (upd (σ.1 25) (x8).toNatClampNeg y4)) fun σ92 =>
    ps_let (x8 + 1) fun v93 =>
    ps_let (x9 + 1) fun v94 =>
    qX4_reckon_18 y1 y2 y3 y4 y5 y6 n v93 v94 σ92
    else none
    else
    if v3 = 1002 then
    if ps_in x8 100 = true then
    ps_let (ps_rI σ 25 (upd (σ.1 25) (x8).toNatClampNeg y5)) fun σ88 =>
    ps_let (x8 + 1) fun v89 =>
    ps_let (x9 + 1) fun v90 =>
    qX4_reckon_18 y1 y2 y3 y4 y5 y6 n v89 v90 σ88
    else none
    else
    if v3 = 1003 then
    if ps_in x8 100 = true then
    ps_let (ps_rI σ 25 (upd (σ.1 25) (x8).toNatClampNeg y6)) fun σ84 =>
    ps_let (x8 + 1) fun v85 =>
    ps_let (x9 + 1) fun v86 =>
    qX4_reckon_18 y1 y2 y3 y4 y5 y6 n v85 v86 σ84
    else none
    else
    if ps_in x8 100 = true then
    ps_let (ps_rI σ 25 (upd (σ.1 25) (x8).toNatClampNeg v3)) fun σ80 =>
    ps_let (x8 + 1) fun v81 =>
    ps_let (x9 + 1) fun v82 =>
    qX4_reckon_18 y1 y2 y3 y4 y5 y6 n v81 v82 σ80
    else none
    else
    if x8 < 2 then
    if 100 ≤ x8 then
    ps_let (x9 + 1) fun v102 =>
    qX4_reckon_18 y1 y2 y3 y4 y5 y6 n x8 v102 σ
    else
    if v3 = 1000 then
    if ps_in x8 100 = true then
    ps_let (ps_rI σ 25 (upd (σ.1 25) (x8).toNatClampNeg ((y3 - y3 / 100 * 100)))) fun σ123 =>
    ps_let (x8 + 1) fun v124 =>
    ps_let (x9 + 1) fun v125 =>
    qX4_reckon_18 y1 y2 y3 y4 y5 y6 n v124 v125 σ123
    else none
    else
    if v3 = 1001 then
    if ps_in x8 100 = true then
    ps_let (ps_rI σ 25 (upd (σ.1 25) (x8).toNatClampNeg y4)) fun σ119 =>
    ps_let (x8 + 1) fun v120 =>
    ps_let (x9 + 1) fun v121 =>
    qX4_reckon_18 y1 y2 y3 y4 y5 y6 n v120 v121 σ119
    else none
    else
    if v3 = 1002 then
    if ps_in x8 100 = true then
    ps_let (ps_rI σ 25 (upd (σ.1 25) (x8).toNatClampNeg y5)) fun σ115 =>
    ps_let (x8 + 1) fun v116 =>
    ps_let (x9 + 1) fun v117 =>
    qX4_reckon_18 y1 y2 y3 y4 y5 y6 n v116 v117 σ115
    else none
    else
    if v3 = 1003 then
    if ps_in x8 100 = true then
    ps_let (ps_rI σ 25 (upd (σ.1 25) (x8).toNatClampNeg y6)) fun σ111 =>
    ps_let (x8 + 1) fun v112 =>
    ps_let (x9 + 1) fun v113 =>
    qX4_reckon_18 y1 y2 y3 y4 y5 y6 n v112 v113 σ111
    else none
    else
    if ps_in x8 100 = true then
    ps_let (ps_rI σ 25 (upd (σ.1 25) (x8).toNatClampNeg v3)) fun σ107 =>
    ps_let (x8 + 1) fun v108 =>
    ps_let (x9 + 1) fun v109 =>
    qX4_reckon_18 y1 y2 y3 y4 y5 y6 n v108 v109 σ107
    else none
    else
    ps_let (x8 + (-1)) fun v127 =>
    if ps_in ((v127 - 1)) 100 = true then
    ps_let (σ.1 25 ((v127 - 1)).toNatClampNeg) fun v128 =>
    if ps_in v127 100 = true then
    ps_let (σ.1 25 (v127).toNatClampNeg) fun v129 =>
    ps_bd (qX4_join v3 (((v128).toInt64)) (((v129).toInt64)) σ) (fun v130 σ131 =>
    ps_bd (qX4_kept v130 σ131) (fun v132 σ133 =>
    if ps_in ((v127 - 1)) 100 = true then
    ps_let (ps_rI σ133 25 (upd (σ133.1 25) ((v127 - 1)).toNatClampNeg v132)) fun σ134 =>
    ps_let (x9 + 1) fun v135 =>
    qX4_reckon_18 y1 y2 y3 y4 y5 y6 n v127 v135 σ134
    else none))
    else none
    else none
    else
    if ps_in ((x8 - 1)) 100 = true then
    ps_let (σ.1 25 ((x8 - 1)).toNatClampNeg) fun v139 =>
    if ps_in ((x8 - 1)) 100 = true then
    ps_let (ps_rI σ 25 (upd (σ.1 25) ((x8 - 1)).toNatClampNeg ((1 - v139)))) fun σ140 =>
    ps_let (x9 + 1) fun v141 =>
    qX4_reckon_18 y1 y2 y3 y4 y5 y6 n x8 v141 σ140
    else none
    else none
    else
    if v3 < 1006 then
    if 100 ≤ x8 then
    ps_let (x9 + 1) fun v8 =>
    qX4_reckon_18 y1 y2 y3 y4 y5 y6 n x8 v8 σ
    else
    if v3 = 1000 then
    if ps_in x8 100 = true then
    ps_let (ps_rI σ 25 (upd (σ.1 25) (x8).toNatClampNeg ((y3 - y3 / 100 * 100)))) fun σ29 =>
    ps_let (x8 + 1) fun v30 =>
    ps_let (x9 + 1) fun v31 =>
    qX4_reckon_18 y1 y2 y3 y4 y5 y6 n v30 v31 σ29
    else none
    else
    if v3 = 1001 then
    if ps_in x8 100 = true then
    ps_let (ps_rI σ 25 (upd (σ.1 25) (x8).toNatClampNeg y4)) fun σ25 =>
    ps_let (x8 + 1) fun v26 =>
    ps_let (x9 + 1) fun v27 =>
    qX4_reckon_18 y1 y2 y3 y4 y5 y6 n v26 v27 σ25
    else none
    else
    if v3 = 1002 then
    if ps_in x8 100 = true then
    ps_let (ps_rI σ 25 (upd (σ.1 25) (x8).toNatClampNeg y5)) fun σ21 =>
    ps_let (x8 + 1) fun v22 =>
    ps_let (x9 + 1) fun v23 =>
    qX4_reckon_18 y1 y2 y3 y4 y5 y6 n v22 v23 σ21
    else none
    else
    if v3 = 1003 then
    if ps_in x8 100 = true then
    ps_let (ps_rI σ 25 (upd (σ.1 25) (x8).toNatClampNeg y6)) fun σ17 =>
    ps_let (x8 + 1) fun v18 =>
    ps_let (x9 + 1) fun v19 =>
    qX4_reckon_18 y1 y2 y3 y4 y5 y6 n v18 v19 σ17
    else none
    else
    if ps_in x8 100 = true then
    ps_let (ps_rI σ 25 (upd (σ.1 25) (x8).toNatClampNeg v3)) fun σ13 =>
    ps_let (x8 + 1) fun v14 =>
    ps_let (x9 + 1) fun v15 =>
    qX4_reckon_18 y1 y2 y3 y4 y5 y6 n v14 v15 σ13
    else none
    else
    if x8 < 2 then
    if 100 ≤ x8 then
    ps_let (x9 + 1) fun v35 =>
    qX4_reckon_18 y1 y2 y3 y4 y5 y6 n x8 v35 σ
    else
    if v3 = 1000 then
    if ps_in x8 100 = true then
    ps_let (ps_rI σ 25 (upd (σ.1 25) (x8).toNatClampNeg ((y3 - y3 / 100 * 100)))) fun σ56 =>
    ps_let (x8 + 1) fun v57 =>
    ps_let (x9 + 1) fun v58 =>
    qX4_reckon_18 y1 y2 y3 y4 y5 y6 n v57 v58 σ56
    else none
    else
    if v3 = 1001 then
    if ps_in x8 100 = true then
    ps_let (ps_rI σ 25 (upd (σ.1 25) (x8).toNatClampNeg y4)) fun σ52 =>
    ps_let (x8 + 1) fun v53 =>
    ps_let (x9 + 1) fun v54 =>
    qX4_reckon_18 y1 y2 y3 y4 y5 y6 n v53 v54 σ52
    else none
    else
    if v3 = 1002 then
    if ps_in x8 100 = true then
    ps_let (ps_rI σ 25 (upd (σ.1 25) (x8).toNatClampNeg y5)) fun σ48 =>
    ps_let (x8 + 1) fun v49 =>
    ps_let (x9 + 1) fun v50 =>
    qX4_reckon_18 y1 y2 y3 y4 y5 y6 n v49 v50 σ48
    else none
    else
    if v3 = 1003 then
    if ps_in x8 100 = true then
    ps_let (ps_rI σ 25 (upd (σ.1 25) (x8).toNatClampNeg y6)) fun σ44 =>
    ps_let (x8 + 1) fun v45 =>
    ps_let (x9 + 1) fun v46 =>
    qX4_reckon_18 y1 y2 y3 y4 y5 y6 n v45 v46 σ44
    else none
    else
    if ps_in x8 100 = true then
    ps_let (ps_rI σ 25 (upd (σ.1 25) (x8).toNatClampNeg v3)) fun σ40 =>
    ps_let (x8 + 1) fun v41 =>
    ps_let (x9 + 1) fun v42 =>
    qX4_reckon_18 y1 y2 y3 y4 y5 y6 n v41 v42 σ40
    else none
    else
    ps_let (x8 + (-1)) fun v60 =>
    if ps_in ((v60 - 1)) 100 = true then
    ps_let (σ.1 25 ((v60 - 1)).toNatClampNeg) fun v61 =>
    if ps_in v60 100 = true then
    ps_let (σ.1 25 (v60).toNatClampNeg) fun v62 =>
    ps_bd (qX4_join v3 (((v61).toInt64)) (((v62).toInt64)) σ) (fun v63 σ64 =>
    ps_bd (qX4_kept v63 σ64) (fun v65 σ66 =>
    if ps_in ((v60 - 1)) 100 = true then
    ps_let (ps_rI σ66 25 (upd (σ66.1 25) ((v60 - 1)).toNatClampNeg v65)) fun σ67 =>
    ps_let (x9 + 1) fun v68 =>
    qX4_reckon_18 y1 y2 y3 y4 y5 y6 n v60 v68 σ67
    else none))
    else none
    else none
    else none
set_option maxRecDepth 100000 in
theorem L_X4_reckon_18 {g : pm_G} (D : Nat) (hD : 2 ≤ D) {P : Int32 → ps_S → Prop}  (y1 : Int32) (y2 : Int32) (y3 : Int32) (y4 : Int32) (y5 : Int32) (y6 : Int32) : ∀ (n : Nat) (x8 : Int32) (x9 : Int32) (σ : ps_S), ps_ok (qX4_reckon_18 y1 y2 y3 y4 y5 y6 n x8 x9 σ) (fun res σ => match res with | (x8, x9) => pm_W g mX4_reckon (ps_F g D (ps_qI P)) 0 0 270 [some (.ref (g.2.2.1 + 22)), some (.int y1), some (.int y2), some (.int y3), some (.int y4), some (.int y5), some (.int y6), some (.ref (g.2.2.1 + (12 + 8))), some (.int x8), some (.int x9), none] [] 345 (ps_E g σ)) → pm_W g mX4_reckon (ps_F g D (ps_qI P)) 0 0 18 [some (.ref (g.2.2.1 + 22)), some (.int y1), some (.int y2), some (.int y3), some (.int y4), some (.int y5), some (.int y6), some (.ref (g.2.2.1 + (12 + 8))), some (.int x8), some (.int x9), none] [] 345 (ps_E g σ) := by
  intro n
  induction n with
  | zero => intro x8 x9 σ hK; exact (ps_no hK).elim
  | succ n ih =>
    intro x8 x9 σ hK
    rw [qX4_reckon_18] at hK
    refine pm_ild d_X4_reckon_18 rfl ?_
    refine pm_ild d_X4_reckon_20 rfl ?_
    refine pm_icmp_ge d_X4_reckon_21 (fun c1 => ?_) (fun c1 => ?_)
    · replace hK := ps_ifT c1 hK
      exact ps_so hK
    · replace hK := ps_ifF c1 hK
      refine pm_ild d_X4_reckon_24 rfl ?_
      refine pm_ald d_X4_reckon_26 rfl ?_
      refine ps_alenI (v := 900) d_X4_reckon_28 (ps_Ho12.at 8 (by decide)) a_2_8 (by decide) rfl ?_
      refine pm_icmp_ge d_X4_reckon_29 (fun c2 => ?_) (fun c2 => ?_)
      · replace hK := ps_ifT c2 hK
        exact ps_so hK
      · replace hK := ps_ifF c2 hK
        refine pm_ald d_X4_reckon_32 rfl ?_
        refine pm_ild d_X4_reckon_34 rfl ?_
        obtain ⟨b298, hT⟩ := ps_gd hK
        replace hK := hT
        clear hT
        refine ps_iald d_X4_reckon_36 (ps_Ho12.at 8 (by decide)) a_2_8 (ps_in_of b298) rfl ?_
        refine ps_topI (fun v3 ev3 => ?_)
        replace hK := ps_ltE ev3 hK
        refine pm_ist10 d_X4_reckon_37 rfl (by decide) ?_
        refine pm_ild d_X4_reckon_39 rfl ?_
        refine pm_ki d_X4_reckon_41 ?_
        refine pm_icmp_ne d_X4_reckon_44 (fun c4 => ?_) (fun c4 => ?_)
        · replace hK := ps_ifF c4 hK
          refine pm_ild d_X4_reckon_99 rfl ?_
          refine pm_ki d_X4_reckon_101 ?_
          refine pm_icmp_ne d_X4_reckon_104 (fun c5 => ?_) (fun c5 => ?_)
          · replace hK := ps_ifF c5 hK
            refine pm_ild d_X4_reckon_136 rfl ?_
            refine pm_ki d_X4_reckon_138 ?_
            refine pm_icmp_lt d_X4_reckon_141 (fun c6 => ?_) (fun c6 => ?_)
            · replace hK := ps_ifT c6 hK
              refine pm_ild d_X4_reckon_191 rfl ?_
              refine pm_ki d_X4_reckon_193 ?_
              refine pm_icmp_ge d_X4_reckon_195 (fun c7 => ?_) (fun c7 => ?_)
              · replace hK := ps_ifT c7 hK
                refine pm_inc9 d_X4_reckon_264 rfl ?_
                obtain ⟨v8, ev8⟩ : ∃ y : Int32, y = x9 + 1 := ⟨_, rfl⟩
                rw [← ev8]
                replace hK := ps_ltE ev8 hK
                refine pm_goto d_X4_reckon_267 ?_
                refine pm_wk (ls' := [some (.ref (g.2.2.1 + 22)), some (.int y1), some (.int y2), some (.int y3), some (.int y4), some (.int y5), some (.int y6), some (.ref (g.2.2.1 + (12 + 8))), some (.int x8), some (.int v8), none]) ⟨rfl, ⟨rfl, ⟨rfl, ⟨rfl, ⟨rfl, ⟨rfl, ⟨rfl, ⟨rfl, ⟨rfl, ⟨rfl, trivial⟩⟩⟩⟩⟩⟩⟩⟩⟩⟩ ?_
                exact ih _ _ _ hK
              · replace hK := ps_ifF c7 hK
                refine pm_ald d_X4_reckon_198 rfl ?_
                refine ps_getR (q := 25) d_X4_reckon_199 at_22 f_4_1_3 rfl ?_
                refine pm_ild d_X4_reckon_202 rfl ?_
                refine pm_ild d_X4_reckon_204 rfl ?_
                refine pm_ki d_X4_reckon_206 ?_
                refine pm_icmp_ne d_X4_reckon_209 (fun c9 => ?_) (fun c9 => ?_)
                · replace hK := ps_ifF c9 hK
                  refine pm_ild d_X4_reckon_219 rfl ?_
                  refine pm_ki d_X4_reckon_221 ?_
                  refine pm_icmp_ne d_X4_reckon_224 (fun c10 => ?_) (fun c10 => ?_)
                  · replace hK := ps_ifF c10 hK
                    refine pm_ild d_X4_reckon_232 rfl ?_
                    refine pm_ki d_X4_reckon_234 ?_
                    refine pm_icmp_ne d_X4_reckon_237 (fun c11 => ?_) (fun c11 => ?_)
                    · replace hK := ps_ifF c11 hK
                      refine pm_ild d_X4_reckon_245 rfl ?_
                      refine pm_ki d_X4_reckon_247 ?_
                      refine pm_icmp_ne d_X4_reckon_250 (fun c12 => ?_) (fun c12 => ?_)
                      · replace hK := ps_ifF c12 hK
                        refine pm_ild d_X4_reckon_258 rfl ?_
                        obtain ⟨b16, hT⟩ := ps_gd hK
                        replace hK := hT
                        clear hT
                        refine ps_iast d_X4_reckon_260 at_25 a_4_4 (ps_in_of b16) ?_
                        refine ps_nmS (fun σ13 eσ13 => ?_)
                        replace hK := ps_ltE eσ13 hK
                        refine pm_inc8 d_X4_reckon_261 rfl ?_
                        obtain ⟨v14, ev14⟩ : ∃ y : Int32, y = x8 + 1 := ⟨_, rfl⟩
                        rw [← ev14]
                        replace hK := ps_ltE ev14 hK
                        refine pm_inc9 d_X4_reckon_264 rfl ?_
                        obtain ⟨v15, ev15⟩ : ∃ y : Int32, y = x9 + 1 := ⟨_, rfl⟩
                        rw [← ev15]
                        replace hK := ps_ltE ev15 hK
                        refine pm_goto d_X4_reckon_267 ?_
                        refine pm_wk (ls' := [some (.ref (g.2.2.1 + 22)), some (.int y1), some (.int y2), some (.int y3), some (.int y4), some (.int y5), some (.int y6), some (.ref (g.2.2.1 + (12 + 8))), some (.int v14), some (.int v15), none]) ⟨rfl, ⟨rfl, ⟨rfl, ⟨rfl, ⟨rfl, ⟨rfl, ⟨rfl, ⟨rfl, ⟨rfl, ⟨rfl, trivial⟩⟩⟩⟩⟩⟩⟩⟩⟩⟩ ?_
                        exact ih _ _ _ hK
                      · replace hK := ps_ifT c12 hK
                        refine pm_ild d_X4_reckon_253 rfl ?_
                        refine pm_goto d_X4_reckon_255 ?_
                        obtain ⟨b20, hT⟩ := ps_gd hK
                        replace hK := hT
                        clear hT
                        refine ps_iast d_X4_reckon_260 at_25 a_4_4 (ps_in_of b20) ?_
                        refine ps_nmS (fun σ17 eσ17 => ?_)
                        replace hK := ps_ltE eσ17 hK
                        refine pm_inc8 d_X4_reckon_261 rfl ?_
                        obtain ⟨v18, ev18⟩ : ∃ y : Int32, y = x8 + 1 := ⟨_, rfl⟩
                        rw [← ev18]
                        replace hK := ps_ltE ev18 hK
                        refine pm_inc9 d_X4_reckon_264 rfl ?_
                        obtain ⟨v19, ev19⟩ : ∃ y : Int32, y = x9 + 1 := ⟨_, rfl⟩
                        rw [← ev19]
                        replace hK := ps_ltE ev19 hK
                        refine pm_goto d_X4_reckon_267 ?_
                        refine pm_wk (ls' := [some (.ref (g.2.2.1 + 22)), some (.int y1), some (.int y2), some (.int y3), some (.int y4), some (.int y5), some (.int y6), some (.ref (g.2.2.1 + (12 + 8))), some (.int v18), some (.int v19), none]) ⟨rfl, ⟨rfl, ⟨rfl, ⟨rfl, ⟨rfl, ⟨rfl, ⟨rfl, ⟨rfl, ⟨rfl, ⟨rfl, trivial⟩⟩⟩⟩⟩⟩⟩⟩⟩⟩ ?_
                        exact ih _ _ _ hK
                    · replace hK := ps_ifT c11 hK
                      refine pm_ild d_X4_reckon_240 rfl ?_
                      refine pm_goto d_X4_reckon_242 ?_
                      obtain ⟨b24, hT⟩ := ps_gd hK
                      replace hK := hT
                      clear hT
                      refine ps_iast d_X4_reckon_260 at_25 a_4_4 (ps_in_of b24) ?_
                      refine ps_nmS (fun σ21 eσ21 => ?_)
                      replace hK := ps_ltE eσ21 hK
                      refine pm_inc8 d_X4_reckon_261 rfl ?_
                      obtain ⟨v22, ev22⟩ : ∃ y : Int32, y = x8 + 1 := ⟨_, rfl⟩
                      rw [← ev22]
                      replace hK := ps_ltE ev22 hK
                      refine pm_inc9 d_X4_reckon_264 rfl ?_
                      obtain ⟨v23, ev23⟩ : ∃ y : Int32, y = x9 + 1 := ⟨_, rfl⟩
                      rw [← ev23]
                      replace hK := ps_ltE ev23 hK
                      refine pm_goto d_X4_reckon_267 ?_
                      refine pm_wk (ls' := [some (.ref (g.2.2.1 + 22)), some (.int y1), some (.int y2), some (.int y3), some (.int y4), some (.int y5), some (.int y6), some (.ref (g.2.2.1 + (12 + 8))), some (.int v22), some (.int v23), none]) ⟨rfl, ⟨rfl, ⟨rfl, ⟨rfl, ⟨rfl, ⟨rfl, ⟨rfl, ⟨rfl, ⟨rfl, ⟨rfl, trivial⟩⟩⟩⟩⟩⟩⟩⟩⟩⟩ ?_
                      exact ih _ _ _ hK
                  · replace hK := ps_ifT c10 hK
                    refine pm_ild d_X4_reckon_227 rfl ?_
                    refine pm_goto d_X4_reckon_229 ?_
                    obtain ⟨b28, hT⟩ := ps_gd hK
                    replace hK := hT
                    clear hT
                    refine ps_iast d_X4_reckon_260 at_25 a_4_4 (ps_in_of b28) ?_
                    refine ps_nmS (fun σ25 eσ25 => ?_)
                    replace hK := ps_ltE eσ25 hK
                    refine pm_inc8 d_X4_reckon_261 rfl ?_
                    obtain ⟨v26, ev26⟩ : ∃ y : Int32, y = x8 + 1 := ⟨_, rfl⟩
                    rw [← ev26]
                    replace hK := ps_ltE ev26 hK
                    refine pm_inc9 d_X4_reckon_264 rfl ?_
                    obtain ⟨v27, ev27⟩ : ∃ y : Int32, y = x9 + 1 := ⟨_, rfl⟩
                    rw [← ev27]
                    replace hK := ps_ltE ev27 hK
                    refine pm_goto d_X4_reckon_267 ?_
                    refine pm_wk (ls' := [some (.ref (g.2.2.1 + 22)), some (.int y1), some (.int y2), some (.int y3), some (.int y4), some (.int y5), some (.int y6), some (.ref (g.2.2.1 + (12 + 8))), some (.int v26), some (.int v27), none]) ⟨rfl, ⟨rfl, ⟨rfl, ⟨rfl, ⟨rfl, ⟨rfl, ⟨rfl, ⟨rfl, ⟨rfl, ⟨rfl, trivial⟩⟩⟩⟩⟩⟩⟩⟩⟩⟩ ?_
                    exact ih _ _ _ hK
                · replace hK := ps_ifT c9 hK
                  refine pm_ild d_X4_reckon_212 rfl ?_
                  refine pm_ki d_X4_reckon_213 ?_
                  refine pm_irem d_X4_reckon_215 (by decide) ?_
                  refine pm_goto d_X4_reckon_216 ?_
                  obtain ⟨b32, hT⟩ := ps_gd hK
                  replace hK := hT
                  clear hT
                  refine ps_iast d_X4_reckon_260 at_25 a_4_4 (ps_in_of b32) ?_
                  refine ps_nmS (fun σ29 eσ29 => ?_)
                  replace hK := ps_ltE eσ29 hK
                  refine pm_inc8 d_X4_reckon_261 rfl ?_
                  obtain ⟨v30, ev30⟩ : ∃ y : Int32, y = x8 + 1 := ⟨_, rfl⟩
                  rw [← ev30]
                  replace hK := ps_ltE ev30 hK
                  refine pm_inc9 d_X4_reckon_264 rfl ?_
                  obtain ⟨v31, ev31⟩ : ∃ y : Int32, y = x9 + 1 := ⟨_, rfl⟩
                  rw [← ev31]
                  replace hK := ps_ltE ev31 hK
                  refine pm_goto d_X4_reckon_267 ?_
                  refine pm_wk (ls' := [some (.ref (g.2.2.1 + 22)), some (.int y1), some (.int y2), some (.int y3), some (.int y4), some (.int y5), some (.int y6), some (.ref (g.2.2.1 + (12 + 8))), some (.int v30), some (.int v31), none]) ⟨rfl, ⟨rfl, ⟨rfl, ⟨rfl, ⟨rfl, ⟨rfl, ⟨rfl, ⟨rfl, ⟨rfl, ⟨rfl, trivial⟩⟩⟩⟩⟩⟩⟩⟩⟩⟩ ?_
                  exact ih _ _ _ hK
            · replace hK := ps_ifF c6 hK
              refine pm_ild d_X4_reckon_144 rfl ?_
              refine pm_ki d_X4_reckon_146 ?_
              refine pm_icmp_lt d_X4_reckon_147 (fun c33 => ?_) (fun c33 => ?_)
              · replace hK := ps_ifT c33 hK
                refine pm_ild d_X4_reckon_191 rfl ?_
                refine pm_ki d_X4_reckon_193 ?_
                refine pm_icmp_ge d_X4_reckon_195 (fun c34 => ?_) (fun c34 => ?_)
                · replace hK := ps_ifT c34 hK
                  refine pm_inc9 d_X4_reckon_264 rfl ?_
                  obtain ⟨v35, ev35⟩ : ∃ y : Int32, y = x9 + 1 := ⟨_, rfl⟩
                  rw [← ev35]
                  replace hK := ps_ltE ev35 hK
                  refine pm_goto d_X4_reckon_267 ?_
                  refine pm_wk (ls' := [some (.ref (g.2.2.1 + 22)), some (.int y1), some (.int y2), some (.int y3), some (.int y4), some (.int y5), some (.int y6), some (.ref (g.2.2.1 + (12 + 8))), some (.int x8), some (.int v35), none]) ⟨rfl, ⟨rfl, ⟨rfl, ⟨rfl, ⟨rfl, ⟨rfl, ⟨rfl, ⟨rfl, ⟨rfl, ⟨rfl, trivial⟩⟩⟩⟩⟩⟩⟩⟩⟩⟩ ?_
                  exact ih _ _ _ hK
                · replace hK := ps_ifF c34 hK
                  refine pm_ald d_X4_reckon_198 rfl ?_
                  refine ps_getR (q := 25) d_X4_reckon_199 at_22 f_4_1_3 rfl ?_
                  refine pm_ild d_X4_reckon_202 rfl ?_
                  refine pm_ild d_X4_reckon_204 rfl ?_
                  refine pm_ki d_X4_reckon_206 ?_
                  refine pm_icmp_ne d_X4_reckon_209 (fun c36 => ?_) (fun c36 => ?_)
                  · replace hK := ps_ifF c36 hK
                    refine pm_ild d_X4_reckon_219 rfl ?_
                    refine pm_ki d_X4_reckon_221 ?_
                    refine pm_icmp_ne d_X4_reckon_224 (fun c37 => ?_) (fun c37 => ?_)
                    · replace hK := ps_ifF c37 hK
                      refine pm_ild d_X4_reckon_232 rfl ?_
                      refine pm_ki d_X4_reckon_234 ?_
                      refine pm_icmp_ne d_X4_reckon_237 (fun c38 => ?_) (fun c38 => ?_)
                      · replace hK := ps_ifF c38 hK
                        refine pm_ild d_X4_reckon_245 rfl ?_
                        refine pm_ki d_X4_reckon_247 ?_
                        refine pm_icmp_ne d_X4_reckon_250 (fun c39 => ?_) (fun c39 => ?_)
                        · replace hK := ps_ifF c39 hK
                          refine pm_ild d_X4_reckon_258 rfl ?_
                          obtain ⟨b43, hT⟩ := ps_gd hK
                          replace hK := hT
                          clear hT
                          refine ps_iast d_X4_reckon_260 at_25 a_4_4 (ps_in_of b43) ?_
                          refine ps_nmS (fun σ40 eσ40 => ?_)
                          replace hK := ps_ltE eσ40 hK
                          refine pm_inc8 d_X4_reckon_261 rfl ?_
                          obtain ⟨v41, ev41⟩ : ∃ y : Int32, y = x8 + 1 := ⟨_, rfl⟩
                          rw [← ev41]
                          replace hK := ps_ltE ev41 hK
                          refine pm_inc9 d_X4_reckon_264 rfl ?_
                          obtain ⟨v42, ev42⟩ : ∃ y : Int32, y = x9 + 1 := ⟨_, rfl⟩
                          rw [← ev42]
                          replace hK := ps_ltE ev42 hK
                          refine pm_goto d_X4_reckon_267 ?_
                          refine pm_wk (ls' := [some (.ref (g.2.2.1 + 22)), some (.int y1), some (.int y2), some (.int y3), some (.int y4), some (.int y5), some (.int y6), some (.ref (g.2.2.1 + (12 + 8))), some (.int v41), some (.int v42), none]) ⟨rfl, ⟨rfl, ⟨rfl, ⟨rfl, ⟨rfl, ⟨rfl, ⟨rfl, ⟨rfl, ⟨rfl, ⟨rfl, trivial⟩⟩⟩⟩⟩⟩⟩⟩⟩⟩ ?_
                          exact ih _ _ _ hK
                        · replace hK := ps_ifT c39 hK
                          refine pm_ild d_X4_reckon_253 rfl ?_
                          refine pm_goto d_X4_reckon_255 ?_
                          obtain ⟨b47, hT⟩ := ps_gd hK
                          replace hK := hT
                          clear hT
                          refine ps_iast d_X4_reckon_260 at_25 a_4_4 (ps_in_of b47) ?_
                          refine ps_nmS (fun σ44 eσ44 => ?_)
                          replace hK := ps_ltE eσ44 hK
                          refine pm_inc8 d_X4_reckon_261 rfl ?_
                          obtain ⟨v45, ev45⟩ : ∃ y : Int32, y = x8 + 1 := ⟨_, rfl⟩
                          rw [← ev45]
                          replace hK := ps_ltE ev45 hK
                          refine pm_inc9 d_X4_reckon_264 rfl ?_
                          obtain ⟨v46, ev46⟩ : ∃ y : Int32, y = x9 + 1 := ⟨_, rfl⟩
                          rw [← ev46]
                          replace hK := ps_ltE ev46 hK
                          refine pm_goto d_X4_reckon_267 ?_
                          refine pm_wk (ls' := [some (.ref (g.2.2.1 + 22)), some (.int y1), some (.int y2), some (.int y3), some (.int y4), some (.int y5), some (.int y6), some (.ref (g.2.2.1 + (12 + 8))), some (.int v45), some (.int v46), none]) ⟨rfl, ⟨rfl, ⟨rfl, ⟨rfl, ⟨rfl, ⟨rfl, ⟨rfl, ⟨rfl, ⟨rfl, ⟨rfl, trivial⟩⟩⟩⟩⟩⟩⟩⟩⟩⟩ ?_
                          exact ih _ _ _ hK
                      · replace hK := ps_ifT c38 hK
                        refine pm_ild d_X4_reckon_240 rfl ?_
                        refine pm_goto d_X4_reckon_242 ?_
                        obtain ⟨b51, hT⟩ := ps_gd hK
                        replace hK := hT
                        clear hT
                        refine ps_iast d_X4_reckon_260 at_25 a_4_4 (ps_in_of b51) ?_
                        refine ps_nmS (fun σ48 eσ48 => ?_)
                        replace hK := ps_ltE eσ48 hK
                        refine pm_inc8 d_X4_reckon_261 rfl ?_
                        obtain ⟨v49, ev49⟩ : ∃ y : Int32, y = x8 + 1 := ⟨_, rfl⟩
                        rw [← ev49]
                        replace hK := ps_ltE ev49 hK
                        refine pm_inc9 d_X4_reckon_264 rfl ?_
                        obtain ⟨v50, ev50⟩ : ∃ y : Int32, y = x9 + 1 := ⟨_, rfl⟩
                        rw [← ev50]
                        replace hK := ps_ltE ev50 hK
                        refine pm_goto d_X4_reckon_267 ?_
                        refine pm_wk (ls' := [some (.ref (g.2.2.1 + 22)), some (.int y1), some (.int y2), some (.int y3), some (.int y4), some (.int y5), some (.int y6), some (.ref (g.2.2.1 + (12 + 8))), some (.int v49), some (.int v50), none]) ⟨rfl, ⟨rfl, ⟨rfl, ⟨rfl, ⟨rfl, ⟨rfl, ⟨rfl, ⟨rfl, ⟨rfl, ⟨rfl, trivial⟩⟩⟩⟩⟩⟩⟩⟩⟩⟩ ?_
                        exact ih _ _ _ hK
                    · replace hK := ps_ifT c37 hK
                      refine pm_ild d_X4_reckon_227 rfl ?_
                      refine pm_goto d_X4_reckon_229 ?_
                      obtain ⟨b55, hT⟩ := ps_gd hK
                      replace hK := hT
                      clear hT
                      refine ps_iast d_X4_reckon_260 at_25 a_4_4 (ps_in_of b55) ?_
                      refine ps_nmS (fun σ52 eσ52 => ?_)
                      replace hK := ps_ltE eσ52 hK
                      refine pm_inc8 d_X4_reckon_261 rfl ?_
                      obtain ⟨v53, ev53⟩ : ∃ y : Int32, y = x8 + 1 := ⟨_, rfl⟩
                      rw [← ev53]
                      replace hK := ps_ltE ev53 hK
                      refine pm_inc9 d_X4_reckon_264 rfl ?_
                      obtain ⟨v54, ev54⟩ : ∃ y : Int32, y = x9 + 1 := ⟨_, rfl⟩
                      rw [← ev54]
                      replace hK := ps_ltE ev54 hK
                      refine pm_goto d_X4_reckon_267 ?_
                      refine pm_wk (ls' := [some (.ref (g.2.2.1 + 22)), some (.int y1), some (.int y2), some (.int y3), some (.int y4), some (.int y5), some (.int y6), some (.ref (g.2.2.1 + (12 + 8))), some (.int v53), some (.int v54), none]) ⟨rfl, ⟨rfl, ⟨rfl, ⟨rfl, ⟨rfl, ⟨rfl, ⟨rfl, ⟨rfl, ⟨rfl, ⟨rfl, trivial⟩⟩⟩⟩⟩⟩⟩⟩⟩⟩ ?_
                      exact ih _ _ _ hK
                  · replace hK := ps_ifT c36 hK
                    refine pm_ild d_X4_reckon_212 rfl ?_
                    refine pm_ki d_X4_reckon_213 ?_
                    refine pm_irem d_X4_reckon_215 (by decide) ?_
                    refine pm_goto d_X4_reckon_216 ?_
                    obtain ⟨b59, hT⟩ := ps_gd hK
                    replace hK := hT
                    clear hT
                    refine ps_iast d_X4_reckon_260 at_25 a_4_4 (ps_in_of b59) ?_
                    refine ps_nmS (fun σ56 eσ56 => ?_)
                    replace hK := ps_ltE eσ56 hK
                    refine pm_inc8 d_X4_reckon_261 rfl ?_
                    obtain ⟨v57, ev57⟩ : ∃ y : Int32, y = x8 + 1 := ⟨_, rfl⟩
                    rw [← ev57]
                    replace hK := ps_ltE ev57 hK
                    refine pm_inc9 d_X4_reckon_264 rfl ?_
                    obtain ⟨v58, ev58⟩ : ∃ y : Int32, y = x9 + 1 := ⟨_, rfl⟩
                    rw [← ev58]
                    replace hK := ps_ltE ev58 hK
                    refine pm_goto d_X4_reckon_267 ?_
                    refine pm_wk (ls' := [some (.ref (g.2.2.1 + 22)), some (.int y1), some (.int y2), some (.int y3), some (.int y4), some (.int y5), some (.int y6), some (.ref (g.2.2.1 + (12 + 8))), some (.int v57), some (.int v58), none]) ⟨rfl, ⟨rfl, ⟨rfl, ⟨rfl, ⟨rfl, ⟨rfl, ⟨rfl, ⟨rfl, ⟨rfl, ⟨rfl, trivial⟩⟩⟩⟩⟩⟩⟩⟩⟩⟩ ?_
                    exact ih _ _ _ hK
              · replace hK := ps_ifF c33 hK
                refine pm_inc8 d_X4_reckon_150 rfl ?_
                obtain ⟨v60, ev60⟩ : ∃ y : Int32, y = x8 + (-1) := ⟨_, rfl⟩
                rw [← ev60]
                replace hK := ps_ltE ev60 hK
                refine pm_ald d_X4_reckon_153 rfl ?_
                refine ps_getR (q := 25) d_X4_reckon_154 at_22 f_4_1_3 rfl ?_
                refine pm_ild d_X4_reckon_157 rfl ?_
                refine pm_ki d_X4_reckon_159 ?_
                refine pm_isub d_X4_reckon_160 ?_
                refine pm_ild d_X4_reckon_161 rfl ?_
                refine pm_ald d_X4_reckon_163 rfl ?_
                refine ps_getR (q := 25) d_X4_reckon_164 at_22 f_4_1_3 rfl ?_
                refine pm_ild d_X4_reckon_167 rfl ?_
                refine pm_ki d_X4_reckon_169 ?_
                refine pm_isub d_X4_reckon_170 ?_
                obtain ⟨b71, hT⟩ := ps_gd hK
                replace hK := hT
                clear hT
                refine ps_iald d_X4_reckon_171 at_25 a_4_4 (ps_in_of b71) rfl ?_
                refine ps_topI (fun v61 ev61 => ?_)
                replace hK := ps_ltE ev61 hK
                refine pm_i2l d_X4_reckon_172 ?_
                refine pm_ald d_X4_reckon_173 rfl ?_
                refine ps_getR (q := 25) d_X4_reckon_174 at_22 f_4_1_3 rfl ?_
                refine pm_ild d_X4_reckon_177 rfl ?_
                obtain ⟨b70, hT⟩ := ps_gd hK
                replace hK := hT
                clear hT
                refine ps_iald d_X4_reckon_179 at_25 a_4_4 (ps_in_of b70) rfl ?_
                refine ps_topI (fun v62 ev62 => ?_)
                replace hK := ps_ltE ev62 hK
                refine pm_i2l d_X4_reckon_180 ?_
                refine ps_cSL d_X4_reckon_181 ms_X4_join (As := [.int v3, .long ((v61).toInt64), .long ((v62).toInt64)]) rfl rfl (ps_room.of (by omega) (by decide)) (Nat.le_of_ble_eq_true rfl) (C_X4_join v3 (((v61).toInt64)) (((v62).toInt64)) σ _ (ps_bdE hK)) ?_
                intro v63 σ64 hT
                clear hK
                have hK := hT
                clear hT
                refine ps_cSI d_X4_reckon_184 ms_X4_kept (As := [.long v63]) rfl rfl (ps_room.of (by omega) (by decide)) (Nat.le_of_ble_eq_true rfl) (C_X4_kept v63 σ64 _ (ps_bdE hK)) ?_
                intro v65 σ66 hT
                clear hK
                have hK := hT
                clear hT
                obtain ⟨b69, hT⟩ := ps_gd hK
                replace hK := hT
                clear hT
                refine ps_iast d_X4_reckon_187 at_25 a_4_4 (ps_in_of b69) ?_
                refine ps_nmS (fun σ67 eσ67 => ?_)
                replace hK := ps_ltE eσ67 hK
                refine pm_goto d_X4_reckon_188 ?_
                refine pm_inc9 d_X4_reckon_264 rfl ?_
                obtain ⟨v68, ev68⟩ : ∃ y : Int32, y = x9 + 1 := ⟨_, rfl⟩
                rw [← ev68]
                replace hK := ps_ltE ev68 hK
                refine pm_goto d_X4_reckon_267 ?_
                refine pm_wk (ls' := [some (.ref (g.2.2.1 + 22)), some (.int y1), some (.int y2), some (.int y3), some (.int y4), some (.int y5), some (.int y6), some (.ref (g.2.2.1 + (12 + 8))), some (.int v60), some (.int v68), none]) ⟨rfl, ⟨rfl, ⟨rfl, ⟨rfl, ⟨rfl, ⟨rfl, ⟨rfl, ⟨rfl, ⟨rfl, ⟨rfl, trivial⟩⟩⟩⟩⟩⟩⟩⟩⟩⟩ ?_
                exact ih _ _ _ hK
          · replace hK := ps_ifT c5 hK
            refine pm_ild d_X4_reckon_107 rfl ?_
            refine pm_ki d_X4_reckon_109 ?_
            refine pm_icmp_lt d_X4_reckon_110 (fun c72 => ?_) (fun c72 => ?_)
            · replace hK := ps_ifT c72 hK
              refine pm_ild d_X4_reckon_136 rfl ?_
              refine pm_ki d_X4_reckon_138 ?_
              refine pm_icmp_lt d_X4_reckon_141 (fun c73 => ?_) (fun c73 => ?_)
              · replace hK := ps_ifT c73 hK
                refine pm_ild d_X4_reckon_191 rfl ?_
                refine pm_ki d_X4_reckon_193 ?_
                refine pm_icmp_ge d_X4_reckon_195 (fun c74 => ?_) (fun c74 => ?_)
                · replace hK := ps_ifT c74 hK
                  refine pm_inc9 d_X4_reckon_264 rfl ?_
                  obtain ⟨v75, ev75⟩ : ∃ y : Int32, y = x9 + 1 := ⟨_, rfl⟩
                  rw [← ev75]
                  replace hK := ps_ltE ev75 hK
                  refine pm_goto d_X4_reckon_267 ?_
                  refine pm_wk (ls' := [some (.ref (g.2.2.1 + 22)), some (.int y1), some (.int y2), some (.int y3), some (.int y4), some (.int y5), some (.int y6), some (.ref (g.2.2.1 + (12 + 8))), some (.int x8), some (.int v75), none]) ⟨rfl, ⟨rfl, ⟨rfl, ⟨rfl, ⟨rfl, ⟨rfl, ⟨rfl, ⟨rfl, ⟨rfl, ⟨rfl, trivial⟩⟩⟩⟩⟩⟩⟩⟩⟩⟩ ?_
                  exact ih _ _ _ hK
                · replace hK := ps_ifF c74 hK
                  refine pm_ald d_X4_reckon_198 rfl ?_
                  refine ps_getR (q := 25) d_X4_reckon_199 at_22 f_4_1_3 rfl ?_
                  refine pm_ild d_X4_reckon_202 rfl ?_
                  refine pm_ild d_X4_reckon_204 rfl ?_
                  refine pm_ki d_X4_reckon_206 ?_
                  refine pm_icmp_ne d_X4_reckon_209 (fun c76 => ?_) (fun c76 => ?_)
                  · replace hK := ps_ifF c76 hK
                    refine pm_ild d_X4_reckon_219 rfl ?_
                    refine pm_ki d_X4_reckon_221 ?_
                    refine pm_icmp_ne d_X4_reckon_224 (fun c77 => ?_) (fun c77 => ?_)
                    · replace hK := ps_ifF c77 hK
                      refine pm_ild d_X4_reckon_232 rfl ?_
                      refine pm_ki d_X4_reckon_234 ?_
                      refine pm_icmp_ne d_X4_reckon_237 (fun c78 => ?_) (fun c78 => ?_)
                      · replace hK := ps_ifF c78 hK
                        refine pm_ild d_X4_reckon_245 rfl ?_
                        refine pm_ki d_X4_reckon_247 ?_
                        refine pm_icmp_ne d_X4_reckon_250 (fun c79 => ?_) (fun c79 => ?_)
                        · replace hK := ps_ifF c79 hK
                          refine pm_ild d_X4_reckon_258 rfl ?_
                          obtain ⟨b83, hT⟩ := ps_gd hK
                          replace hK := hT
                          clear hT
                          refine ps_iast d_X4_reckon_260 at_25 a_4_4 (ps_in_of b83) ?_
                          refine ps_nmS (fun σ80 eσ80 => ?_)
                          replace hK := ps_ltE eσ80 hK
                          refine pm_inc8 d_X4_reckon_261 rfl ?_
                          obtain ⟨v81, ev81⟩ : ∃ y : Int32, y = x8 + 1 := ⟨_, rfl⟩
                          rw [← ev81]
                          replace hK := ps_ltE ev81 hK
                          refine pm_inc9 d_X4_reckon_264 rfl ?_
                          obtain ⟨v82, ev82⟩ : ∃ y : Int32, y = x9 + 1 := ⟨_, rfl⟩
                          rw [← ev82]
                          replace hK := ps_ltE ev82 hK
                          refine pm_goto d_X4_reckon_267 ?_
                          refine pm_wk (ls' := [some (.ref (g.2.2.1 + 22)), some (.int y1), some (.int y2), some (.int y3), some (.int y4), some (.int y5), some (.int y6), some (.ref (g.2.2.1 + (12 + 8))), some (.int v81), some (.int v82), none]) ⟨rfl, ⟨rfl, ⟨rfl, ⟨rfl, ⟨rfl, ⟨rfl, ⟨rfl, ⟨rfl, ⟨rfl, ⟨rfl, trivial⟩⟩⟩⟩⟩⟩⟩⟩⟩⟩ ?_
                          exact ih _ _ _ hK
                        · replace hK := ps_ifT c79 hK
                          refine pm_ild d_X4_reckon_253 rfl ?_
                          refine pm_goto d_X4_reckon_255 ?_
                          obtain ⟨b87, hT⟩ := ps_gd hK
                          replace hK := hT
                          clear hT
                          refine ps_iast d_X4_reckon_260 at_25 a_4_4 (ps_in_of b87) ?_
                          refine ps_nmS (fun σ84 eσ84 => ?_)
                          replace hK := ps_ltE eσ84 hK
                          refine pm_inc8 d_X4_reckon_261 rfl ?_
                          obtain ⟨v85, ev85⟩ : ∃ y : Int32, y = x8 + 1 := ⟨_, rfl⟩
                          rw [← ev85]
                          replace hK := ps_ltE ev85 hK
                          refine pm_inc9 d_X4_reckon_264 rfl ?_
                          obtain ⟨v86, ev86⟩ : ∃ y : Int32, y = x9 + 1 := ⟨_, rfl⟩
                          rw [← ev86]
                          replace hK := ps_ltE ev86 hK
                          refine pm_goto d_X4_reckon_267 ?_
                          refine pm_wk (ls' := [some (.ref (g.2.2.1 + 22)), some (.int y1), some (.int y2), some (.int y3), some (.int y4), some (.int y5), some (.int y6), some (.ref (g.2.2.1 + (12 + 8))), some (.int v85), some (.int v86), none]) ⟨rfl, ⟨rfl, ⟨rfl, ⟨rfl, ⟨rfl, ⟨rfl, ⟨rfl, ⟨rfl, ⟨rfl, ⟨rfl, trivial⟩⟩⟩⟩⟩⟩⟩⟩⟩⟩ ?_
                          exact ih _ _ _ hK
                      · replace hK := ps_ifT c78 hK
                        refine pm_ild d_X4_reckon_240 rfl ?_
                        refine pm_goto d_X4_reckon_242 ?_
                        obtain ⟨b91, hT⟩ := ps_gd hK
                        replace hK := hT
                        clear hT
                        refine ps_iast d_X4_reckon_260 at_25 a_4_4 (ps_in_of b91) ?_
                        refine ps_nmS (fun σ88 eσ88 => ?_)
                        replace hK := ps_ltE eσ88 hK
                        refine pm_inc8 d_X4_reckon_261 rfl ?_
                        obtain ⟨v89, ev89⟩ : ∃ y : Int32, y = x8 + 1 := ⟨_, rfl⟩
                        rw [← ev89]
                        replace hK := ps_ltE ev89 hK
                        refine pm_inc9 d_X4_reckon_264 rfl ?_
                        obtain ⟨v90, ev90⟩ : ∃ y : Int32, y = x9 + 1 := ⟨_, rfl⟩
                        rw [← ev90]
                        replace hK := ps_ltE ev90 hK
                        refine pm_goto d_X4_reckon_267 ?_
                        refine pm_wk (ls' := [some (.ref (g.2.2.1 + 22)), some (.int y1), some (.int y2), some (.int y3), some (.int y4), some (.int y5), some (.int y6), some (.ref (g.2.2.1 + (12 + 8))), some (.int v89), some (.int v90), none]) ⟨rfl, ⟨rfl, ⟨rfl, ⟨rfl, ⟨rfl, ⟨rfl, ⟨rfl, ⟨rfl, ⟨rfl, ⟨rfl, trivial⟩⟩⟩⟩⟩⟩⟩⟩⟩⟩ ?_
                        exact ih _ _ _ hK
                    · replace hK := ps_ifT c77 hK
                      refine pm_ild d_X4_reckon_227 rfl ?_
                      refine pm_goto d_X4_reckon_229 ?_
                      obtain ⟨b95, hT⟩ := ps_gd hK
                      replace hK := hT
                      clear hT
                      refine ps_iast d_X4_reckon_260 at_25 a_4_4 (ps_in_of b95) ?_
                      refine ps_nmS (fun σ92 eσ92 => ?_)
                      replace hK := ps_ltE eσ92 hK
                      refine pm_inc8 d_X4_reckon_261 rfl ?_
                      obtain ⟨v93, ev93⟩ : ∃ y : Int32, y = x8 + 1 := ⟨_, rfl⟩
                      rw [← ev93]
                      replace hK := ps_ltE ev93 hK
                      refine pm_inc9 d_X4_reckon_264 rfl ?_
                      obtain ⟨v94, ev94⟩ : ∃ y : Int32, y = x9 + 1 := ⟨_, rfl⟩
                      rw [← ev94]
                      replace hK := ps_ltE ev94 hK
                      refine pm_goto d_X4_reckon_267 ?_
                      refine pm_wk (ls' := [some (.ref (g.2.2.1 + 22)), some (.int y1), some (.int y2), some (.int y3), some (.int y4), some (.int y5), some (.int y6), some (.ref (g.2.2.1 + (12 + 8))), some (.int v93), some (.int v94), none]) ⟨rfl, ⟨rfl, ⟨rfl, ⟨rfl, ⟨rfl, ⟨rfl, ⟨rfl, ⟨rfl, ⟨rfl, ⟨rfl, trivial⟩⟩⟩⟩⟩⟩⟩⟩⟩⟩ ?_
                      exact ih _ _ _ hK
                  · replace hK := ps_ifT c76 hK
                    refine pm_ild d_X4_reckon_212 rfl ?_
                    refine pm_ki d_X4_reckon_213 ?_
                    refine pm_irem d_X4_reckon_215 (by decide) ?_
                    refine pm_goto d_X4_reckon_216 ?_
                    obtain ⟨b99, hT⟩ := ps_gd hK
                    replace hK := hT
                    clear hT
                    refine ps_iast d_X4_reckon_260 at_25 a_4_4 (ps_in_of b99) ?_
                    refine ps_nmS (fun σ96 eσ96 => ?_)
                    replace hK := ps_ltE eσ96 hK
                    refine pm_inc8 d_X4_reckon_261 rfl ?_
                    obtain ⟨v97, ev97⟩ : ∃ y : Int32, y = x8 + 1 := ⟨_, rfl⟩
                    rw [← ev97]
                    replace hK := ps_ltE ev97 hK
                    refine pm_inc9 d_X4_reckon_264 rfl ?_
                    obtain ⟨v98, ev98⟩ : ∃ y : Int32, y = x9 + 1 := ⟨_, rfl⟩
                    rw [← ev98]
                    replace hK := ps_ltE ev98 hK
                    refine pm_goto d_X4_reckon_267 ?_
                    refine pm_wk (ls' := [some (.ref (g.2.2.1 + 22)), some (.int y1), some (.int y2), some (.int y3), some (.int y4), some (.int y5), some (.int y6), some (.ref (g.2.2.1 + (12 + 8))), some (.int v97), some (.int v98), none]) ⟨rfl, ⟨rfl, ⟨rfl, ⟨rfl, ⟨rfl, ⟨rfl, ⟨rfl, ⟨rfl, ⟨rfl, ⟨rfl, trivial⟩⟩⟩⟩⟩⟩⟩⟩⟩⟩ ?_
                    exact ih _ _ _ hK
              · replace hK := ps_ifF c73 hK
                refine pm_ild d_X4_reckon_144 rfl ?_
                refine pm_ki d_X4_reckon_146 ?_
                refine pm_icmp_lt d_X4_reckon_147 (fun c100 => ?_) (fun c100 => ?_)
                · replace hK := ps_ifT c100 hK
                  refine pm_ild d_X4_reckon_191 rfl ?_
                  refine pm_ki d_X4_reckon_193 ?_
                  refine pm_icmp_ge d_X4_reckon_195 (fun c101 => ?_) (fun c101 => ?_)
                  · replace hK := ps_ifT c101 hK
                    refine pm_inc9 d_X4_reckon_264 rfl ?_
                    obtain ⟨v102, ev102⟩ : ∃ y : Int32, y = x9 + 1 := ⟨_, rfl⟩
                    rw [← ev102]
                    replace hK := ps_ltE ev102 hK
                    refine pm_goto d_X4_reckon_267 ?_
                    refine pm_wk (ls' := [some (.ref (g.2.2.1 + 22)), some (.int y1), some (.int y2), some (.int y3), some (.int y4), some (.int y5), some (.int y6), some (.ref (g.2.2.1 + (12 + 8))), some (.int x8), some (.int v102), none]) ⟨rfl, ⟨rfl, ⟨rfl, ⟨rfl, ⟨rfl, ⟨rfl, ⟨rfl, ⟨rfl, ⟨rfl, ⟨rfl, trivial⟩⟩⟩⟩⟩⟩⟩⟩⟩⟩ ?_
                    exact ih _ _ _ hK
                  · replace hK := ps_ifF c101 hK
                    refine pm_ald d_X4_reckon_198 rfl ?_
                    refine ps_getR (q := 25) d_X4_reckon_199 at_22 f_4_1_3 rfl ?_
                    refine pm_ild d_X4_reckon_202 rfl ?_
                    refine pm_ild d_X4_reckon_204 rfl ?_
                    refine pm_ki d_X4_reckon_206 ?_
                    refine pm_icmp_ne d_X4_reckon_209 (fun c103 => ?_) (fun c103 => ?_)
                    · replace hK := ps_ifF c103 hK
                      refine pm_ild d_X4_reckon_219 rfl ?_
                      refine pm_ki d_X4_reckon_221 ?_
                      refine pm_icmp_ne d_X4_reckon_224 (fun c104 => ?_) (fun c104 => ?_)
                      · replace hK := ps_ifF c104 hK
                        refine pm_ild d_X4_reckon_232 rfl ?_
                        refine pm_ki d_X4_reckon_234 ?_
                        refine pm_icmp_ne d_X4_reckon_237 (fun c105 => ?_) (fun c105 => ?_)
                        · replace hK := ps_ifF c105 hK
                          refine pm_ild d_X4_reckon_245 rfl ?_
                          refine pm_ki d_X4_reckon_247 ?_
                          refine pm_icmp_ne d_X4_reckon_250 (fun c106 => ?_) (fun c106 => ?_)
                          · replace hK := ps_ifF c106 hK
                            refine pm_ild d_X4_reckon_258 rfl ?_
                            obtain ⟨b110, hT⟩ := ps_gd hK
                            replace hK := hT
                            clear hT
                            refine ps_iast d_X4_reckon_260 at_25 a_4_4 (ps_in_of b110) ?_
                            refine ps_nmS (fun σ107 eσ107 => ?_)
                            replace hK := ps_ltE eσ107 hK
                            refine pm_inc8 d_X4_reckon_261 rfl ?_
                            obtain ⟨v108, ev108⟩ : ∃ y : Int32, y = x8 + 1 := ⟨_, rfl⟩
                            rw [← ev108]
                            replace hK := ps_ltE ev108 hK
                            refine pm_inc9 d_X4_reckon_264 rfl ?_
                            obtain ⟨v109, ev109⟩ : ∃ y : Int32, y = x9 + 1 := ⟨_, rfl⟩
                            rw [← ev109]
                            replace hK := ps_ltE ev109 hK
                            refine pm_goto d_X4_reckon_267 ?_
                            refine pm_wk (ls' := [some (.ref (g.2.2.1 + 22)), some (.int y1), some (.int y2), some (.int y3), some (.int y4), some (.int y5), some (.int y6), some (.ref (g.2.2.1 + (12 + 8))), some (.int v108), some (.int v109), none]) ⟨rfl, ⟨rfl, ⟨rfl, ⟨rfl, ⟨rfl, ⟨rfl, ⟨rfl, ⟨rfl, ⟨rfl, ⟨rfl, trivial⟩⟩⟩⟩⟩⟩⟩⟩⟩⟩ ?_
                            exact ih _ _ _ hK
                          · replace hK := ps_ifT c106 hK
                            refine pm_ild d_X4_reckon_253 rfl ?_
                            refine pm_goto d_X4_reckon_255 ?_
                            obtain ⟨b114, hT⟩ := ps_gd hK
                            replace hK := hT
                            clear hT
                            refine ps_iast d_X4_reckon_260 at_25 a_4_4 (ps_in_of b114) ?_
                            refine ps_nmS (fun σ111 eσ111 => ?_)
                            replace hK := ps_ltE eσ111 hK
                            refine pm_inc8 d_X4_reckon_261 rfl ?_
                            obtain ⟨v112, ev112⟩ : ∃ y : Int32, y = x8 + 1 := ⟨_, rfl⟩
                            rw [← ev112]
                            replace hK := ps_ltE ev112 hK
                            refine pm_inc9 d_X4_reckon_264 rfl ?_
                            obtain ⟨v113, ev113⟩ : ∃ y : Int32, y = x9 + 1 := ⟨_, rfl⟩
                            rw [← ev113]
                            replace hK := ps_ltE ev113 hK
                            refine pm_goto d_X4_reckon_267 ?_
                            refine pm_wk (ls' := [some (.ref (g.2.2.1 + 22)), some (.int y1), some (.int y2), some (.int y3), some (.int y4), some (.int y5), some (.int y6), some (.ref (g.2.2.1 + (12 + 8))), some (.int v112), some (.int v113), none]) ⟨rfl, ⟨rfl, ⟨rfl, ⟨rfl, ⟨rfl, ⟨rfl, ⟨rfl, ⟨rfl, ⟨rfl, ⟨rfl, trivial⟩⟩⟩⟩⟩⟩⟩⟩⟩⟩ ?_
                            exact ih _ _ _ hK
                        · replace hK := ps_ifT c105 hK
                          refine pm_ild d_X4_reckon_240 rfl ?_
                          refine pm_goto d_X4_reckon_242 ?_
                          obtain ⟨b118, hT⟩ := ps_gd hK
                          replace hK := hT
                          clear hT
                          refine ps_iast d_X4_reckon_260 at_25 a_4_4 (ps_in_of b118) ?_
                          refine ps_nmS (fun σ115 eσ115 => ?_)
                          replace hK := ps_ltE eσ115 hK
                          refine pm_inc8 d_X4_reckon_261 rfl ?_
                          obtain ⟨v116, ev116⟩ : ∃ y : Int32, y = x8 + 1 := ⟨_, rfl⟩
                          rw [← ev116]
                          replace hK := ps_ltE ev116 hK
                          refine pm_inc9 d_X4_reckon_264 rfl ?_
                          obtain ⟨v117, ev117⟩ : ∃ y : Int32, y = x9 + 1 := ⟨_, rfl⟩
                          rw [← ev117]
                          replace hK := ps_ltE ev117 hK
                          refine pm_goto d_X4_reckon_267 ?_
                          refine pm_wk (ls' := [some (.ref (g.2.2.1 + 22)), some (.int y1), some (.int y2), some (.int y3), some (.int y4), some (.int y5), some (.int y6), some (.ref (g.2.2.1 + (12 + 8))), some (.int v116), some (.int v117), none]) ⟨rfl, ⟨rfl, ⟨rfl, ⟨rfl, ⟨rfl, ⟨rfl, ⟨rfl, ⟨rfl, ⟨rfl, ⟨rfl, trivial⟩⟩⟩⟩⟩⟩⟩⟩⟩⟩ ?_
                          exact ih _ _ _ hK
                      · replace hK := ps_ifT c104 hK
                        refine pm_ild d_X4_reckon_227 rfl ?_
                        refine pm_goto d_X4_reckon_229 ?_
                        obtain ⟨b122, hT⟩ := ps_gd hK
                        replace hK := hT
                        clear hT
                        refine ps_iast d_X4_reckon_260 at_25 a_4_4 (ps_in_of b122) ?_
                        refine ps_nmS (fun σ119 eσ119 => ?_)
                        replace hK := ps_ltE eσ119 hK
                        refine pm_inc8 d_X4_reckon_261 rfl ?_
                        obtain ⟨v120, ev120⟩ : ∃ y : Int32, y = x8 + 1 := ⟨_, rfl⟩
                        rw [← ev120]
                        replace hK := ps_ltE ev120 hK
                        refine pm_inc9 d_X4_reckon_264 rfl ?_
                        obtain ⟨v121, ev121⟩ : ∃ y : Int32, y = x9 + 1 := ⟨_, rfl⟩
                        rw [← ev121]
                        replace hK := ps_ltE ev121 hK
                        refine pm_goto d_X4_reckon_267 ?_
                        refine pm_wk (ls' := [some (.ref (g.2.2.1 + 22)), some (.int y1), some (.int y2), some (.int y3), some (.int y4), some (.int y5), some (.int y6), some (.ref (g.2.2.1 + (12 + 8))), some (.int v120), some (.int v121), none]) ⟨rfl, ⟨rfl, ⟨rfl, ⟨rfl, ⟨rfl, ⟨rfl, ⟨rfl, ⟨rfl, ⟨rfl, ⟨rfl, trivial⟩⟩⟩⟩⟩⟩⟩⟩⟩⟩ ?_
                        exact ih _ _ _ hK
                    · replace hK := ps_ifT c103 hK
                      refine pm_ild d_X4_reckon_212 rfl ?_
                      refine pm_ki d_X4_reckon_213 ?_
                      refine pm_irem d_X4_reckon_215 (by decide) ?_
                      refine pm_goto d_X4_reckon_216 ?_
                      obtain ⟨b126, hT⟩ := ps_gd hK
                      replace hK := hT
                      clear hT
                      refine ps_iast d_X4_reckon_260 at_25 a_4_4 (ps_in_of b126) ?_
                      refine ps_nmS (fun σ123 eσ123 => ?_)
                      replace hK := ps_ltE eσ123 hK
                      refine pm_inc8 d_X4_reckon_261 rfl ?_
                      obtain ⟨v124, ev124⟩ : ∃ y : Int32, y = x8 + 1 := ⟨_, rfl⟩
                      rw [← ev124]
                      replace hK := ps_ltE ev124 hK
                      refine pm_inc9 d_X4_reckon_264 rfl ?_
                      obtain ⟨v125, ev125⟩ : ∃ y : Int32, y = x9 + 1 := ⟨_, rfl⟩
                      rw [← ev125]
                      replace hK := ps_ltE ev125 hK
                      refine pm_goto d_X4_reckon_267 ?_
                      refine pm_wk (ls' := [some (.ref (g.2.2.1 + 22)), some (.int y1), some (.int y2), some (.int y3), some (.int y4), some (.int y5), some (.int y6), some (.ref (g.2.2.1 + (12 + 8))), some (.int v124), some (.int v125), none]) ⟨rfl, ⟨rfl, ⟨rfl, ⟨rfl, ⟨rfl, ⟨rfl, ⟨rfl, ⟨rfl, ⟨rfl, ⟨rfl, trivial⟩⟩⟩⟩⟩⟩⟩⟩⟩⟩ ?_
                      exact ih _ _ _ hK
                · replace hK := ps_ifF c100 hK
                  refine pm_inc8 d_X4_reckon_150 rfl ?_
                  obtain ⟨v127, ev127⟩ : ∃ y : Int32, y = x8 + (-1) := ⟨_, rfl⟩
                  rw [← ev127]
                  replace hK := ps_ltE ev127 hK
                  refine pm_ald d_X4_reckon_153 rfl ?_
                  refine ps_getR (q := 25) d_X4_reckon_154 at_22 f_4_1_3 rfl ?_
                  refine pm_ild d_X4_reckon_157 rfl ?_
                  refine pm_ki d_X4_reckon_159 ?_
                  refine pm_isub d_X4_reckon_160 ?_
                  refine pm_ild d_X4_reckon_161 rfl ?_
                  refine pm_ald d_X4_reckon_163 rfl ?_
                  refine ps_getR (q := 25) d_X4_reckon_164 at_22 f_4_1_3 rfl ?_
                  refine pm_ild d_X4_reckon_167 rfl ?_
                  refine pm_ki d_X4_reckon_169 ?_
                  refine pm_isub d_X4_reckon_170 ?_
                  obtain ⟨b138, hT⟩ := ps_gd hK
                  replace hK := hT
                  clear hT
                  refine ps_iald d_X4_reckon_171 at_25 a_4_4 (ps_in_of b138) rfl ?_
                  refine ps_topI (fun v128 ev128 => ?_)
                  replace hK := ps_ltE ev128 hK
                  refine pm_i2l d_X4_reckon_172 ?_
                  refine pm_ald d_X4_reckon_173 rfl ?_
                  refine ps_getR (q := 25) d_X4_reckon_174 at_22 f_4_1_3 rfl ?_
                  refine pm_ild d_X4_reckon_177 rfl ?_
                  obtain ⟨b137, hT⟩ := ps_gd hK
                  replace hK := hT
                  clear hT
                  refine ps_iald d_X4_reckon_179 at_25 a_4_4 (ps_in_of b137) rfl ?_
                  refine ps_topI (fun v129 ev129 => ?_)
                  replace hK := ps_ltE ev129 hK
                  refine pm_i2l d_X4_reckon_180 ?_
                  refine ps_cSL d_X4_reckon_181 ms_X4_join (As := [.int v3, .long ((v128).toInt64), .long ((v129).toInt64)]) rfl rfl (ps_room.of (by omega) (by decide)) (Nat.le_of_ble_eq_true rfl) (C_X4_join v3 (((v128).toInt64)) (((v129).toInt64)) σ _ (ps_bdE hK)) ?_
                  intro v130 σ131 hT
                  clear hK
                  have hK := hT
                  clear hT
                  refine ps_cSI d_X4_reckon_184 ms_X4_kept (As := [.long v130]) rfl rfl (ps_room.of (by omega) (by decide)) (Nat.le_of_ble_eq_true rfl) (C_X4_kept v130 σ131 _ (ps_bdE hK)) ?_
                  intro v132 σ133 hT
                  clear hK
                  have hK := hT
                  clear hT
                  obtain ⟨b136, hT⟩ := ps_gd hK
                  replace hK := hT
                  clear hT
                  refine ps_iast d_X4_reckon_187 at_25 a_4_4 (ps_in_of b136) ?_
                  refine ps_nmS (fun σ134 eσ134 => ?_)
                  replace hK := ps_ltE eσ134 hK
                  refine pm_goto d_X4_reckon_188 ?_
                  refine pm_inc9 d_X4_reckon_264 rfl ?_
                  obtain ⟨v135, ev135⟩ : ∃ y : Int32, y = x9 + 1 := ⟨_, rfl⟩
                  rw [← ev135]
                  replace hK := ps_ltE ev135 hK
                  refine pm_goto d_X4_reckon_267 ?_
                  refine pm_wk (ls' := [some (.ref (g.2.2.1 + 22)), some (.int y1), some (.int y2), some (.int y3), some (.int y4), some (.int y5), some (.int y6), some (.ref (g.2.2.1 + (12 + 8))), some (.int v127), some (.int v135), none]) ⟨rfl, ⟨rfl, ⟨rfl, ⟨rfl, ⟨rfl, ⟨rfl, ⟨rfl, ⟨rfl, ⟨rfl, ⟨rfl, trivial⟩⟩⟩⟩⟩⟩⟩⟩⟩⟩ ?_
                  exact ih _ _ _ hK
            · replace hK := ps_ifF c72 hK
              refine pm_ald d_X4_reckon_113 rfl ?_
              refine ps_getR (q := 25) d_X4_reckon_114 at_22 f_4_1_3 rfl ?_
              refine pm_ild d_X4_reckon_117 rfl ?_
              refine pm_ki d_X4_reckon_119 ?_
              refine pm_isub d_X4_reckon_120 ?_
              refine pm_ki d_X4_reckon_121 ?_
              refine pm_ald d_X4_reckon_122 rfl ?_
              refine ps_getR (q := 25) d_X4_reckon_123 at_22 f_4_1_3 rfl ?_
              refine pm_ild d_X4_reckon_126 rfl ?_
              refine pm_ki d_X4_reckon_128 ?_
              refine pm_isub d_X4_reckon_129 ?_
              obtain ⟨b143, hT⟩ := ps_gd hK
              replace hK := hT
              clear hT
              refine ps_iald d_X4_reckon_130 at_25 a_4_4 (ps_in_of b143) rfl ?_
              refine ps_topI (fun v139 ev139 => ?_)
              replace hK := ps_ltE ev139 hK
              refine pm_isub d_X4_reckon_131 ?_
              obtain ⟨b142, hT⟩ := ps_gd hK
              replace hK := hT
              clear hT
              refine ps_iast d_X4_reckon_132 at_25 a_4_4 (ps_in_of b142) ?_
              refine ps_nmS (fun σ140 eσ140 => ?_)
              replace hK := ps_ltE eσ140 hK
              refine pm_goto d_X4_reckon_133 ?_
              refine pm_inc9 d_X4_reckon_264 rfl ?_
              obtain ⟨v141, ev141⟩ : ∃ y : Int32, y = x9 + 1 := ⟨_, rfl⟩
              rw [← ev141]
              replace hK := ps_ltE ev141 hK
              refine pm_goto d_X4_reckon_267 ?_
              refine pm_wk (ls' := [some (.ref (g.2.2.1 + 22)), some (.int y1), some (.int y2), some (.int y3), some (.int y4), some (.int y5), some (.int y6), some (.ref (g.2.2.1 + (12 + 8))), some (.int x8), some (.int v141), none]) ⟨rfl, ⟨rfl, ⟨rfl, ⟨rfl, ⟨rfl, ⟨rfl, ⟨rfl, ⟨rfl, ⟨rfl, ⟨rfl, trivial⟩⟩⟩⟩⟩⟩⟩⟩⟩⟩ ?_
              exact ih _ _ _ hK
        · replace hK := ps_ifT c4 hK
          refine pm_ild d_X4_reckon_47 rfl ?_
          refine pm_ki d_X4_reckon_49 ?_
          refine pm_icmp_lt d_X4_reckon_50 (fun c144 => ?_) (fun c144 => ?_)
          · replace hK := ps_ifT c144 hK
            refine pm_ild d_X4_reckon_99 rfl ?_
            refine pm_ki d_X4_reckon_101 ?_
            refine pm_icmp_ne d_X4_reckon_104 (fun c145 => ?_) (fun c145 => ?_)
            · replace hK := ps_ifF c145 hK
              refine pm_ild d_X4_reckon_136 rfl ?_
              refine pm_ki d_X4_reckon_138 ?_
              refine pm_icmp_lt d_X4_reckon_141 (fun c146 => ?_) (fun c146 => ?_)
              · replace hK := ps_ifT c146 hK
                refine pm_ild d_X4_reckon_191 rfl ?_
                refine pm_ki d_X4_reckon_193 ?_
                refine pm_icmp_ge d_X4_reckon_195 (fun c147 => ?_) (fun c147 => ?_)
                · replace hK := ps_ifT c147 hK
                  refine pm_inc9 d_X4_reckon_264 rfl ?_
                  obtain ⟨v148, ev148⟩ : ∃ y : Int32, y = x9 + 1 := ⟨_, rfl⟩
                  rw [← ev148]
                  replace hK := ps_ltE ev148 hK
                  refine pm_goto d_X4_reckon_267 ?_
                  refine pm_wk (ls' := [some (.ref (g.2.2.1 + 22)), some (.int y1), some (.int y2), some (.int y3), some (.int y4), some (.int y5), some (.int y6), some (.ref (g.2.2.1 + (12 + 8))), some (.int x8), some (.int v148), none]) ⟨rfl, ⟨rfl, ⟨rfl, ⟨rfl, ⟨rfl, ⟨rfl, ⟨rfl, ⟨rfl, ⟨rfl, ⟨rfl, trivial⟩⟩⟩⟩⟩⟩⟩⟩⟩⟩ ?_
                  exact ih _ _ _ hK
                · replace hK := ps_ifF c147 hK
                  refine pm_ald d_X4_reckon_198 rfl ?_
                  refine ps_getR (q := 25) d_X4_reckon_199 at_22 f_4_1_3 rfl ?_
                  refine pm_ild d_X4_reckon_202 rfl ?_
                  refine pm_ild d_X4_reckon_204 rfl ?_
                  refine pm_ki d_X4_reckon_206 ?_
                  refine pm_icmp_ne d_X4_reckon_209 (fun c149 => ?_) (fun c149 => ?_)
                  · replace hK := ps_ifF c149 hK
                    refine pm_ild d_X4_reckon_219 rfl ?_
                    refine pm_ki d_X4_reckon_221 ?_
                    refine pm_icmp_ne d_X4_reckon_224 (fun c150 => ?_) (fun c150 => ?_)
                    · replace hK := ps_ifF c150 hK
                      refine pm_ild d_X4_reckon_232 rfl ?_
                      refine pm_ki d_X4_reckon_234 ?_
                      refine pm_icmp_ne d_X4_reckon_237 (fun c151 => ?_) (fun c151 => ?_)
                      · replace hK := ps_ifF c151 hK
                        refine pm_ild d_X4_reckon_245 rfl ?_
                        refine pm_ki d_X4_reckon_247 ?_
                        refine pm_icmp_ne d_X4_reckon_250 (fun c152 => ?_) (fun c152 => ?_)
                        · replace hK := ps_ifF c152 hK
                          refine pm_ild d_X4_reckon_258 rfl ?_
                          obtain ⟨b156, hT⟩ := ps_gd hK
                          replace hK := hT
                          clear hT
                          refine ps_iast d_X4_reckon_260 at_25 a_4_4 (ps_in_of b156) ?_
                          refine ps_nmS (fun σ153 eσ153 => ?_)
                          replace hK := ps_ltE eσ153 hK
                          refine pm_inc8 d_X4_reckon_261 rfl ?_
                          obtain ⟨v154, ev154⟩ : ∃ y : Int32, y = x8 + 1 := ⟨_, rfl⟩
                          rw [← ev154]
                          replace hK := ps_ltE ev154 hK
                          refine pm_inc9 d_X4_reckon_264 rfl ?_
                          obtain ⟨v155, ev155⟩ : ∃ y : Int32, y = x9 + 1 := ⟨_, rfl⟩
                          rw [← ev155]
                          replace hK := ps_ltE ev155 hK
                          refine pm_goto d_X4_reckon_267 ?_
                          refine pm_wk (ls' := [some (.ref (g.2.2.1 + 22)), some (.int y1), some (.int y2), some (.int y3), some (.int y4), some (.int y5), some (.int y6), some (.ref (g.2.2.1 + (12 + 8))), some (.int v154), some (.int v155), none]) ⟨rfl, ⟨rfl, ⟨rfl, ⟨rfl, ⟨rfl, ⟨rfl, ⟨rfl, ⟨rfl, ⟨rfl, ⟨rfl, trivial⟩⟩⟩⟩⟩⟩⟩⟩⟩⟩ ?_
                          exact ih _ _ _ hK
                        · replace hK := ps_ifT c152 hK
                          refine pm_ild d_X4_reckon_253 rfl ?_
                          refine pm_goto d_X4_reckon_255 ?_
                          obtain ⟨b160, hT⟩ := ps_gd hK
                          replace hK := hT
                          clear hT
                          refine ps_iast d_X4_reckon_260 at_25 a_4_4 (ps_in_of b160) ?_
                          refine ps_nmS (fun σ157 eσ157 => ?_)
                          replace hK := ps_ltE eσ157 hK
                          refine pm_inc8 d_X4_reckon_261 rfl ?_
                          obtain ⟨v158, ev158⟩ : ∃ y : Int32, y = x8 + 1 := ⟨_, rfl⟩
                          rw [← ev158]
                          replace hK := ps_ltE ev158 hK
                          refine pm_inc9 d_X4_reckon_264 rfl ?_
                          obtain ⟨v159, ev159⟩ : ∃ y : Int32, y = x9 + 1 := ⟨_, rfl⟩
                          rw [← ev159]
                          replace hK := ps_ltE ev159 hK
                          refine pm_goto d_X4_reckon_267 ?_
                          refine pm_wk (ls' := [some (.ref (g.2.2.1 + 22)), some (.int y1), some (.int y2), some (.int y3), some (.int y4), some (.int y5), some (.int y6), some (.ref (g.2.2.1 + (12 + 8))), some (.int v158), some (.int v159), none]) ⟨rfl, ⟨rfl, ⟨rfl, ⟨rfl, ⟨rfl, ⟨rfl, ⟨rfl, ⟨rfl, ⟨rfl, ⟨rfl, trivial⟩⟩⟩⟩⟩⟩⟩⟩⟩⟩ ?_
                          exact ih _ _ _ hK
                      · replace hK := ps_ifT c151 hK
                        refine pm_ild d_X4_reckon_240 rfl ?_
                        refine pm_goto d_X4_reckon_242 ?_
                        obtain ⟨b164, hT⟩ := ps_gd hK
                        replace hK := hT
                        clear hT
                        refine ps_iast d_X4_reckon_260 at_25 a_4_4 (ps_in_of b164) ?_
                        refine ps_nmS (fun σ161 eσ161 => ?_)
                        replace hK := ps_ltE eσ161 hK
                        refine pm_inc8 d_X4_reckon_261 rfl ?_
                        obtain ⟨v162, ev162⟩ : ∃ y : Int32, y = x8 + 1 := ⟨_, rfl⟩
                        rw [← ev162]
                        replace hK := ps_ltE ev162 hK
                        refine pm_inc9 d_X4_reckon_264 rfl ?_
                        obtain ⟨v163, ev163⟩ : ∃ y : Int32, y = x9 + 1 := ⟨_, rfl⟩
                        rw [← ev163]
                        replace hK := ps_ltE ev163 hK
                        refine pm_goto d_X4_reckon_267 ?_
                        refine pm_wk (ls' := [some (.ref (g.2.2.1 + 22)), some (.int y1), some (.int y2), some (.int y3), some (.int y4), some (.int y5), some (.int y6), some (.ref (g.2.2.1 + (12 + 8))), some (.int v162), some (.int v163), none]) ⟨rfl, ⟨rfl, ⟨rfl, ⟨rfl, ⟨rfl, ⟨rfl, ⟨rfl, ⟨rfl, ⟨rfl, ⟨rfl, trivial⟩⟩⟩⟩⟩⟩⟩⟩⟩⟩ ?_
                        exact ih _ _ _ hK
                    · replace hK := ps_ifT c150 hK
                      refine pm_ild d_X4_reckon_227 rfl ?_
                      refine pm_goto d_X4_reckon_229 ?_
                      obtain ⟨b168, hT⟩ := ps_gd hK
                      replace hK := hT
                      clear hT
                      refine ps_iast d_X4_reckon_260 at_25 a_4_4 (ps_in_of b168) ?_
                      refine ps_nmS (fun σ165 eσ165 => ?_)
                      replace hK := ps_ltE eσ165 hK
                      refine pm_inc8 d_X4_reckon_261 rfl ?_
                      obtain ⟨v166, ev166⟩ : ∃ y : Int32, y = x8 + 1 := ⟨_, rfl⟩
                      rw [← ev166]
                      replace hK := ps_ltE ev166 hK
                      refine pm_inc9 d_X4_reckon_264 rfl ?_
                      obtain ⟨v167, ev167⟩ : ∃ y : Int32, y = x9 + 1 := ⟨_, rfl⟩
                      rw [← ev167]
                      replace hK := ps_ltE ev167 hK
                      refine pm_goto d_X4_reckon_267 ?_
                      refine pm_wk (ls' := [some (.ref (g.2.2.1 + 22)), some (.int y1), some (.int y2), some (.int y3), some (.int y4), some (.int y5), some (.int y6), some (.ref (g.2.2.1 + (12 + 8))), some (.int v166), some (.int v167), none]) ⟨rfl, ⟨rfl, ⟨rfl, ⟨rfl, ⟨rfl, ⟨rfl, ⟨rfl, ⟨rfl, ⟨rfl, ⟨rfl, trivial⟩⟩⟩⟩⟩⟩⟩⟩⟩⟩ ?_
                      exact ih _ _ _ hK
                  · replace hK := ps_ifT c149 hK
                    refine pm_ild d_X4_reckon_212 rfl ?_
                    refine pm_ki d_X4_reckon_213 ?_
                    refine pm_irem d_X4_reckon_215 (by decide) ?_
                    refine pm_goto d_X4_reckon_216 ?_
                    obtain ⟨b172, hT⟩ := ps_gd hK
                    replace hK := hT
                    clear hT
                    refine ps_iast d_X4_reckon_260 at_25 a_4_4 (ps_in_of b172) ?_
                    refine ps_nmS (fun σ169 eσ169 => ?_)
                    replace hK := ps_ltE eσ169 hK
                    refine pm_inc8 d_X4_reckon_261 rfl ?_
                    obtain ⟨v170, ev170⟩ : ∃ y : Int32, y = x8 + 1 := ⟨_, rfl⟩
                    rw [← ev170]
                    replace hK := ps_ltE ev170 hK
                    refine pm_inc9 d_X4_reckon_264 rfl ?_
                    obtain ⟨v171, ev171⟩ : ∃ y : Int32, y = x9 + 1 := ⟨_, rfl⟩
                    rw [← ev171]
                    replace hK := ps_ltE ev171 hK
                    refine pm_goto d_X4_reckon_267 ?_
                    refine pm_wk (ls' := [some (.ref (g.2.2.1 + 22)), some (.int y1), some (.int y2), some (.int y3), some (.int y4), some (.int y5), some (.int y6), some (.ref (g.2.2.1 + (12 + 8))), some (.int v170), some (.int v171), none]) ⟨rfl, ⟨rfl, ⟨rfl, ⟨rfl, ⟨rfl, ⟨rfl, ⟨rfl, ⟨rfl, ⟨rfl, ⟨rfl, trivial⟩⟩⟩⟩⟩⟩⟩⟩⟩⟩ ?_
                    exact ih _ _ _ hK
              · replace hK := ps_ifF c146 hK
                refine pm_ild d_X4_reckon_144 rfl ?_
                refine pm_ki d_X4_reckon_146 ?_
                refine pm_icmp_lt d_X4_reckon_147 (fun c173 => ?_) (fun c173 => ?_)
                · replace hK := ps_ifT c173 hK
                  refine pm_ild d_X4_reckon_191 rfl ?_
                  refine pm_ki d_X4_reckon_193 ?_
                  refine pm_icmp_ge d_X4_reckon_195 (fun c174 => ?_) (fun c174 => ?_)
                  · replace hK := ps_ifT c174 hK
                    refine pm_inc9 d_X4_reckon_264 rfl ?_
                    obtain ⟨v175, ev175⟩ : ∃ y : Int32, y = x9 + 1 := ⟨_, rfl⟩
                    rw [← ev175]
                    replace hK := ps_ltE ev175 hK
                    refine pm_goto d_X4_reckon_267 ?_
                    refine pm_wk (ls' := [some (.ref (g.2.2.1 + 22)), some (.int y1), some (.int y2), some (.int y3), some (.int y4), some (.int y5), some (.int y6), some (.ref (g.2.2.1 + (12 + 8))), some (.int x8), some (.int v175), none]) ⟨rfl, ⟨rfl, ⟨rfl, ⟨rfl, ⟨rfl, ⟨rfl, ⟨rfl, ⟨rfl, ⟨rfl, ⟨rfl, trivial⟩⟩⟩⟩⟩⟩⟩⟩⟩⟩ ?_
                    exact ih _ _ _ hK
                  · replace hK := ps_ifF c174 hK
                    refine pm_ald d_X4_reckon_198 rfl ?_
                    refine ps_getR (q := 25) d_X4_reckon_199 at_22 f_4_1_3 rfl ?_
                    refine pm_ild d_X4_reckon_202 rfl ?_
                    refine pm_ild d_X4_reckon_204 rfl ?_
                    refine pm_ki d_X4_reckon_206 ?_
                    refine pm_icmp_ne d_X4_reckon_209 (fun c176 => ?_) (fun c176 => ?_)
                    · replace hK := ps_ifF c176 hK
                      refine pm_ild d_X4_reckon_219 rfl ?_
                      refine pm_ki d_X4_reckon_221 ?_
                      refine pm_icmp_ne d_X4_reckon_224 (fun c177 => ?_) (fun c177 => ?_)
                      · replace hK := ps_ifF c177 hK
                        refine pm_ild d_X4_reckon_232 rfl ?_
                        refine pm_ki d_X4_reckon_234 ?_
                        refine pm_icmp_ne d_X4_reckon_237 (fun c178 => ?_) (fun c178 => ?_)
                        · replace hK := ps_ifF c178 hK
                          refine pm_ild d_X4_reckon_245 rfl ?_
                          refine pm_ki d_X4_reckon_247 ?_
                          refine pm_icmp_ne d_X4_reckon_250 (fun c179 => ?_) (fun c179 => ?_)
                          · replace hK := ps_ifF c179 hK
                            refine pm_ild d_X4_reckon_258 rfl ?_
                            obtain ⟨b183, hT⟩ := ps_gd hK
                            replace hK := hT
                            clear hT
                            refine ps_iast d_X4_reckon_260 at_25 a_4_4 (ps_in_of b183) ?_
                            refine ps_nmS (fun σ180 eσ180 => ?_)
                            replace hK := ps_ltE eσ180 hK
                            refine pm_inc8 d_X4_reckon_261 rfl ?_
                            obtain ⟨v181, ev181⟩ : ∃ y : Int32, y = x8 + 1 := ⟨_, rfl⟩
                            rw [← ev181]
                            replace hK := ps_ltE ev181 hK
                            refine pm_inc9 d_X4_reckon_264 rfl ?_
                            obtain ⟨v182, ev182⟩ : ∃ y : Int32, y = x9 + 1 := ⟨_, rfl⟩
                            rw [← ev182]
                            replace hK := ps_ltE ev182 hK
                            refine pm_goto d_X4_reckon_267 ?_
                            refine pm_wk (ls' := [some (.ref (g.2.2.1 + 22)), some (.int y1), some (.int y2), some (.int y3), some (.int y4), some (.int y5), some (.int y6), some (.ref (g.2.2.1 + (12 + 8))), some (.int v181), some (.int v182), none]) ⟨rfl, ⟨rfl, ⟨rfl, ⟨rfl, ⟨rfl, ⟨rfl, ⟨rfl, ⟨rfl, ⟨rfl, ⟨rfl, trivial⟩⟩⟩⟩⟩⟩⟩⟩⟩⟩ ?_
                            exact ih _ _ _ hK
                          · replace hK := ps_ifT c179 hK
                            refine pm_ild d_X4_reckon_253 rfl ?_
                            refine pm_goto d_X4_reckon_255 ?_
                            obtain ⟨b187, hT⟩ := ps_gd hK
                            replace hK := hT
                            clear hT
                            refine ps_iast d_X4_reckon_260 at_25 a_4_4 (ps_in_of b187) ?_
                            refine ps_nmS (fun σ184 eσ184 => ?_)
                            replace hK := ps_ltE eσ184 hK
                            refine pm_inc8 d_X4_reckon_261 rfl ?_
                            obtain ⟨v185, ev185⟩ : ∃ y : Int32, y = x8 + 1 := ⟨_, rfl⟩
                            rw [← ev185]
                            replace hK := ps_ltE ev185 hK
                            refine pm_inc9 d_X4_reckon_264 rfl ?_
                            obtain ⟨v186, ev186⟩ : ∃ y : Int32, y = x9 + 1 := ⟨_, rfl⟩
                            rw [← ev186]
                            replace hK := ps_ltE ev186 hK
                            refine pm_goto d_X4_reckon_267 ?_
                            refine pm_wk (ls' := [some (.ref (g.2.2.1 + 22)), some (.int y1), some (.int y2), some (.int y3), some (.int y4), some (.int y5), some (.int y6), some (.ref (g.2.2.1 + (12 + 8))), some (.int v185), some (.int v186), none]) ⟨rfl, ⟨rfl, ⟨rfl, ⟨rfl, ⟨rfl, ⟨rfl, ⟨rfl, ⟨rfl, ⟨rfl, ⟨rfl, trivial⟩⟩⟩⟩⟩⟩⟩⟩⟩⟩ ?_
                            exact ih _ _ _ hK
                        · replace hK := ps_ifT c178 hK
                          refine pm_ild d_X4_reckon_240 rfl ?_
                          refine pm_goto d_X4_reckon_242 ?_
                          obtain ⟨b191, hT⟩ := ps_gd hK
                          replace hK := hT
                          clear hT
                          refine ps_iast d_X4_reckon_260 at_25 a_4_4 (ps_in_of b191) ?_
                          refine ps_nmS (fun σ188 eσ188 => ?_)
                          replace hK := ps_ltE eσ188 hK
                          refine pm_inc8 d_X4_reckon_261 rfl ?_
                          obtain ⟨v189, ev189⟩ : ∃ y : Int32, y = x8 + 1 := ⟨_, rfl⟩
                          rw [← ev189]
                          replace hK := ps_ltE ev189 hK
                          refine pm_inc9 d_X4_reckon_264 rfl ?_
                          obtain ⟨v190, ev190⟩ : ∃ y : Int32, y = x9 + 1 := ⟨_, rfl⟩
                          rw [← ev190]
                          replace hK := ps_ltE ev190 hK
                          refine pm_goto d_X4_reckon_267 ?_
                          refine pm_wk (ls' := [some (.ref (g.2.2.1 + 22)), some (.int y1), some (.int y2), some (.int y3), some (.int y4), some (.int y5), some (.int y6), some (.ref (g.2.2.1 + (12 + 8))), some (.int v189), some (.int v190), none]) ⟨rfl, ⟨rfl, ⟨rfl, ⟨rfl, ⟨rfl, ⟨rfl, ⟨rfl, ⟨rfl, ⟨rfl, ⟨rfl, trivial⟩⟩⟩⟩⟩⟩⟩⟩⟩⟩ ?_
                          exact ih _ _ _ hK
                      · replace hK := ps_ifT c177 hK
                        refine pm_ild d_X4_reckon_227 rfl ?_
                        refine pm_goto d_X4_reckon_229 ?_
                        obtain ⟨b195, hT⟩ := ps_gd hK
                        replace hK := hT
                        clear hT
                        refine ps_iast d_X4_reckon_260 at_25 a_4_4 (ps_in_of b195) ?_
                        refine ps_nmS (fun σ192 eσ192 => ?_)
                        replace hK := ps_ltE eσ192 hK
                        refine pm_inc8 d_X4_reckon_261 rfl ?_
                        obtain ⟨v193, ev193⟩ : ∃ y : Int32, y = x8 + 1 := ⟨_, rfl⟩
                        rw [← ev193]
                        replace hK := ps_ltE ev193 hK
                        refine pm_inc9 d_X4_reckon_264 rfl ?_
                        obtain ⟨v194, ev194⟩ : ∃ y : Int32, y = x9 + 1 := ⟨_, rfl⟩
                        rw [← ev194]
                        replace hK := ps_ltE ev194 hK
                        refine pm_goto d_X4_reckon_267 ?_
                        refine pm_wk (ls' := [some (.ref (g.2.2.1 + 22)), some (.int y1), some (.int y2), some (.int y3), some (.int y4), some (.int y5), some (.int y6), some (.ref (g.2.2.1 + (12 + 8))), some (.int v193), some (.int v194), none]) ⟨rfl, ⟨rfl, ⟨rfl, ⟨rfl, ⟨rfl, ⟨rfl, ⟨rfl, ⟨rfl, ⟨rfl, ⟨rfl, trivial⟩⟩⟩⟩⟩⟩⟩⟩⟩⟩ ?_
                        exact ih _ _ _ hK
                    · replace hK := ps_ifT c176 hK
                      refine pm_ild d_X4_reckon_212 rfl ?_
                      refine pm_ki d_X4_reckon_213 ?_
                      refine pm_irem d_X4_reckon_215 (by decide) ?_
                      refine pm_goto d_X4_reckon_216 ?_
                      obtain ⟨b199, hT⟩ := ps_gd hK
                      replace hK := hT
                      clear hT
                      refine ps_iast d_X4_reckon_260 at_25 a_4_4 (ps_in_of b199) ?_
                      refine ps_nmS (fun σ196 eσ196 => ?_)
                      replace hK := ps_ltE eσ196 hK
                      refine pm_inc8 d_X4_reckon_261 rfl ?_
                      obtain ⟨v197, ev197⟩ : ∃ y : Int32, y = x8 + 1 := ⟨_, rfl⟩
                      rw [← ev197]
                      replace hK := ps_ltE ev197 hK
                      refine pm_inc9 d_X4_reckon_264 rfl ?_
                      obtain ⟨v198, ev198⟩ : ∃ y : Int32, y = x9 + 1 := ⟨_, rfl⟩
                      rw [← ev198]
                      replace hK := ps_ltE ev198 hK
                      refine pm_goto d_X4_reckon_267 ?_
                      refine pm_wk (ls' := [some (.ref (g.2.2.1 + 22)), some (.int y1), some (.int y2), some (.int y3), some (.int y4), some (.int y5), some (.int y6), some (.ref (g.2.2.1 + (12 + 8))), some (.int v197), some (.int v198), none]) ⟨rfl, ⟨rfl, ⟨rfl, ⟨rfl, ⟨rfl, ⟨rfl, ⟨rfl, ⟨rfl, ⟨rfl, ⟨rfl, trivial⟩⟩⟩⟩⟩⟩⟩⟩⟩⟩ ?_
                      exact ih _ _ _ hK
                · replace hK := ps_ifF c173 hK
                  refine pm_inc8 d_X4_reckon_150 rfl ?_
                  obtain ⟨v200, ev200⟩ : ∃ y : Int32, y = x8 + (-1) := ⟨_, rfl⟩
                  rw [← ev200]
                  replace hK := ps_ltE ev200 hK
                  refine pm_ald d_X4_reckon_153 rfl ?_
                  refine ps_getR (q := 25) d_X4_reckon_154 at_22 f_4_1_3 rfl ?_
                  refine pm_ild d_X4_reckon_157 rfl ?_
                  refine pm_ki d_X4_reckon_159 ?_
                  refine pm_isub d_X4_reckon_160 ?_
                  refine pm_ild d_X4_reckon_161 rfl ?_
                  refine pm_ald d_X4_reckon_163 rfl ?_
                  refine ps_getR (q := 25) d_X4_reckon_164 at_22 f_4_1_3 rfl ?_
                  refine pm_ild d_X4_reckon_167 rfl ?_
                  refine pm_ki d_X4_reckon_169 ?_
                  refine pm_isub d_X4_reckon_170 ?_
                  obtain ⟨b211, hT⟩ := ps_gd hK
                  replace hK := hT
                  clear hT
                  refine ps_iald d_X4_reckon_171 at_25 a_4_4 (ps_in_of b211) rfl ?_
                  refine ps_topI (fun v201 ev201 => ?_)
                  replace hK := ps_ltE ev201 hK
                  refine pm_i2l d_X4_reckon_172 ?_
                  refine pm_ald d_X4_reckon_173 rfl ?_
                  refine ps_getR (q := 25) d_X4_reckon_174 at_22 f_4_1_3 rfl ?_
                  refine pm_ild d_X4_reckon_177 rfl ?_
                  obtain ⟨b210, hT⟩ := ps_gd hK
                  replace hK := hT
                  clear hT
                  refine ps_iald d_X4_reckon_179 at_25 a_4_4 (ps_in_of b210) rfl ?_
                  refine ps_topI (fun v202 ev202 => ?_)
                  replace hK := ps_ltE ev202 hK
                  refine pm_i2l d_X4_reckon_180 ?_
                  refine ps_cSL d_X4_reckon_181 ms_X4_join (As := [.int v3, .long ((v201).toInt64), .long ((v202).toInt64)]) rfl rfl (ps_room.of (by omega) (by decide)) (Nat.le_of_ble_eq_true rfl) (C_X4_join v3 (((v201).toInt64)) (((v202).toInt64)) σ _ (ps_bdE hK)) ?_
                  intro v203 σ204 hT
                  clear hK
                  have hK := hT
                  clear hT
                  refine ps_cSI d_X4_reckon_184 ms_X4_kept (As := [.long v203]) rfl rfl (ps_room.of (by omega) (by decide)) (Nat.le_of_ble_eq_true rfl) (C_X4_kept v203 σ204 _ (ps_bdE hK)) ?_
                  intro v205 σ206 hT
                  clear hK
                  have hK := hT
                  clear hT
                  obtain ⟨b209, hT⟩ := ps_gd hK
                  replace hK := hT
                  clear hT
                  refine ps_iast d_X4_reckon_187 at_25 a_4_4 (ps_in_of b209) ?_
                  refine ps_nmS (fun σ207 eσ207 => ?_)
                  replace hK := ps_ltE eσ207 hK
                  refine pm_goto d_X4_reckon_188 ?_
                  refine pm_inc9 d_X4_reckon_264 rfl ?_
                  obtain ⟨v208, ev208⟩ : ∃ y : Int32, y = x9 + 1 := ⟨_, rfl⟩
                  rw [← ev208]
                  replace hK := ps_ltE ev208 hK
                  refine pm_goto d_X4_reckon_267 ?_
                  refine pm_wk (ls' := [some (.ref (g.2.2.1 + 22)), some (.int y1), some (.int y2), some (.int y3), some (.int y4), some (.int y5), some (.int y6), some (.ref (g.2.2.1 + (12 + 8))), some (.int v200), some (.int v208), none]) ⟨rfl, ⟨rfl, ⟨rfl, ⟨rfl, ⟨rfl, ⟨rfl, ⟨rfl, ⟨rfl, ⟨rfl, ⟨rfl, trivial⟩⟩⟩⟩⟩⟩⟩⟩⟩⟩ ?_
                  exact ih _ _ _ hK
            · replace hK := ps_ifT c145 hK
              refine pm_ild d_X4_reckon_107 rfl ?_
              refine pm_ki d_X4_reckon_109 ?_
              refine pm_icmp_lt d_X4_reckon_110 (fun c212 => ?_) (fun c212 => ?_)
              · replace hK := ps_ifT c212 hK
                refine pm_ild d_X4_reckon_136 rfl ?_
                refine pm_ki d_X4_reckon_138 ?_
                refine pm_icmp_lt d_X4_reckon_141 (fun c213 => ?_) (fun c213 => ?_)
                · replace hK := ps_ifT c213 hK
                  refine pm_ild d_X4_reckon_191 rfl ?_
                  refine pm_ki d_X4_reckon_193 ?_
                  refine pm_icmp_ge d_X4_reckon_195 (fun c214 => ?_) (fun c214 => ?_)
                  · replace hK := ps_ifT c214 hK
                    refine pm_inc9 d_X4_reckon_264 rfl ?_
                    obtain ⟨v215, ev215⟩ : ∃ y : Int32, y = x9 + 1 := ⟨_, rfl⟩
                    rw [← ev215]
                    replace hK := ps_ltE ev215 hK
                    refine pm_goto d_X4_reckon_267 ?_
                    refine pm_wk (ls' := [some (.ref (g.2.2.1 + 22)), some (.int y1), some (.int y2), some (.int y3), some (.int y4), some (.int y5), some (.int y6), some (.ref (g.2.2.1 + (12 + 8))), some (.int x8), some (.int v215), none]) ⟨rfl, ⟨rfl, ⟨rfl, ⟨rfl, ⟨rfl, ⟨rfl, ⟨rfl, ⟨rfl, ⟨rfl, ⟨rfl, trivial⟩⟩⟩⟩⟩⟩⟩⟩⟩⟩ ?_
                    exact ih _ _ _ hK
                  · replace hK := ps_ifF c214 hK
                    refine pm_ald d_X4_reckon_198 rfl ?_
                    refine ps_getR (q := 25) d_X4_reckon_199 at_22 f_4_1_3 rfl ?_
                    refine pm_ild d_X4_reckon_202 rfl ?_
                    refine pm_ild d_X4_reckon_204 rfl ?_
                    refine pm_ki d_X4_reckon_206 ?_
                    refine pm_icmp_ne d_X4_reckon_209 (fun c216 => ?_) (fun c216 => ?_)
                    · replace hK := ps_ifF c216 hK
                      refine pm_ild d_X4_reckon_219 rfl ?_
                      refine pm_ki d_X4_reckon_221 ?_
                      refine pm_icmp_ne d_X4_reckon_224 (fun c217 => ?_) (fun c217 => ?_)
                      · replace hK := ps_ifF c217 hK
                        refine pm_ild d_X4_reckon_232 rfl ?_
                        refine pm_ki d_X4_reckon_234 ?_
                        refine pm_icmp_ne d_X4_reckon_237 (fun c218 => ?_) (fun c218 => ?_)
                        · replace hK := ps_ifF c218 hK
                          refine pm_ild d_X4_reckon_245 rfl ?_
                          refine pm_ki d_X4_reckon_247 ?_
                          refine pm_icmp_ne d_X4_reckon_250 (fun c219 => ?_) (fun c219 => ?_)
                          · replace hK := ps_ifF c219 hK
                            refine pm_ild d_X4_reckon_258 rfl ?_
                            obtain ⟨b223, hT⟩ := ps_gd hK
                            replace hK := hT
                            clear hT
                            refine ps_iast d_X4_reckon_260 at_25 a_4_4 (ps_in_of b223) ?_
                            refine ps_nmS (fun σ220 eσ220 => ?_)
                            replace hK := ps_ltE eσ220 hK
                            refine pm_inc8 d_X4_reckon_261 rfl ?_
                            obtain ⟨v221, ev221⟩ : ∃ y : Int32, y = x8 + 1 := ⟨_, rfl⟩
                            rw [← ev221]
                            replace hK := ps_ltE ev221 hK
                            refine pm_inc9 d_X4_reckon_264 rfl ?_
                            obtain ⟨v222, ev222⟩ : ∃ y : Int32, y = x9 + 1 := ⟨_, rfl⟩
                            rw [← ev222]
                            replace hK := ps_ltE ev222 hK
                            refine pm_goto d_X4_reckon_267 ?_
                            refine pm_wk (ls' := [some (.ref (g.2.2.1 + 22)), some (.int y1), some (.int y2), some (.int y3), some (.int y4), some (.int y5), some (.int y6), some (.ref (g.2.2.1 + (12 + 8))), some (.int v221), some (.int v222), none]) ⟨rfl, ⟨rfl, ⟨rfl, ⟨rfl, ⟨rfl, ⟨rfl, ⟨rfl, ⟨rfl, ⟨rfl, ⟨rfl, trivial⟩⟩⟩⟩⟩⟩⟩⟩⟩⟩ ?_
                            exact ih _ _ _ hK
                          · replace hK := ps_ifT c219 hK
                            refine pm_ild d_X4_reckon_253 rfl ?_
                            refine pm_goto d_X4_reckon_255 ?_
                            obtain ⟨b227, hT⟩ := ps_gd hK
                            replace hK := hT
                            clear hT
                            refine ps_iast d_X4_reckon_260 at_25 a_4_4 (ps_in_of b227) ?_
                            refine ps_nmS (fun σ224 eσ224 => ?_)
                            replace hK := ps_ltE eσ224 hK
                            refine pm_inc8 d_X4_reckon_261 rfl ?_
                            obtain ⟨v225, ev225⟩ : ∃ y : Int32, y = x8 + 1 := ⟨_, rfl⟩
                            rw [← ev225]
                            replace hK := ps_ltE ev225 hK
                            refine pm_inc9 d_X4_reckon_264 rfl ?_
                            obtain ⟨v226, ev226⟩ : ∃ y : Int32, y = x9 + 1 := ⟨_, rfl⟩
                            rw [← ev226]
                            replace hK := ps_ltE ev226 hK
                            refine pm_goto d_X4_reckon_267 ?_
                            refine pm_wk (ls' := [some (.ref (g.2.2.1 + 22)), some (.int y1), some (.int y2), some (.int y3), some (.int y4), some (.int y5), some (.int y6), some (.ref (g.2.2.1 + (12 + 8))), some (.int v225), some (.int v226), none]) ⟨rfl, ⟨rfl, ⟨rfl, ⟨rfl, ⟨rfl, ⟨rfl, ⟨rfl, ⟨rfl, ⟨rfl, ⟨rfl, trivial⟩⟩⟩⟩⟩⟩⟩⟩⟩⟩ ?_
                            exact ih _ _ _ hK
                        · replace hK := ps_ifT c218 hK
                          refine pm_ild d_X4_reckon_240 rfl ?_
                          refine pm_goto d_X4_reckon_242 ?_
                          obtain ⟨b231, hT⟩ := ps_gd hK
                          replace hK := hT
                          clear hT
                          refine ps_iast d_X4_reckon_260 at_25 a_4_4 (ps_in_of b231) ?_
                          refine ps_nmS (fun σ228 eσ228 => ?_)
                          replace hK := ps_ltE eσ228 hK
                          refine pm_inc8 d_X4_reckon_261 rfl ?_
                          obtain ⟨v229, ev229⟩ : ∃ y : Int32, y = x8 + 1 := ⟨_, rfl⟩
                          rw [← ev229]
                          replace hK := ps_ltE ev229 hK
                          refine pm_inc9 d_X4_reckon_264 rfl ?_
                          obtain ⟨v230, ev230⟩ : ∃ y : Int32, y = x9 + 1 := ⟨_, rfl⟩
                          rw [← ev230]
                          replace hK := ps_ltE ev230 hK
                          refine pm_goto d_X4_reckon_267 ?_
                          refine pm_wk (ls' := [some (.ref (g.2.2.1 + 22)), some (.int y1), some (.int y2), some (.int y3), some (.int y4), some (.int y5), some (.int y6), some (.ref (g.2.2.1 + (12 + 8))), some (.int v229), some (.int v230), none]) ⟨rfl, ⟨rfl, ⟨rfl, ⟨rfl, ⟨rfl, ⟨rfl, ⟨rfl, ⟨rfl, ⟨rfl, ⟨rfl, trivial⟩⟩⟩⟩⟩⟩⟩⟩⟩⟩ ?_
                          exact ih _ _ _ hK
                      · replace hK := ps_ifT c217 hK
                        refine pm_ild d_X4_reckon_227 rfl ?_
                        refine pm_goto d_X4_reckon_229 ?_
                        obtain ⟨b235, hT⟩ := ps_gd hK
                        replace hK := hT
                        clear hT
                        refine ps_iast d_X4_reckon_260 at_25 a_4_4 (ps_in_of b235) ?_
                        refine ps_nmS (fun σ232 eσ232 => ?_)
                        replace hK := ps_ltE eσ232 hK
                        refine pm_inc8 d_X4_reckon_261 rfl ?_
                        obtain ⟨v233, ev233⟩ : ∃ y : Int32, y = x8 + 1 := ⟨_, rfl⟩
                        rw [← ev233]
                        replace hK := ps_ltE ev233 hK
                        refine pm_inc9 d_X4_reckon_264 rfl ?_
                        obtain ⟨v234, ev234⟩ : ∃ y : Int32, y = x9 + 1 := ⟨_, rfl⟩
                        rw [← ev234]
                        replace hK := ps_ltE ev234 hK
                        refine pm_goto d_X4_reckon_267 ?_
                        refine pm_wk (ls' := [some (.ref (g.2.2.1 + 22)), some (.int y1), some (.int y2), some (.int y3), some (.int y4), some (.int y5), some (.int y6), some (.ref (g.2.2.1 + (12 + 8))), some (.int v233), some (.int v234), none]) ⟨rfl, ⟨rfl, ⟨rfl, ⟨rfl, ⟨rfl, ⟨rfl, ⟨rfl, ⟨rfl, ⟨rfl, ⟨rfl, trivial⟩⟩⟩⟩⟩⟩⟩⟩⟩⟩ ?_
                        exact ih _ _ _ hK
                    · replace hK := ps_ifT c216 hK
                      refine pm_ild d_X4_reckon_212 rfl ?_
                      refine pm_ki d_X4_reckon_213 ?_
                      refine pm_irem d_X4_reckon_215 (by decide) ?_
                      refine pm_goto d_X4_reckon_216 ?_
                      obtain ⟨b239, hT⟩ := ps_gd hK
                      replace hK := hT
                      clear hT
                      refine ps_iast d_X4_reckon_260 at_25 a_4_4 (ps_in_of b239) ?_
                      refine ps_nmS (fun σ236 eσ236 => ?_)
                      replace hK := ps_ltE eσ236 hK
                      refine pm_inc8 d_X4_reckon_261 rfl ?_
                      obtain ⟨v237, ev237⟩ : ∃ y : Int32, y = x8 + 1 := ⟨_, rfl⟩
                      rw [← ev237]
                      replace hK := ps_ltE ev237 hK
                      refine pm_inc9 d_X4_reckon_264 rfl ?_
                      obtain ⟨v238, ev238⟩ : ∃ y : Int32, y = x9 + 1 := ⟨_, rfl⟩
                      rw [← ev238]
                      replace hK := ps_ltE ev238 hK
                      refine pm_goto d_X4_reckon_267 ?_
                      refine pm_wk (ls' := [some (.ref (g.2.2.1 + 22)), some (.int y1), some (.int y2), some (.int y3), some (.int y4), some (.int y5), some (.int y6), some (.ref (g.2.2.1 + (12 + 8))), some (.int v237), some (.int v238), none]) ⟨rfl, ⟨rfl, ⟨rfl, ⟨rfl, ⟨rfl, ⟨rfl, ⟨rfl, ⟨rfl, ⟨rfl, ⟨rfl, trivial⟩⟩⟩⟩⟩⟩⟩⟩⟩⟩ ?_
                      exact ih _ _ _ hK
                · replace hK := ps_ifF c213 hK
                  refine pm_ild d_X4_reckon_144 rfl ?_
                  refine pm_ki d_X4_reckon_146 ?_
                  refine pm_icmp_lt d_X4_reckon_147 (fun c240 => ?_) (fun c240 => ?_)
                  · replace hK := ps_ifT c240 hK
                    refine pm_ild d_X4_reckon_191 rfl ?_
                    refine pm_ki d_X4_reckon_193 ?_
                    refine pm_icmp_ge d_X4_reckon_195 (fun c241 => ?_) (fun c241 => ?_)
                    · replace hK := ps_ifT c241 hK
                      refine pm_inc9 d_X4_reckon_264 rfl ?_
                      obtain ⟨v242, ev242⟩ : ∃ y : Int32, y = x9 + 1 := ⟨_, rfl⟩
                      rw [← ev242]
                      replace hK := ps_ltE ev242 hK
                      refine pm_goto d_X4_reckon_267 ?_
                      refine pm_wk (ls' := [some (.ref (g.2.2.1 + 22)), some (.int y1), some (.int y2), some (.int y3), some (.int y4), some (.int y5), some (.int y6), some (.ref (g.2.2.1 + (12 + 8))), some (.int x8), some (.int v242), none]) ⟨rfl, ⟨rfl, ⟨rfl, ⟨rfl, ⟨rfl, ⟨rfl, ⟨rfl, ⟨rfl, ⟨rfl, ⟨rfl, trivial⟩⟩⟩⟩⟩⟩⟩⟩⟩⟩ ?_
                      exact ih _ _ _ hK
                    · replace hK := ps_ifF c241 hK
                      refine pm_ald d_X4_reckon_198 rfl ?_
                      refine ps_getR (q := 25) d_X4_reckon_199 at_22 f_4_1_3 rfl ?_
                      refine pm_ild d_X4_reckon_202 rfl ?_
                      refine pm_ild d_X4_reckon_204 rfl ?_
                      refine pm_ki d_X4_reckon_206 ?_
                      refine pm_icmp_ne d_X4_reckon_209 (fun c243 => ?_) (fun c243 => ?_)
                      · replace hK := ps_ifF c243 hK
                        refine pm_ild d_X4_reckon_219 rfl ?_
                        refine pm_ki d_X4_reckon_221 ?_
                        refine pm_icmp_ne d_X4_reckon_224 (fun c244 => ?_) (fun c244 => ?_)
                        · replace hK := ps_ifF c244 hK
                          refine pm_ild d_X4_reckon_232 rfl ?_
                          refine pm_ki d_X4_reckon_234 ?_
                          refine pm_icmp_ne d_X4_reckon_237 (fun c245 => ?_) (fun c245 => ?_)
                          · replace hK := ps_ifF c245 hK
                            refine pm_ild d_X4_reckon_245 rfl ?_
                            refine pm_ki d_X4_reckon_247 ?_
                            refine pm_icmp_ne d_X4_reckon_250 (fun c246 => ?_) (fun c246 => ?_)
                            · replace hK := ps_ifF c246 hK
                              refine pm_ild d_X4_reckon_258 rfl ?_
                              obtain ⟨b250, hT⟩ := ps_gd hK
                              replace hK := hT
                              clear hT
                              refine ps_iast d_X4_reckon_260 at_25 a_4_4 (ps_in_of b250) ?_
                              refine ps_nmS (fun σ247 eσ247 => ?_)
                              replace hK := ps_ltE eσ247 hK
                              refine pm_inc8 d_X4_reckon_261 rfl ?_
                              obtain ⟨v248, ev248⟩ : ∃ y : Int32, y = x8 + 1 := ⟨_, rfl⟩
                              rw [← ev248]
                              replace hK := ps_ltE ev248 hK
                              refine pm_inc9 d_X4_reckon_264 rfl ?_
                              obtain ⟨v249, ev249⟩ : ∃ y : Int32, y = x9 + 1 := ⟨_, rfl⟩
                              rw [← ev249]
                              replace hK := ps_ltE ev249 hK
                              refine pm_goto d_X4_reckon_267 ?_
                              refine pm_wk (ls' := [some (.ref (g.2.2.1 + 22)), some (.int y1), some (.int y2), some (.int y3), some (.int y4), some (.int y5), some (.int y6), some (.ref (g.2.2.1 + (12 + 8))), some (.int v248), some (.int v249), none]) ⟨rfl, ⟨rfl, ⟨rfl, ⟨rfl, ⟨rfl, ⟨rfl, ⟨rfl, ⟨rfl, ⟨rfl, ⟨rfl, trivial⟩⟩⟩⟩⟩⟩⟩⟩⟩⟩ ?_
                              exact ih _ _ _ hK
                            · replace hK := ps_ifT c246 hK
                              refine pm_ild d_X4_reckon_253 rfl ?_
                              refine pm_goto d_X4_reckon_255 ?_
                              obtain ⟨b254, hT⟩ := ps_gd hK
                              replace hK := hT
                              clear hT
                              refine ps_iast d_X4_reckon_260 at_25 a_4_4 (ps_in_of b254) ?_
                              refine ps_nmS (fun σ251 eσ251 => ?_)
                              replace hK := ps_ltE eσ251 hK
                              refine pm_inc8 d_X4_reckon_261 rfl ?_
                              obtain ⟨v252, ev252⟩ : ∃ y : Int32, y = x8 + 1 := ⟨_, rfl⟩
                              rw [← ev252]
                              replace hK := ps_ltE ev252 hK
                              refine pm_inc9 d_X4_reckon_264 rfl ?_
                              obtain ⟨v253, ev253⟩ : ∃ y : Int32, y = x9 + 1 := ⟨_, rfl⟩
                              rw [← ev253]
                              replace hK := ps_ltE ev253 hK
                              refine pm_goto d_X4_reckon_267 ?_
                              refine pm_wk (ls' := [some (.ref (g.2.2.1 + 22)), some (.int y1), some (.int y2), some (.int y3), some (.int y4), some (.int y5), some (.int y6), some (.ref (g.2.2.1 + (12 + 8))), some (.int v252), some (.int v253), none]) ⟨rfl, ⟨rfl, ⟨rfl, ⟨rfl, ⟨rfl, ⟨rfl, ⟨rfl, ⟨rfl, ⟨rfl, ⟨rfl, trivial⟩⟩⟩⟩⟩⟩⟩⟩⟩⟩ ?_
                              exact ih _ _ _ hK
                          · replace hK := ps_ifT c245 hK
                            refine pm_ild d_X4_reckon_240 rfl ?_
                            refine pm_goto d_X4_reckon_242 ?_
                            obtain ⟨b258, hT⟩ := ps_gd hK
                            replace hK := hT
                            clear hT
                            refine ps_iast d_X4_reckon_260 at_25 a_4_4 (ps_in_of b258) ?_
                            refine ps_nmS (fun σ255 eσ255 => ?_)
                            replace hK := ps_ltE eσ255 hK
                            refine pm_inc8 d_X4_reckon_261 rfl ?_
                            obtain ⟨v256, ev256⟩ : ∃ y : Int32, y = x8 + 1 := ⟨_, rfl⟩
                            rw [← ev256]
                            replace hK := ps_ltE ev256 hK
                            refine pm_inc9 d_X4_reckon_264 rfl ?_
                            obtain ⟨v257, ev257⟩ : ∃ y : Int32, y = x9 + 1 := ⟨_, rfl⟩
                            rw [← ev257]
                            replace hK := ps_ltE ev257 hK
                            refine pm_goto d_X4_reckon_267 ?_
                            refine pm_wk (ls' := [some (.ref (g.2.2.1 + 22)), some (.int y1), some (.int y2), some (.int y3), some (.int y4), some (.int y5), some (.int y6), some (.ref (g.2.2.1 + (12 + 8))), some (.int v256), some (.int v257), none]) ⟨rfl, ⟨rfl, ⟨rfl, ⟨rfl, ⟨rfl, ⟨rfl, ⟨rfl, ⟨rfl, ⟨rfl, ⟨rfl, trivial⟩⟩⟩⟩⟩⟩⟩⟩⟩⟩ ?_
                            exact ih _ _ _ hK
                        · replace hK := ps_ifT c244 hK
                          refine pm_ild d_X4_reckon_227 rfl ?_
                          refine pm_goto d_X4_reckon_229 ?_
                          obtain ⟨b262, hT⟩ := ps_gd hK
                          replace hK := hT
                          clear hT
                          refine ps_iast d_X4_reckon_260 at_25 a_4_4 (ps_in_of b262) ?_
                          refine ps_nmS (fun σ259 eσ259 => ?_)
                          replace hK := ps_ltE eσ259 hK
                          refine pm_inc8 d_X4_reckon_261 rfl ?_
                          obtain ⟨v260, ev260⟩ : ∃ y : Int32, y = x8 + 1 := ⟨_, rfl⟩
                          rw [← ev260]
                          replace hK := ps_ltE ev260 hK
                          refine pm_inc9 d_X4_reckon_264 rfl ?_
                          obtain ⟨v261, ev261⟩ : ∃ y : Int32, y = x9 + 1 := ⟨_, rfl⟩
                          rw [← ev261]
                          replace hK := ps_ltE ev261 hK
                          refine pm_goto d_X4_reckon_267 ?_
                          refine pm_wk (ls' := [some (.ref (g.2.2.1 + 22)), some (.int y1), some (.int y2), some (.int y3), some (.int y4), some (.int y5), some (.int y6), some (.ref (g.2.2.1 + (12 + 8))), some (.int v260), some (.int v261), none]) ⟨rfl, ⟨rfl, ⟨rfl, ⟨rfl, ⟨rfl, ⟨rfl, ⟨rfl, ⟨rfl, ⟨rfl, ⟨rfl, trivial⟩⟩⟩⟩⟩⟩⟩⟩⟩⟩ ?_
                          exact ih _ _ _ hK
                      · replace hK := ps_ifT c243 hK
                        refine pm_ild d_X4_reckon_212 rfl ?_
                        refine pm_ki d_X4_reckon_213 ?_
                        refine pm_irem d_X4_reckon_215 (by decide) ?_
                        refine pm_goto d_X4_reckon_216 ?_
                        obtain ⟨b266, hT⟩ := ps_gd hK
                        replace hK := hT
                        clear hT
                        refine ps_iast d_X4_reckon_260 at_25 a_4_4 (ps_in_of b266) ?_
                        refine ps_nmS (fun σ263 eσ263 => ?_)
                        replace hK := ps_ltE eσ263 hK
                        refine pm_inc8 d_X4_reckon_261 rfl ?_
                        obtain ⟨v264, ev264⟩ : ∃ y : Int32, y = x8 + 1 := ⟨_, rfl⟩
                        rw [← ev264]
                        replace hK := ps_ltE ev264 hK
                        refine pm_inc9 d_X4_reckon_264 rfl ?_
                        obtain ⟨v265, ev265⟩ : ∃ y : Int32, y = x9 + 1 := ⟨_, rfl⟩
                        rw [← ev265]
                        replace hK := ps_ltE ev265 hK
                        refine pm_goto d_X4_reckon_267 ?_
                        refine pm_wk (ls' := [some (.ref (g.2.2.1 + 22)), some (.int y1), some (.int y2), some (.int y3), some (.int y4), some (.int y5), some (.int y6), some (.ref (g.2.2.1 + (12 + 8))), some (.int v264), some (.int v265), none]) ⟨rfl, ⟨rfl, ⟨rfl, ⟨rfl, ⟨rfl, ⟨rfl, ⟨rfl, ⟨rfl, ⟨rfl, ⟨rfl, trivial⟩⟩⟩⟩⟩⟩⟩⟩⟩⟩ ?_
                        exact ih _ _ _ hK
                  · replace hK := ps_ifF c240 hK
                    refine pm_inc8 d_X4_reckon_150 rfl ?_
                    obtain ⟨v267, ev267⟩ : ∃ y : Int32, y = x8 + (-1) := ⟨_, rfl⟩
                    rw [← ev267]
                    replace hK := ps_ltE ev267 hK
                    refine pm_ald d_X4_reckon_153 rfl ?_
                    refine ps_getR (q := 25) d_X4_reckon_154 at_22 f_4_1_3 rfl ?_
                    refine pm_ild d_X4_reckon_157 rfl ?_
                    refine pm_ki d_X4_reckon_159 ?_
                    refine pm_isub d_X4_reckon_160 ?_
                    refine pm_ild d_X4_reckon_161 rfl ?_
                    refine pm_ald d_X4_reckon_163 rfl ?_
                    refine ps_getR (q := 25) d_X4_reckon_164 at_22 f_4_1_3 rfl ?_
                    refine pm_ild d_X4_reckon_167 rfl ?_
                    refine pm_ki d_X4_reckon_169 ?_
                    refine pm_isub d_X4_reckon_170 ?_
                    obtain ⟨b278, hT⟩ := ps_gd hK
                    replace hK := hT
                    clear hT
                    refine ps_iald d_X4_reckon_171 at_25 a_4_4 (ps_in_of b278) rfl ?_
                    refine ps_topI (fun v268 ev268 => ?_)
                    replace hK := ps_ltE ev268 hK
                    refine pm_i2l d_X4_reckon_172 ?_
                    refine pm_ald d_X4_reckon_173 rfl ?_
                    refine ps_getR (q := 25) d_X4_reckon_174 at_22 f_4_1_3 rfl ?_
                    refine pm_ild d_X4_reckon_177 rfl ?_
                    obtain ⟨b277, hT⟩ := ps_gd hK
                    replace hK := hT
                    clear hT
                    refine ps_iald d_X4_reckon_179 at_25 a_4_4 (ps_in_of b277) rfl ?_
                    refine ps_topI (fun v269 ev269 => ?_)
                    replace hK := ps_ltE ev269 hK
                    refine pm_i2l d_X4_reckon_180 ?_
                    refine ps_cSL d_X4_reckon_181 ms_X4_join (As := [.int v3, .long ((v268).toInt64), .long ((v269).toInt64)]) rfl rfl (ps_room.of (by omega) (by decide)) (Nat.le_of_ble_eq_true rfl) (C_X4_join v3 (((v268).toInt64)) (((v269).toInt64)) σ _ (ps_bdE hK)) ?_
                    intro v270 σ271 hT
                    clear hK
                    have hK := hT
                    clear hT
                    refine ps_cSI d_X4_reckon_184 ms_X4_kept (As := [.long v270]) rfl rfl (ps_room.of (by omega) (by decide)) (Nat.le_of_ble_eq_true rfl) (C_X4_kept v270 σ271 _ (ps_bdE hK)) ?_
                    intro v272 σ273 hT
                    clear hK
                    have hK := hT
                    clear hT
                    obtain ⟨b276, hT⟩ := ps_gd hK
                    replace hK := hT
                    clear hT
                    refine ps_iast d_X4_reckon_187 at_25 a_4_4 (ps_in_of b276) ?_
                    refine ps_nmS (fun σ274 eσ274 => ?_)
                    replace hK := ps_ltE eσ274 hK
                    refine pm_goto d_X4_reckon_188 ?_
                    refine pm_inc9 d_X4_reckon_264 rfl ?_
                    obtain ⟨v275, ev275⟩ : ∃ y : Int32, y = x9 + 1 := ⟨_, rfl⟩
                    rw [← ev275]
                    replace hK := ps_ltE ev275 hK
                    refine pm_goto d_X4_reckon_267 ?_
                    refine pm_wk (ls' := [some (.ref (g.2.2.1 + 22)), some (.int y1), some (.int y2), some (.int y3), some (.int y4), some (.int y5), some (.int y6), some (.ref (g.2.2.1 + (12 + 8))), some (.int v267), some (.int v275), none]) ⟨rfl, ⟨rfl, ⟨rfl, ⟨rfl, ⟨rfl, ⟨rfl, ⟨rfl, ⟨rfl, ⟨rfl, ⟨rfl, trivial⟩⟩⟩⟩⟩⟩⟩⟩⟩⟩ ?_
                    exact ih _ _ _ hK
              · replace hK := ps_ifF c212 hK
                refine pm_ald d_X4_reckon_113 rfl ?_
                refine ps_getR (q := 25) d_X4_reckon_114 at_22 f_4_1_3 rfl ?_
                refine pm_ild d_X4_reckon_117 rfl ?_
                refine pm_ki d_X4_reckon_119 ?_
                refine pm_isub d_X4_reckon_120 ?_
                refine pm_ki d_X4_reckon_121 ?_
                refine pm_ald d_X4_reckon_122 rfl ?_
                refine ps_getR (q := 25) d_X4_reckon_123 at_22 f_4_1_3 rfl ?_
                refine pm_ild d_X4_reckon_126 rfl ?_
                refine pm_ki d_X4_reckon_128 ?_
                refine pm_isub d_X4_reckon_129 ?_
                obtain ⟨b283, hT⟩ := ps_gd hK
                replace hK := hT
                clear hT
                refine ps_iald d_X4_reckon_130 at_25 a_4_4 (ps_in_of b283) rfl ?_
                refine ps_topI (fun v279 ev279 => ?_)
                replace hK := ps_ltE ev279 hK
                refine pm_isub d_X4_reckon_131 ?_
                obtain ⟨b282, hT⟩ := ps_gd hK
                replace hK := hT
                clear hT
                refine ps_iast d_X4_reckon_132 at_25 a_4_4 (ps_in_of b282) ?_
                refine ps_nmS (fun σ280 eσ280 => ?_)
                replace hK := ps_ltE eσ280 hK
                refine pm_goto d_X4_reckon_133 ?_
                refine pm_inc9 d_X4_reckon_264 rfl ?_
                obtain ⟨v281, ev281⟩ : ∃ y : Int32, y = x9 + 1 := ⟨_, rfl⟩
                rw [← ev281]
                replace hK := ps_ltE ev281 hK
                refine pm_goto d_X4_reckon_267 ?_
                refine pm_wk (ls' := [some (.ref (g.2.2.1 + 22)), some (.int y1), some (.int y2), some (.int y3), some (.int y4), some (.int y5), some (.int y6), some (.ref (g.2.2.1 + (12 + 8))), some (.int x8), some (.int v281), none]) ⟨rfl, ⟨rfl, ⟨rfl, ⟨rfl, ⟨rfl, ⟨rfl, ⟨rfl, ⟨rfl, ⟨rfl, ⟨rfl, trivial⟩⟩⟩⟩⟩⟩⟩⟩⟩⟩ ?_
                exact ih _ _ _ hK
          · replace hK := ps_ifF c144 hK
            refine pm_inc8 d_X4_reckon_53 rfl ?_
            obtain ⟨v284, ev284⟩ : ∃ y : Int32, y = x8 + (-2) := ⟨_, rfl⟩
            rw [← ev284]
            replace hK := ps_ltE ev284 hK
            refine pm_ald d_X4_reckon_56 rfl ?_
            refine ps_getR (q := 25) d_X4_reckon_57 at_22 f_4_1_3 rfl ?_
            refine pm_ild d_X4_reckon_60 rfl ?_
            refine pm_ki d_X4_reckon_62 ?_
            refine pm_isub d_X4_reckon_63 ?_
            refine pm_ald d_X4_reckon_64 rfl ?_
            refine ps_getR (q := 25) d_X4_reckon_65 at_22 f_4_1_3 rfl ?_
            refine pm_ild d_X4_reckon_68 rfl ?_
            refine pm_ki d_X4_reckon_70 ?_
            refine pm_isub d_X4_reckon_71 ?_
            obtain ⟨b297, hT⟩ := ps_gd hK
            replace hK := hT
            clear hT
            refine ps_iald d_X4_reckon_72 at_25 a_4_4 (ps_in_of b297) rfl ?_
            refine ps_topI (fun v285 ev285 => ?_)
            replace hK := ps_ltE ev285 hK
            refine pm_if_eq d_X4_reckon_73 (fun c286 => ?_) (fun c286 => ?_)
            · replace hK := ps_ifT c286 hK
              refine pm_ald d_X4_reckon_86 rfl ?_
              refine ps_getR (q := 25) d_X4_reckon_87 at_22 f_4_1_3 rfl ?_
              refine pm_ild d_X4_reckon_90 rfl ?_
              refine pm_ki d_X4_reckon_92 ?_
              refine pm_iadd d_X4_reckon_93 ?_
              obtain ⟨b291, hT⟩ := ps_gd hK
              replace hK := hT
              clear hT
              refine ps_iald d_X4_reckon_94 at_25 a_4_4 (ps_in_of b291) rfl ?_
              refine ps_topI (fun v287 ev287 => ?_)
              replace hK := ps_ltE ev287 hK
              obtain ⟨b290, hT⟩ := ps_gd hK
              replace hK := hT
              clear hT
              refine ps_iast d_X4_reckon_95 at_25 a_4_4 (ps_in_of b290) ?_
              refine ps_nmS (fun σ288 eσ288 => ?_)
              replace hK := ps_ltE eσ288 hK
              refine pm_goto d_X4_reckon_96 ?_
              refine pm_inc9 d_X4_reckon_264 rfl ?_
              obtain ⟨v289, ev289⟩ : ∃ y : Int32, y = x9 + 1 := ⟨_, rfl⟩
              rw [← ev289]
              replace hK := ps_ltE ev289 hK
              refine pm_goto d_X4_reckon_267 ?_
              refine pm_wk (ls' := [some (.ref (g.2.2.1 + 22)), some (.int y1), some (.int y2), some (.int y3), some (.int y4), some (.int y5), some (.int y6), some (.ref (g.2.2.1 + (12 + 8))), some (.int v284), some (.int v289), none]) ⟨rfl, ⟨rfl, ⟨rfl, ⟨rfl, ⟨rfl, ⟨rfl, ⟨rfl, ⟨rfl, ⟨rfl, ⟨rfl, trivial⟩⟩⟩⟩⟩⟩⟩⟩⟩⟩ ?_
              exact ih _ _ _ hK
            · replace hK := ps_ifF c286 hK
              refine pm_ald d_X4_reckon_76 rfl ?_
              refine ps_getR (q := 25) d_X4_reckon_77 at_22 f_4_1_3 rfl ?_
              refine pm_ild d_X4_reckon_80 rfl ?_
              obtain ⟨b296, hT⟩ := ps_gd hK
              replace hK := hT
              clear hT
              refine ps_iald d_X4_reckon_82 at_25 a_4_4 (ps_in_of b296) rfl ?_
              refine ps_topI (fun v292 ev292 => ?_)
              replace hK := ps_ltE ev292 hK
              refine pm_goto d_X4_reckon_83 ?_
              obtain ⟨b295, hT⟩ := ps_gd hK
              replace hK := hT
              clear hT
              refine ps_iast d_X4_reckon_95 at_25 a_4_4 (ps_in_of b295) ?_
              refine ps_nmS (fun σ293 eσ293 => ?_)
              replace hK := ps_ltE eσ293 hK
              refine pm_goto d_X4_reckon_96 ?_
              refine pm_inc9 d_X4_reckon_264 rfl ?_
              obtain ⟨v294, ev294⟩ : ∃ y : Int32, y = x9 + 1 := ⟨_, rfl⟩
              rw [← ev294]
              replace hK := ps_ltE ev294 hK
              refine pm_goto d_X4_reckon_267 ?_
              refine pm_wk (ls' := [some (.ref (g.2.2.1 + 22)), some (.int y1), some (.int y2), some (.int y3), some (.int y4), some (.int y5), some (.int y6), some (.ref (g.2.2.1 + (12 + 8))), some (.int v284), some (.int v294), none]) ⟨rfl, ⟨rfl, ⟨rfl, ⟨rfl, ⟨rfl, ⟨rfl, ⟨rfl, ⟨rfl, ⟨rfl, ⟨rfl, trivial⟩⟩⟩⟩⟩⟩⟩⟩⟩⟩ ?_
              exact ih _ _ _ hK
def qX4_reckon (p1 : Int32) (p2 : Int32) (p3 : Int32) (p4 : Int32) (p5 : Int32) (p6 : Int32) (σ : ps_S) : Option (Int32 × ps_S) :=
  ps_bd (qX4_reckon_18 p1 p2 p3 p4 p5 p6 ps_N 0 p1 σ) (fun res σ299 => match res with
  | (v300, v301) =>
    if v300 ≤ 0 then
    some (0, σ299)
    else
    ps_let (σ299.1 25 0) fun v303 =>
    some (v303, σ299))
set_option maxRecDepth 100000 in
theorem C_X4_reckon {g : pm_G} (p1 : Int32) (p2 : Int32) (p3 : Int32) (p4 : Int32) (p5 : Int32) (p6 : Int32) (σ : ps_S) (P : Int32 → ps_S → Prop) (hK : ps_ok (qX4_reckon p1 p2 p3 p4 p5 p6 σ) P) : ps_C g mX4_reckon 2 [.ref (g.2.2.1 + 22), .int p1, .int p2, .int p3, .int p4, .int p5, .int p6] σ (ps_qI P) := by
  unfold qX4_reckon at hK
  refine ps_C.of (ls := [some (.ref (g.2.2.1 + 22)), some (.int p1), some (.int p2), some (.int p3), some (.int p4), some (.int p5), some (.int p6), none, none, none, none]) 4 (by decide) rfl (Nat.le_of_ble_eq_true rfl) rfl ?_
  refine pm_ald d_X4_reckon_0 rfl ?_
  refine ps_getR (q := 12) d_X4_reckon_1 at_22 f_4_1_0 rfl ?_
  refine ps_getR (q := (12 + 7)) d_X4_reckon_4 ps_Ho12.at0 f_2_0_17 rfl ?_
  refine ps_getR (q := (12 + 8)) d_X4_reckon_7 (ps_Ho12.at 7 (by decide)) f_2_7_0 rfl ?_
  refine pm_ast7 d_X4_reckon_10 rfl (by decide) ?_
  refine pm_ki d_X4_reckon_12 ?_
  refine pm_ist8 d_X4_reckon_13 rfl (by decide) ?_
  refine pm_ild d_X4_reckon_15 rfl ?_
  refine pm_ist9 d_X4_reckon_16 rfl (by decide) ?_
  refine L_X4_reckon_18 _ (by decide) p1 p2 p3 p4 p5 p6 _ _ _ _ (ps_ok.mono (ps_bdE hK) ?_)
  rintro ⟨v300, v301⟩ σ299 hT
  clear hK
  have hK := hT
  clear hT
  refine pm_ild d_X4_reckon_270 rfl ?_
  refine pm_if_le d_X4_reckon_272 (fun c302 => ?_) (fun c302 => ?_)
  · replace hK := ps_ifT c302 hK
    refine pm_ki d_X4_reckon_284 ?_
    have hQ := ps_so hK
    exact ps_iret rfl d_X4_reckon_285 ⟨_, rfl, hQ⟩
  · replace hK := ps_ifF c302 hK
    refine pm_ald d_X4_reckon_275 rfl ?_
    refine ps_getR (q := 25) d_X4_reckon_276 at_22 f_4_1_3 rfl ?_
    refine pm_ki d_X4_reckon_279 ?_
    refine ps_iald (x := σ299.1 25 0) d_X4_reckon_280 at_25 a_4_4 (ps_in_of rfl) rfl ?_
    refine ps_topI (fun v303 ev303 => ?_)
    replace hK := ps_ltE ev303 hK
    refine pm_goto d_X4_reckon_281 ?_
    have hQ := ps_so hK
    exact ps_iret rfl d_X4_reckon_285 ⟨_, rfl, hQ⟩
def qX4_wantedBy (B1 : Nat) (p2 : Int32) (σ : ps_S) : Option (Int32 × ps_S) :=
  if ps_in p2 6 = true then
  ps_let (σ.1 (B1 + 13) (p2).toNatClampNeg) fun v1 =>
  ps_let (σ.1 (12 + 7) 2) fun v2 =>
  ps_let (σ.1 (12 + 7) 3) fun v3 =>
  if v2 = v3 then
  some (v1, σ)
  else
  ps_let (σ.1 B1 8) fun v5 =>
  ps_bd (qX4_cellOf p2 v1 v5 σ) (fun v6 σ7 =>
  if ps_in v6 1000 = true then
  ps_let (σ7.1 23 (v6).toNatClampNeg) fun v8 =>
  if v8 = ((-1)) then
  if ps_in p2 6 = true then
  ps_let (σ7.1 (12 + 5) (p2).toNatClampNeg) fun v12 =>
  ps_let (σ7.1 (12 + 7) 2) fun v13 =>
  ps_let (σ7.1 (12 + 7) 3) fun v14 =>
  ps_let (σ7.1 B1 8) fun v15 =>
  ps_bd (qX4_reckon v13 v14 v15 v1 v12 p2 σ7) (fun v16 σ17 =>
  ps_let (if v16 < 99 then v16 else 99) fun v18 =>
  ps_let (if 0 < v18 then v18 else 0) fun v19 =>
  if ps_in v6 1000 = true then
  ps_let (ps_rI σ17 23 (upd (σ17.1 23) (v6).toNatClampNeg v19)) fun σ20 =>
  if ps_in v6 1000 = true then
  ps_let (σ20.1 23 (v6).toNatClampNeg) fun v21 =>
  some (v21, σ20)
  else none
  else none)
  else none
  else
  if ps_in v6 1000 = true then
  ps_let (σ7.1 23 (v6).toNatClampNeg) fun v10 =>
  some (v10, σ7)
  else none
  else none)
  else none
set_option maxRecDepth 100000 in
theorem C_X4_wantedBy {g : pm_G} (B1 : Nat) (hB1 : ps_St B1) (p2 : Int32) (σ : ps_S) (P : Int32 → ps_S → Prop) (hK : ps_ok (qX4_wantedBy B1 p2 σ) P) : ps_C g mX4_wantedBy 3 [.ref (g.2.2.1 + 22), .ref (g.2.2.1 + B1), .int p2] σ (ps_qI P) := by
  unfold qX4_wantedBy at hK
  refine ps_C.of (ls := [some (.ref (g.2.2.1 + 22)), some (.ref (g.2.2.1 + B1)), some (.int p2), none, none, none, none, none]) 5 (by decide) rfl (Nat.le_of_ble_eq_true rfl) rfl ?_
  refine pm_ald d_X4_wantedBy_0 rfl ?_
  refine ps_getR (q := (B1 + 13)) d_X4_wantedBy_1 hB1.at0 f_5_0_3 rfl ?_
  refine pm_ild d_X4_wantedBy_4 rfl ?_
  obtain ⟨b26, hT⟩ := ps_gd hK
  replace hK := hT
  clear hT
  refine ps_iald d_X4_wantedBy_5 (hB1.at 13 (by decide)) a_5_13 (ps_in_of b26) rfl ?_
  refine ps_topI (fun v1 ev1 => ?_)
  replace hK := ps_ltE ev1 hK
  refine pm_ist3 d_X4_wantedBy_6 rfl (by decide) ?_
  refine pm_ald d_X4_wantedBy_7 rfl ?_
  refine ps_getR (q := 12) d_X4_wantedBy_8 at_22 f_4_1_0 rfl ?_
  refine ps_getR (q := (12 + 7)) d_X4_wantedBy_11 ps_Ho12.at0 f_2_0_17 rfl ?_
  refine pm_ast4 d_X4_wantedBy_14 rfl (by decide) ?_
  refine pm_ald d_X4_wantedBy_16 rfl ?_
  refine ps_getI d_X4_wantedBy_18 (ps_Ho12.at 7 (by decide)) f_2_7_2 rfl ?_
  refine ps_topI (fun v2 ev2 => ?_)
  replace hK := ps_ltE ev2 hK
  refine pm_ald d_X4_wantedBy_21 rfl ?_
  refine ps_getI d_X4_wantedBy_23 (ps_Ho12.at 7 (by decide)) f_2_7_3 rfl ?_
  refine ps_topI (fun v3 ev3 => ?_)
  replace hK := ps_ltE ev3 hK
  refine pm_icmp_ne d_X4_wantedBy_26 (fun c4 => ?_) (fun c4 => ?_)
  · replace hK := ps_ifF c4 hK
    refine pm_ald d_X4_wantedBy_31 rfl ?_
    refine pm_ild d_X4_wantedBy_32 rfl ?_
    refine pm_ild d_X4_wantedBy_33 rfl ?_
    refine pm_ald d_X4_wantedBy_34 rfl ?_
    refine ps_getI d_X4_wantedBy_35 hB1.at0 f_5_0_8 rfl ?_
    refine ps_topI (fun v5 ev5 => ?_)
    replace hK := ps_ltE ev5 hK
    refine ps_cVI d_X4_wantedBy_38 mv_X4_cellOf at_22 ob_4_1 rfl (As := [.int p2, .int v1, .int v5]) rfl rfl (ps_room.of (by omega) (by decide)) (Nat.le_of_ble_eq_true rfl) (C_X4_cellOf p2 v1 v5 σ _ (ps_bdE hK)) ?_
    intro v6 σ7 hT
    clear hK
    have hK := hT
    clear hT
    refine pm_ist5 d_X4_wantedBy_41 rfl (by decide) ?_
    refine pm_ald d_X4_wantedBy_43 rfl ?_
    refine ps_getR (q := 23) d_X4_wantedBy_44 at_22 f_4_1_1 rfl ?_
    refine pm_ild d_X4_wantedBy_47 rfl ?_
    obtain ⟨b25, hT⟩ := ps_gd hK
    replace hK := hT
    clear hT
    refine ps_iald d_X4_wantedBy_49 at_23 a_4_2 (ps_in_of b25) rfl ?_
    refine ps_topI (fun v8 ev8 => ?_)
    replace hK := ps_ltE ev8 hK
    refine pm_ki d_X4_wantedBy_50 ?_
    refine pm_icmp_ne d_X4_wantedBy_51 (fun c9 => ?_) (fun c9 => ?_)
    · replace hK := ps_ifF c9 hK
      refine pm_ald d_X4_wantedBy_107 rfl ?_
      refine ps_getR (q := 23) d_X4_wantedBy_108 at_22 f_4_1_1 rfl ?_
      refine pm_ild d_X4_wantedBy_111 rfl ?_
      obtain ⟨b11, hT⟩ := ps_gd hK
      replace hK := hT
      clear hT
      refine ps_iald d_X4_wantedBy_113 at_23 a_4_2 (ps_in_of b11) rfl ?_
      refine ps_topI (fun v10 ev10 => ?_)
      replace hK := ps_ltE ev10 hK
      have hQ := ps_so hK
      exact ps_iret rfl d_X4_wantedBy_114 ⟨_, rfl, hQ⟩
    · replace hK := ps_ifT c9 hK
      refine pm_ald d_X4_wantedBy_54 rfl ?_
      refine ps_getR (q := 12) d_X4_wantedBy_55 at_22 f_4_1_0 rfl ?_
      refine ps_getR (q := (12 + 5)) d_X4_wantedBy_58 ps_Ho12.at0 f_2_0_15 rfl ?_
      refine pm_ild d_X4_wantedBy_61 rfl ?_
      obtain ⟨b24, hT⟩ := ps_gd hK
      replace hK := hT
      clear hT
      refine ps_iald d_X4_wantedBy_62 (ps_Ho12.at 5 (by decide)) a_2_5 (ps_in_of b24) rfl ?_
      refine ps_topI (fun v12 ev12 => ?_)
      replace hK := ps_ltE ev12 hK
      refine pm_ist6 d_X4_wantedBy_63 rfl (by decide) ?_
      refine pm_ald d_X4_wantedBy_65 rfl ?_
      refine pm_ald d_X4_wantedBy_66 rfl ?_
      refine ps_getI d_X4_wantedBy_68 (ps_Ho12.at 7 (by decide)) f_2_7_2 rfl ?_
      refine ps_topI (fun v13 ev13 => ?_)
      replace hK := ps_ltE ev13 hK
      refine pm_ald d_X4_wantedBy_71 rfl ?_
      refine ps_getI d_X4_wantedBy_73 (ps_Ho12.at 7 (by decide)) f_2_7_3 rfl ?_
      refine ps_topI (fun v14 ev14 => ?_)
      replace hK := ps_ltE ev14 hK
      refine pm_ald d_X4_wantedBy_76 rfl ?_
      refine ps_getI d_X4_wantedBy_77 hB1.at0 f_5_0_8 rfl ?_
      refine ps_topI (fun v15 ev15 => ?_)
      replace hK := ps_ltE ev15 hK
      refine pm_ild d_X4_wantedBy_80 rfl ?_
      refine pm_ild d_X4_wantedBy_81 rfl ?_
      refine pm_ild d_X4_wantedBy_83 rfl ?_
      refine ps_cVI d_X4_wantedBy_84 mv_X4_reckon at_22 ob_4_1 rfl (As := [.int v13, .int v14, .int v15, .int v1, .int v12, .int p2]) rfl rfl (ps_room.of (by omega) (by decide)) (Nat.le_of_ble_eq_true rfl) (C_X4_reckon v13 v14 v15 v1 v12 p2 σ7 _ (ps_bdE hK)) ?_
      intro v16 σ17 hT
      clear hK
      have hK := hT
      clear hT
      refine pm_ist7 d_X4_wantedBy_87 rfl (by decide) ?_
      refine pm_ald d_X4_wantedBy_89 rfl ?_
      refine ps_getR (q := 23) d_X4_wantedBy_90 at_22 f_4_1_1 rfl ?_
      refine pm_ild d_X4_wantedBy_93 rfl ?_
      refine pm_ki d_X4_wantedBy_95 ?_
      refine pm_ki d_X4_wantedBy_96 ?_
      refine pm_ild d_X4_wantedBy_98 rfl ?_
      refine pm_mmin d_X4_wantedBy_100 (ps_roomM (by omega)) (Nat.le_of_ble_eq_true rfl) ?_
      refine ps_topI (fun v18 ev18 => ?_)
      replace hK := ps_ltE ev18 hK
      refine pm_mmax d_X4_wantedBy_103 (ps_roomM (by omega)) (Nat.le_of_ble_eq_true rfl) ?_
      refine ps_topI (fun v19 ev19 => ?_)
      replace hK := ps_ltE ev19 hK
      obtain ⟨b23, hT⟩ := ps_gd hK
      replace hK := hT
      clear hT
      refine ps_iast d_X4_wantedBy_106 at_23 a_4_2 (ps_in_of b23) ?_
      refine ps_nmS (fun σ20 eσ20 => ?_)
      replace hK := ps_ltE eσ20 hK
      refine pm_ald d_X4_wantedBy_107 rfl ?_
      refine ps_getR (q := 23) d_X4_wantedBy_108 at_22 f_4_1_1 rfl ?_
      refine pm_ild d_X4_wantedBy_111 rfl ?_
      obtain ⟨b22, hT⟩ := ps_gd hK
      replace hK := hT
      clear hT
      refine ps_iald d_X4_wantedBy_113 at_23 a_4_2 (ps_in_of b22) rfl ?_
      refine ps_topI (fun v21 ev21 => ?_)
      replace hK := ps_ltE ev21 hK
      have hQ := ps_so hK
      exact ps_iret rfl d_X4_wantedBy_114 ⟨_, rfl, hQ⟩
  · replace hK := ps_ifT c4 hK
    refine pm_ild d_X4_wantedBy_29 rfl ?_
    have hQ := ps_so hK
    exact ps_iret rfl d_X4_wantedBy_30 ⟨_, rfl, hQ⟩
def qX0_serve (B1 : Nat) (p2 : Int32) (σ : ps_S) : Option (Unit × ps_S) :=
  if ps_in p2 6 = true then
  ps_let (σ.1 (B1 + 14) (p2).toNatClampNeg) fun v1 =>
  if v1 ≤ 0 then
  ps_bd (qX4_wantedBy B1 p2 σ) (fun v3 σ4 =>
  ps_let (σ4.1 B1 10) fun v5 =>
  ps_let (σ4.1 B1 9) fun v6 =>
  ps_let (if 0 < ((v5 - v6)) then ((v5 - v6)) else 0) fun v7 =>
  ps_let (if v7 < v3 then v7 else v3) fun v8 =>
  if v3 ≤ v8 then
  if v8 = 0 then
  some ((), σ4)
  else
  if ps_in p2 6 = true then
  ps_let (σ4.1 (12 + 4) (p2).toNatClampNeg) fun v11 =>
  if ps_in v11 12 = true then
  ps_let (σ4.1 (B1 + 11) (v11).toNatClampNeg) fun v12 =>
  if v12 = 0 then
  ps_let (σ4.1 B1 8) fun v44 =>
  if ps_in v11 12 = true then
  ps_let (ps_rI σ4 (B1 + 12) (upd (σ4.1 (B1 + 12)) (v11).toNatClampNeg v44)) fun σ45 =>
  if ps_in v11 12 = true then
  ps_let (σ45.1 (B1 + 11) (v11).toNatClampNeg) fun v46 =>
  if ps_in v11 12 = true then
  ps_let (ps_rI σ45 (B1 + 11) (upd (σ45.1 (B1 + 11)) (v11).toNatClampNeg ((v46 + v8)))) fun σ47 =>
  if ps_in p2 6 = true then
  ps_let (σ47.1 (12 + 5) (p2).toNatClampNeg) fun v48 =>
  if ps_in v48 4 = true then
  ps_let (σ47.1 (B1 + 4) (v48).toNatClampNeg) fun v49 =>
  if ps_in v48 4 = true then
  ps_let (ps_rI σ47 (B1 + 4) (upd (σ47.1 (B1 + 4)) (v48).toNatClampNeg ((v49 + v8)))) fun σ50 =>
  ps_let (σ50.1 B1 9) fun v51 =>
  ps_let (ps_rI σ50 B1 (upd (σ50.1 B1) 9 ((v51 + v8)))) fun σ52 =>
  if ps_in p2 6 = true then
  ps_let (σ52.1 (B1 + 16) (p2).toNatClampNeg) fun v53 =>
  if ps_in p2 6 = true then
  ps_let (ps_rI σ52 (B1 + 16) (upd (σ52.1 (B1 + 16)) (p2).toNatClampNeg ((v53 + v8)))) fun σ54 =>
  ps_let (σ54.1 B1 9) fun v55 =>
  ps_bd (qX0_freeOf B1 σ54) (fun v56 σ57 =>
  if v55 ≤ v56 then
  some ((), σ57)
  else
  if ps_in p2 6 = true then
  ps_let (σ57.1 (B1 + 15) (p2).toNatClampNeg) fun v59 =>
  ps_bd (qX0_pauseOf B1 p2 v8 σ57) (fun v60 σ61 =>
  if ps_in p2 6 = true then
  ps_let (ps_rI σ61 (B1 + 15) (upd (σ61.1 (B1 + 15)) (p2).toNatClampNeg ((((((3 * v59)) + v60)) / 4)))) fun σ62 =>
  if ps_in p2 6 = true then
  ps_let (σ62.1 (B1 + 15) (p2).toNatClampNeg) fun v63 =>
  if ps_in p2 6 = true then
  ps_let (ps_rI σ62 (B1 + 14) (upd (σ62.1 (B1 + 14)) (p2).toNatClampNeg v63)) fun σ64 =>
  some ((), σ64)
  else none
  else none
  else none)
  else none)
  else none
  else none
  else none
  else none
  else none
  else none
  else none
  else none
  else
  if ps_in v11 12 = true then
  ps_let (σ4.1 (B1 + 11) (v11).toNatClampNeg) fun v14 =>
  if ps_in v11 12 = true then
  ps_let (ps_rI σ4 (B1 + 11) (upd (σ4.1 (B1 + 11)) (v11).toNatClampNeg ((v14 + v8)))) fun σ15 =>
  if ps_in p2 6 = true then
  ps_let (σ15.1 (12 + 5) (p2).toNatClampNeg) fun v16 =>
  if ps_in v16 4 = true then
  ps_let (σ15.1 (B1 + 4) (v16).toNatClampNeg) fun v17 =>
  if ps_in v16 4 = true then
  ps_let (ps_rI σ15 (B1 + 4) (upd (σ15.1 (B1 + 4)) (v16).toNatClampNeg ((v17 + v8)))) fun σ18 =>
  ps_let (σ18.1 B1 9) fun v19 =>
  ps_let (ps_rI σ18 B1 (upd (σ18.1 B1) 9 ((v19 + v8)))) fun σ20 =>
  if ps_in p2 6 = true then
  ps_let (σ20.1 (B1 + 16) (p2).toNatClampNeg) fun v21 =>
  if ps_in p2 6 = true then
  ps_let (ps_rI σ20 (B1 + 16) (upd (σ20.1 (B1 + 16)) (p2).toNatClampNeg ((v21 + v8)))) fun σ22 =>
  ps_let (σ22.1 B1 9) fun v23 =>
  ps_bd (qX0_freeOf B1 σ22) (fun v24 σ25 =>
  if v23 ≤ v24 then
  some ((), σ25)
  else
  if ps_in p2 6 = true then
  ps_let (σ25.1 (B1 + 15) (p2).toNatClampNeg) fun v27 =>
  ps_bd (qX0_pauseOf B1 p2 v8 σ25) (fun v28 σ29 =>
  if ps_in p2 6 = true then
  ps_let (ps_rI σ29 (B1 + 15) (upd (σ29.1 (B1 + 15)) (p2).toNatClampNeg ((((((3 * v27)) + v28)) / 4)))) fun σ30 =>
  if ps_in p2 6 = true then
  ps_let (σ30.1 (B1 + 15) (p2).toNatClampNeg) fun v31 =>
  if ps_in p2 6 = true then
  ps_let (ps_rI σ30 (B1 + 14) (upd (σ30.1 (B1 + 14)) (p2).toNatClampNeg v31)) fun σ32 =>
  some ((), σ32)
  else none
  else none
  else none)
  else none)
  else none
  else none
  else none
  else none
  else none
  else none
  else none
  else none
  else none
  else
  if ps_in p2 6 = true then
  ps_let (σ4.1 (B1 + 17) (p2).toNatClampNeg) fun v79 =>
  if ps_in p2 6 = true then
  ps_let (ps_rI σ4 (B1 + 17) (upd (σ4.1 (B1 + 17)) (p2).toNatClampNeg ((v79 + 1)))) fun σ80 =>
  if v8 = 0 then
  some ((), σ80)
  else
  if ps_in p2 6 = true then
  ps_let (σ80.1 (12 + 4) (p2).toNatClampNeg) fun v82 =>
  if ps_in v82 12 = true then
  ps_let (σ80.1 (B1 + 11) (v82).toNatClampNeg) fun v83 =>
  if v83 = 0 then
  ps_let (σ80.1 B1 8) fun v115 =>
  if ps_in v82 12 = true then
  ps_let (ps_rI σ80 (B1 + 12) (upd (σ80.1 (B1 + 12)) (v82).toNatClampNeg v115)) fun σ116 =>
  if ps_in v82 12 = true then
  ps_let (σ116.1 (B1 + 11) (v82).toNatClampNeg) fun v117 =>
  if ps_in v82 12 = true then
  ps_let (ps_rI σ116 (B1 + 11) (upd (σ116.1 (B1 + 11)) (v82).toNatClampNeg ((v117 + v8)))) fun σ118 =>
  if ps_in p2 6 = true then
  ps_let (σ118.1 (12 + 5) (p2).toNatClampNeg) fun v119 =>
  if ps_in v119 4 = true then
  ps_let (σ118.1 (B1 + 4) (v119).toNatClampNeg) fun v120 =>
  if ps_in v119 4 = true then
  ps_let (ps_rI σ118 (B1 + 4) (upd (σ118.1 (B1 + 4)) (v119).toNatClampNeg ((v120 + v8)))) fun σ121 =>
  ps_let (σ121.1 B1 9) fun v122 =>
  ps_let (ps_rI σ121 B1 (upd (σ121.1 B1) 9 ((v122 + v8)))) fun σ123 =>
  if ps_in p2 6 = true then
  ps_let (σ123.1 (B1 + 16) (p2).toNatClampNeg) fun v124 =>
  if ps_in p2 6 = true then
  ps_let (ps_rI σ123 (B1 + 16) (upd (σ123.1 (B1 + 16)) (p2).toNatClampNeg ((v124 + v8)))) fun σ125 =>
  ps_let (σ125.1 B1 9) fun v126 =>
  ps_bd (qX0_freeOf B1 σ125) (fun v127 σ128 =>
  if v126 ≤ v127 then
  some ((), σ128)
  else
  if ps_in p2 6 = true then
  ps_let (σ128.1 (B1 + 15) (p2).toNatClampNeg) fun v130 =>
  ps_bd (qX0_pauseOf B1 p2 v8 σ128) (fun v131 σ132 =>
  if ps_in p2 6 = true then
  ps_let (ps_rI σ132 (B1 + 15) (upd (σ132.1 (B1 + 15)) (p2).toNatClampNeg ((((((3 * v130)) + v131)) / 4)))) fun σ133 =>
  if ps_in p2 6 = true then
  ps_let (σ133.1 (B1 + 15) (p2).toNatClampNeg) fun v134 =>
  if ps_in p2 6 = true then
  ps_let (ps_rI σ133 (B1 + 14) (upd (σ133.1 (B1 + 14)) (p2).toNatClampNeg v134)) fun σ135 =>
  some ((), σ135)
  else none
  else none
  else none)
  else none)
  else none
  else none
  else none
  else none
  else none
  else none
  else none
  else none
  else
  if ps_in v82 12 = true then
  ps_let (σ80.1 (B1 + 11) (v82).toNatClampNeg) fun v85 =>
  if ps_in v82 12 = true then
  ps_let (ps_rI σ80 (B1 + 11) (upd (σ80.1 (B1 + 11)) (v82).toNatClampNeg ((v85 + v8)))) fun σ86 =>
  if ps_in p2 6 = true then
  ps_let (σ86.1 (12 + 5) (p2).toNatClampNeg) fun v87 =>
  if ps_in v87 4 = true then
  ps_let (σ86.1 (B1 + 4) (v87).toNatClampNeg) fun v88 =>
  if ps_in v87 4 = true then
  ps_let (ps_rI σ86 (B1 + 4) (upd (σ86.1 (B1 + 4)) (v87).toNatClampNeg ((v88 + v8)))) fun σ89 =>
  ps_let (σ89.1 B1 9) fun v90 =>
  ps_let (ps_rI σ89 B1 (upd (σ89.1 B1) 9 ((v90 + v8)))) fun σ91 =>
  if ps_in p2 6 = true then
  ps_let (σ91.1 (B1 + 16) (p2).toNatClampNeg) fun v92 =>
  if ps_in p2 6 = true then
  ps_let (ps_rI σ91 (B1 + 16) (upd (σ91.1 (B1 + 16)) (p2).toNatClampNeg ((v92 + v8)))) fun σ93 =>
  ps_let (σ93.1 B1 9) fun v94 =>
  ps_bd (qX0_freeOf B1 σ93) (fun v95 σ96 =>
  if v94 ≤ v95 then
  some ((), σ96)
  else
  if ps_in p2 6 = true then
  ps_let (σ96.1 (B1 + 15) (p2).toNatClampNeg) fun v98 =>
  ps_bd (qX0_pauseOf B1 p2 v8 σ96) (fun v99 σ100 =>
  if ps_in p2 6 = true then
  ps_let (ps_rI σ100 (B1 + 15) (upd (σ100.1 (B1 + 15)) (p2).toNatClampNeg ((((((3 * v98)) + v99)) / 4)))) fun σ101 =>
  if ps_in p2 6 = true then
  ps_let (σ101.1 (B1 + 15) (p2).toNatClampNeg) fun v102 =>
  if ps_in p2 6 = true then
  ps_let (ps_rI σ101 (B1 + 14) (upd (σ101.1 (B1 + 14)) (p2).toNatClampNeg v102)) fun σ103 =>
  some ((), σ103)
  else none
  else none
  else none)
  else none)
  else none
  else none
  else none
  else none
  else none
  else none
  else none
  else none
  else none
  else none
  else none)
  else
  if ps_in p2 6 = true then
  ps_let (σ.1 (B1 + 14) (p2).toNatClampNeg) fun v152 =>
  if ps_in p2 6 = true then
  ps_let (ps_rI σ (B1 + 14) (upd (σ.1 (B1 + 14)) (p2).toNatClampNeg ((v152 - 1)))) fun σ153 =>
  some ((), σ153)
  else none
  else none
  else none
set_option maxRecDepth 100000 in
theorem C_X0_serve {g : pm_G} (B1 : Nat) (hB1 : ps_St B1) (p2 : Int32) (σ : ps_S) (P : Unit → ps_S → Prop) (hK : ps_ok (qX0_serve B1 p2 σ) P) : ps_C g mX0_serve 4 [.ref (g.2.2.1 + 21), .ref (g.2.2.1 + B1), .int p2] σ (ps_qV P) := by
  unfold qX0_serve at hK
  refine ps_C.of (ls := [some (.ref (g.2.2.1 + 21)), some (.ref (g.2.2.1 + B1)), some (.int p2), none, none, none]) 3 (by decide) rfl (Nat.le_of_ble_eq_true rfl) rfl ?_
  refine pm_ald d_X0_serve_0 rfl ?_
  refine ps_getR (q := (B1 + 14)) d_X0_serve_1 hB1.at0 f_5_0_4 rfl ?_
  refine pm_ild d_X0_serve_4 rfl ?_
  obtain ⟨b156, hT⟩ := ps_gd hK
  replace hK := hT
  clear hT
  refine ps_iald d_X0_serve_5 (hB1.at 14 (by decide)) a_5_14 (ps_in_of b156) rfl ?_
  refine ps_topI (fun v1 ev1 => ?_)
  replace hK := ps_ltE ev1 hK
  refine pm_if_le d_X0_serve_6 (fun c2 => ?_) (fun c2 => ?_)
  · replace hK := ps_ifT c2 hK
    refine pm_ald d_X0_serve_20 rfl ?_
    refine ps_getR (q := 22) d_X0_serve_21 at_21 f_4_0_1 rfl ?_
    refine pm_ald d_X0_serve_24 rfl ?_
    refine pm_ild d_X0_serve_25 rfl ?_
    refine ps_cVI d_X0_serve_26 mv_X4_wantedBy at_22 ob_4_1 rfl (As := [.ref (g.2.2.1 + B1), .int p2]) rfl rfl (ps_room.of (by omega) (by decide)) (Nat.le_of_ble_eq_true rfl) (C_X4_wantedBy B1 hB1 p2 σ _ (ps_bdE hK)) ?_
    intro v3 σ4 hT
    clear hK
    have hK := hT
    clear hT
    refine pm_ist3 d_X0_serve_29 rfl (by decide) ?_
    refine pm_ild d_X0_serve_30 rfl ?_
    refine pm_ki d_X0_serve_31 ?_
    refine pm_ald d_X0_serve_32 rfl ?_
    refine ps_getI d_X0_serve_33 hB1.at0 f_5_0_10 rfl ?_
    refine ps_topI (fun v5 ev5 => ?_)
    replace hK := ps_ltE ev5 hK
    refine pm_ald d_X0_serve_36 rfl ?_
    refine ps_getI d_X0_serve_37 hB1.at0 f_5_0_9 rfl ?_
    refine ps_topI (fun v6 ev6 => ?_)
    replace hK := ps_ltE ev6 hK
    refine pm_isub d_X0_serve_40 ?_
    refine pm_mmax d_X0_serve_41 (ps_roomM (by omega)) (Nat.le_of_ble_eq_true rfl) ?_
    refine ps_topI (fun v7 ev7 => ?_)
    replace hK := ps_ltE ev7 hK
    refine pm_mmin d_X0_serve_44 (ps_roomM (by omega)) (Nat.le_of_ble_eq_true rfl) ?_
    refine ps_topI (fun v8 ev8 => ?_)
    replace hK := ps_ltE ev8 hK
    refine pm_ist4 d_X0_serve_47 rfl (by decide) ?_
    refine pm_ild d_X0_serve_49 rfl ?_
    refine pm_ild d_X0_serve_50 rfl ?_
    refine pm_icmp_le d_X0_serve_52 (fun c9 => ?_) (fun c9 => ?_)
    · replace hK := ps_ifT c9 hK
      refine pm_ild d_X0_serve_65 rfl ?_
      refine pm_if_ne d_X0_serve_67 (fun c10 => ?_) (fun c10 => ?_)
      · replace hK := ps_ifF c10 hK
        refine pm_ald d_X0_serve_71 rfl ?_
        refine ps_getR (q := 12) d_X0_serve_72 at_21 f_4_0_0 rfl ?_
        refine ps_getR (q := (12 + 4)) d_X0_serve_75 ps_Ho12.at0 f_2_0_14 rfl ?_
        refine pm_ild d_X0_serve_78 rfl ?_
        obtain ⟨b78, hT⟩ := ps_gd hK
        replace hK := hT
        clear hT
        refine ps_iald d_X0_serve_79 (ps_Ho12.at 4 (by decide)) a_2_4 (ps_in_of b78) rfl ?_
        refine ps_topI (fun v11 ev11 => ?_)
        replace hK := ps_ltE ev11 hK
        refine pm_ist5 d_X0_serve_80 rfl (by decide) ?_
        refine pm_ald d_X0_serve_82 rfl ?_
        refine ps_getR (q := (B1 + 11)) d_X0_serve_83 hB1.at0 f_5_0_1 rfl ?_
        refine pm_ild d_X0_serve_86 rfl ?_
        obtain ⟨b77, hT⟩ := ps_gd hK
        replace hK := hT
        clear hT
        refine ps_iald d_X0_serve_88 (hB1.at 11 (by decide)) a_5_11 (ps_in_of b77) rfl ?_
        refine ps_topI (fun v12 ev12 => ?_)
        replace hK := ps_ltE ev12 hK
        refine pm_if_ne d_X0_serve_89 (fun c13 => ?_) (fun c13 => ?_)
        · replace hK := ps_ifF c13 hK
          refine pm_ald d_X0_serve_103 rfl ?_
          refine ps_getR (q := (B1 + 11)) d_X0_serve_104 hB1.at0 f_5_0_1 rfl ?_
          refine pm_ild d_X0_serve_107 rfl ?_
          refine pm_dup2 d_X0_serve_109 rfl rfl ?_
          obtain ⟨b43, hT⟩ := ps_gd hK
          replace hK := hT
          clear hT
          refine ps_iald d_X0_serve_110 (hB1.at 11 (by decide)) a_5_11 (ps_in_of b43) rfl ?_
          refine ps_topI (fun v14 ev14 => ?_)
          replace hK := ps_ltE ev14 hK
          refine pm_ild d_X0_serve_111 rfl ?_
          refine pm_iadd d_X0_serve_113 ?_
          obtain ⟨b42, hT⟩ := ps_gd hK
          replace hK := hT
          clear hT
          refine ps_iast d_X0_serve_114 (hB1.at 11 (by decide)) a_5_11 (ps_in_of b42) ?_
          refine ps_nmS (fun σ15 eσ15 => ?_)
          replace hK := ps_ltE eσ15 hK
          refine pm_ald d_X0_serve_115 rfl ?_
          refine ps_getR (q := (B1 + 1)) d_X0_serve_116 hB1.at0 f_5_0_0 rfl ?_
          refine ps_getR (q := (B1 + 4)) d_X0_serve_119 (hB1.at 1 (by decide)) f_5_1_2 rfl ?_
          refine pm_ald d_X0_serve_122 rfl ?_
          refine ps_getR (q := 12) d_X0_serve_123 at_21 f_4_0_0 rfl ?_
          refine ps_getR (q := (12 + 5)) d_X0_serve_126 ps_Ho12.at0 f_2_0_15 rfl ?_
          refine pm_ild d_X0_serve_129 rfl ?_
          obtain ⟨b41, hT⟩ := ps_gd hK
          replace hK := hT
          clear hT
          refine ps_iald d_X0_serve_130 (ps_Ho12.at 5 (by decide)) a_2_5 (ps_in_of b41) rfl ?_
          refine ps_topI (fun v16 ev16 => ?_)
          replace hK := ps_ltE ev16 hK
          refine pm_dup2 d_X0_serve_131 rfl rfl ?_
          obtain ⟨b40, hT⟩ := ps_gd hK
          replace hK := hT
          clear hT
          refine ps_iald d_X0_serve_132 (hB1.at 4 (by decide)) a_5_4 (ps_in_of b40) rfl ?_
          refine ps_topI (fun v17 ev17 => ?_)
          replace hK := ps_ltE ev17 hK
          refine pm_ild d_X0_serve_133 rfl ?_
          refine pm_iadd d_X0_serve_135 ?_
          obtain ⟨b39, hT⟩ := ps_gd hK
          replace hK := hT
          clear hT
          refine ps_iast d_X0_serve_136 (hB1.at 4 (by decide)) a_5_4 (ps_in_of b39) ?_
          refine ps_nmS (fun σ18 eσ18 => ?_)
          replace hK := ps_ltE eσ18 hK
          refine pm_ald d_X0_serve_137 rfl ?_
          refine pm_dup d_X0_serve_138 rfl ?_
          refine ps_getI d_X0_serve_139 hB1.at0 f_5_0_9 rfl ?_
          refine ps_topI (fun v19 ev19 => ?_)
          replace hK := ps_ltE ev19 hK
          refine pm_ild d_X0_serve_142 rfl ?_
          refine pm_iadd d_X0_serve_144 ?_
          refine ps_putI d_X0_serve_145 hB1.at0 f_5_0_9 rfl rfl ?_
          refine ps_nmS (fun σ20 eσ20 => ?_)
          replace hK := ps_ltE eσ20 hK
          refine pm_ald d_X0_serve_148 rfl ?_
          refine ps_getR (q := (B1 + 16)) d_X0_serve_149 hB1.at0 f_5_0_6 rfl ?_
          refine pm_ild d_X0_serve_152 rfl ?_
          refine pm_dup2 d_X0_serve_153 rfl rfl ?_
          obtain ⟨b38, hT⟩ := ps_gd hK
          replace hK := hT
          clear hT
          refine ps_iald d_X0_serve_154 (hB1.at 16 (by decide)) a_5_16 (ps_in_of b38) rfl ?_
          refine ps_topI (fun v21 ev21 => ?_)
          replace hK := ps_ltE ev21 hK
          refine pm_ild d_X0_serve_155 rfl ?_
          refine pm_iadd d_X0_serve_157 ?_
          obtain ⟨b37, hT⟩ := ps_gd hK
          replace hK := hT
          clear hT
          refine ps_iast d_X0_serve_158 (hB1.at 16 (by decide)) a_5_16 (ps_in_of b37) ?_
          refine ps_nmS (fun σ22 eσ22 => ?_)
          replace hK := ps_ltE eσ22 hK
          refine pm_ald d_X0_serve_159 rfl ?_
          refine ps_getI d_X0_serve_160 hB1.at0 f_5_0_9 rfl ?_
          refine ps_topI (fun v23 ev23 => ?_)
          replace hK := ps_ltE ev23 hK
          refine pm_ald d_X0_serve_163 rfl ?_
          refine pm_ald d_X0_serve_164 rfl ?_
          refine ps_cVI d_X0_serve_165 mv_X0_freeOf at_21 ob_4_0 rfl (As := [.ref (g.2.2.1 + B1)]) rfl rfl (ps_room.of (by omega) (by decide)) (Nat.le_of_ble_eq_true rfl) (C_X0_freeOf B1 hB1 σ22 _ (ps_bdE hK)) ?_
          intro v24 σ25 hT
          clear hK
          have hK := hT
          clear hT
          refine pm_icmp_le d_X0_serve_168 (fun c26 => ?_) (fun c26 => ?_)
          · replace hK := ps_ifT c26 hK
            have hQ := ps_so hK
            exact ps_vret rfl d_X0_serve_208 ⟨rfl, hQ⟩
          · replace hK := ps_ifF c26 hK
            refine pm_ald d_X0_serve_171 rfl ?_
            refine ps_getR (q := (B1 + 15)) d_X0_serve_172 hB1.at0 f_5_0_5 rfl ?_
            refine pm_ild d_X0_serve_175 rfl ?_
            refine pm_ki d_X0_serve_176 ?_
            refine pm_ald d_X0_serve_177 rfl ?_
            refine ps_getR (q := (B1 + 15)) d_X0_serve_178 hB1.at0 f_5_0_5 rfl ?_
            refine pm_ild d_X0_serve_181 rfl ?_
            obtain ⟨b36, hT⟩ := ps_gd hK
            replace hK := hT
            clear hT
            refine ps_iald d_X0_serve_182 (hB1.at 15 (by decide)) a_5_15 (ps_in_of b36) rfl ?_
            refine ps_topI (fun v27 ev27 => ?_)
            replace hK := ps_ltE ev27 hK
            refine pm_imul d_X0_serve_183 ?_
            refine pm_ald d_X0_serve_184 rfl ?_
            refine pm_ald d_X0_serve_185 rfl ?_
            refine pm_ild d_X0_serve_186 rfl ?_
            refine pm_ild d_X0_serve_187 rfl ?_
            refine ps_cVI d_X0_serve_189 mv_X0_pauseOf at_21 ob_4_0 rfl (As := [.ref (g.2.2.1 + B1), .int p2, .int v8]) rfl rfl (ps_room.of (by omega) (by decide)) (Nat.le_of_ble_eq_true rfl) (C_X0_pauseOf B1 hB1 p2 v8 σ25 _ (ps_bdE hK)) ?_
            intro v28 σ29 hT
            clear hK
            have hK := hT
            clear hT
            refine pm_iadd d_X0_serve_192 ?_
            refine pm_ki d_X0_serve_193 ?_
            refine pm_idiv d_X0_serve_194 (by decide) ?_
            obtain ⟨b35, hT⟩ := ps_gd hK
            replace hK := hT
            clear hT
            refine ps_iast d_X0_serve_195 (hB1.at 15 (by decide)) a_5_15 (ps_in_of b35) ?_
            refine ps_nmS (fun σ30 eσ30 => ?_)
            replace hK := ps_ltE eσ30 hK
            refine pm_ald d_X0_serve_196 rfl ?_
            refine ps_getR (q := (B1 + 14)) d_X0_serve_197 hB1.at0 f_5_0_4 rfl ?_
            refine pm_ild d_X0_serve_200 rfl ?_
            refine pm_ald d_X0_serve_201 rfl ?_
            refine ps_getR (q := (B1 + 15)) d_X0_serve_202 hB1.at0 f_5_0_5 rfl ?_
            refine pm_ild d_X0_serve_205 rfl ?_
            obtain ⟨b34, hT⟩ := ps_gd hK
            replace hK := hT
            clear hT
            refine ps_iald d_X0_serve_206 (hB1.at 15 (by decide)) a_5_15 (ps_in_of b34) rfl ?_
            refine ps_topI (fun v31 ev31 => ?_)
            replace hK := ps_ltE ev31 hK
            obtain ⟨b33, hT⟩ := ps_gd hK
            replace hK := hT
            clear hT
            refine ps_iast d_X0_serve_207 (hB1.at 14 (by decide)) a_5_14 (ps_in_of b33) ?_
            refine ps_nmS (fun σ32 eσ32 => ?_)
            replace hK := ps_ltE eσ32 hK
            have hQ := ps_so hK
            exact ps_vret rfl d_X0_serve_208 ⟨rfl, hQ⟩
        · replace hK := ps_ifT c13 hK
          refine pm_ald d_X0_serve_92 rfl ?_
          refine ps_getR (q := (B1 + 12)) d_X0_serve_93 hB1.at0 f_5_0_2 rfl ?_
          refine pm_ild d_X0_serve_96 rfl ?_
          refine pm_ald d_X0_serve_98 rfl ?_
          refine ps_getI d_X0_serve_99 hB1.at0 f_5_0_8 rfl ?_
          refine ps_topI (fun v44 ev44 => ?_)
          replace hK := ps_ltE ev44 hK
          obtain ⟨b76, hT⟩ := ps_gd hK
          replace hK := hT
          clear hT
          refine ps_iast d_X0_serve_102 (hB1.at 12 (by decide)) a_5_12 (ps_in_of b76) ?_
          refine ps_nmS (fun σ45 eσ45 => ?_)
          replace hK := ps_ltE eσ45 hK
          refine pm_ald d_X0_serve_103 rfl ?_
          refine ps_getR (q := (B1 + 11)) d_X0_serve_104 hB1.at0 f_5_0_1 rfl ?_
          refine pm_ild d_X0_serve_107 rfl ?_
          refine pm_dup2 d_X0_serve_109 rfl rfl ?_
          obtain ⟨b75, hT⟩ := ps_gd hK
          replace hK := hT
          clear hT
          refine ps_iald d_X0_serve_110 (hB1.at 11 (by decide)) a_5_11 (ps_in_of b75) rfl ?_
          refine ps_topI (fun v46 ev46 => ?_)
          replace hK := ps_ltE ev46 hK
          refine pm_ild d_X0_serve_111 rfl ?_
          refine pm_iadd d_X0_serve_113 ?_
          obtain ⟨b74, hT⟩ := ps_gd hK
          replace hK := hT
          clear hT
          refine ps_iast d_X0_serve_114 (hB1.at 11 (by decide)) a_5_11 (ps_in_of b74) ?_
          refine ps_nmS (fun σ47 eσ47 => ?_)
          replace hK := ps_ltE eσ47 hK
          refine pm_ald d_X0_serve_115 rfl ?_
          refine ps_getR (q := (B1 + 1)) d_X0_serve_116 hB1.at0 f_5_0_0 rfl ?_
          refine ps_getR (q := (B1 + 4)) d_X0_serve_119 (hB1.at 1 (by decide)) f_5_1_2 rfl ?_
          refine pm_ald d_X0_serve_122 rfl ?_
          refine ps_getR (q := 12) d_X0_serve_123 at_21 f_4_0_0 rfl ?_
          refine ps_getR (q := (12 + 5)) d_X0_serve_126 ps_Ho12.at0 f_2_0_15 rfl ?_
          refine pm_ild d_X0_serve_129 rfl ?_
          obtain ⟨b73, hT⟩ := ps_gd hK
          replace hK := hT
          clear hT
          refine ps_iald d_X0_serve_130 (ps_Ho12.at 5 (by decide)) a_2_5 (ps_in_of b73) rfl ?_
          refine ps_topI (fun v48 ev48 => ?_)
          replace hK := ps_ltE ev48 hK
          refine pm_dup2 d_X0_serve_131 rfl rfl ?_
          obtain ⟨b72, hT⟩ := ps_gd hK
          replace hK := hT
          clear hT
          refine ps_iald d_X0_serve_132 (hB1.at 4 (by decide)) a_5_4 (ps_in_of b72) rfl ?_
          refine ps_topI (fun v49 ev49 => ?_)
          replace hK := ps_ltE ev49 hK
          refine pm_ild d_X0_serve_133 rfl ?_
          refine pm_iadd d_X0_serve_135 ?_
          obtain ⟨b71, hT⟩ := ps_gd hK
          replace hK := hT
          clear hT
          refine ps_iast d_X0_serve_136 (hB1.at 4 (by decide)) a_5_4 (ps_in_of b71) ?_
          refine ps_nmS (fun σ50 eσ50 => ?_)
          replace hK := ps_ltE eσ50 hK
          refine pm_ald d_X0_serve_137 rfl ?_
          refine pm_dup d_X0_serve_138 rfl ?_
          refine ps_getI d_X0_serve_139 hB1.at0 f_5_0_9 rfl ?_
          refine ps_topI (fun v51 ev51 => ?_)
          replace hK := ps_ltE ev51 hK
          refine pm_ild d_X0_serve_142 rfl ?_
          refine pm_iadd d_X0_serve_144 ?_
          refine ps_putI d_X0_serve_145 hB1.at0 f_5_0_9 rfl rfl ?_
          refine ps_nmS (fun σ52 eσ52 => ?_)
          replace hK := ps_ltE eσ52 hK
          refine pm_ald d_X0_serve_148 rfl ?_
          refine ps_getR (q := (B1 + 16)) d_X0_serve_149 hB1.at0 f_5_0_6 rfl ?_
          refine pm_ild d_X0_serve_152 rfl ?_
          refine pm_dup2 d_X0_serve_153 rfl rfl ?_
          obtain ⟨b70, hT⟩ := ps_gd hK
          replace hK := hT
          clear hT
          refine ps_iald d_X0_serve_154 (hB1.at 16 (by decide)) a_5_16 (ps_in_of b70) rfl ?_
          refine ps_topI (fun v53 ev53 => ?_)
          replace hK := ps_ltE ev53 hK
          refine pm_ild d_X0_serve_155 rfl ?_
          refine pm_iadd d_X0_serve_157 ?_
          obtain ⟨b69, hT⟩ := ps_gd hK
          replace hK := hT
          clear hT
          refine ps_iast d_X0_serve_158 (hB1.at 16 (by decide)) a_5_16 (ps_in_of b69) ?_
          refine ps_nmS (fun σ54 eσ54 => ?_)
          replace hK := ps_ltE eσ54 hK
          refine pm_ald d_X0_serve_159 rfl ?_
          refine ps_getI d_X0_serve_160 hB1.at0 f_5_0_9 rfl ?_
          refine ps_topI (fun v55 ev55 => ?_)
          replace hK := ps_ltE ev55 hK
          refine pm_ald d_X0_serve_163 rfl ?_
          refine pm_ald d_X0_serve_164 rfl ?_
          refine ps_cVI d_X0_serve_165 mv_X0_freeOf at_21 ob_4_0 rfl (As := [.ref (g.2.2.1 + B1)]) rfl rfl (ps_room.of (by omega) (by decide)) (Nat.le_of_ble_eq_true rfl) (C_X0_freeOf B1 hB1 σ54 _ (ps_bdE hK)) ?_
          intro v56 σ57 hT
          clear hK
          have hK := hT
          clear hT
          refine pm_icmp_le d_X0_serve_168 (fun c58 => ?_) (fun c58 => ?_)
          · replace hK := ps_ifT c58 hK
            have hQ := ps_so hK
            exact ps_vret rfl d_X0_serve_208 ⟨rfl, hQ⟩
          · replace hK := ps_ifF c58 hK
            refine pm_ald d_X0_serve_171 rfl ?_
            refine ps_getR (q := (B1 + 15)) d_X0_serve_172 hB1.at0 f_5_0_5 rfl ?_
            refine pm_ild d_X0_serve_175 rfl ?_
            refine pm_ki d_X0_serve_176 ?_
            refine pm_ald d_X0_serve_177 rfl ?_
            refine ps_getR (q := (B1 + 15)) d_X0_serve_178 hB1.at0 f_5_0_5 rfl ?_
            refine pm_ild d_X0_serve_181 rfl ?_
            obtain ⟨b68, hT⟩ := ps_gd hK
            replace hK := hT
            clear hT
            refine ps_iald d_X0_serve_182 (hB1.at 15 (by decide)) a_5_15 (ps_in_of b68) rfl ?_
            refine ps_topI (fun v59 ev59 => ?_)
            replace hK := ps_ltE ev59 hK
            refine pm_imul d_X0_serve_183 ?_
            refine pm_ald d_X0_serve_184 rfl ?_
            refine pm_ald d_X0_serve_185 rfl ?_
            refine pm_ild d_X0_serve_186 rfl ?_
            refine pm_ild d_X0_serve_187 rfl ?_
            refine ps_cVI d_X0_serve_189 mv_X0_pauseOf at_21 ob_4_0 rfl (As := [.ref (g.2.2.1 + B1), .int p2, .int v8]) rfl rfl (ps_room.of (by omega) (by decide)) (Nat.le_of_ble_eq_true rfl) (C_X0_pauseOf B1 hB1 p2 v8 σ57 _ (ps_bdE hK)) ?_
            intro v60 σ61 hT
            clear hK
            have hK := hT
            clear hT
            refine pm_iadd d_X0_serve_192 ?_
            refine pm_ki d_X0_serve_193 ?_
            refine pm_idiv d_X0_serve_194 (by decide) ?_
            obtain ⟨b67, hT⟩ := ps_gd hK
            replace hK := hT
            clear hT
            refine ps_iast d_X0_serve_195 (hB1.at 15 (by decide)) a_5_15 (ps_in_of b67) ?_
            refine ps_nmS (fun σ62 eσ62 => ?_)
            replace hK := ps_ltE eσ62 hK
            refine pm_ald d_X0_serve_196 rfl ?_
            refine ps_getR (q := (B1 + 14)) d_X0_serve_197 hB1.at0 f_5_0_4 rfl ?_
            refine pm_ild d_X0_serve_200 rfl ?_
            refine pm_ald d_X0_serve_201 rfl ?_
            refine ps_getR (q := (B1 + 15)) d_X0_serve_202 hB1.at0 f_5_0_5 rfl ?_
            refine pm_ild d_X0_serve_205 rfl ?_
            obtain ⟨b66, hT⟩ := ps_gd hK
            replace hK := hT
            clear hT
            refine ps_iald d_X0_serve_206 (hB1.at 15 (by decide)) a_5_15 (ps_in_of b66) rfl ?_
            refine ps_topI (fun v63 ev63 => ?_)
            replace hK := ps_ltE ev63 hK
            obtain ⟨b65, hT⟩ := ps_gd hK
            replace hK := hT
            clear hT
            refine ps_iast d_X0_serve_207 (hB1.at 14 (by decide)) a_5_14 (ps_in_of b65) ?_
            refine ps_nmS (fun σ64 eσ64 => ?_)
            replace hK := ps_ltE eσ64 hK
            have hQ := ps_so hK
            exact ps_vret rfl d_X0_serve_208 ⟨rfl, hQ⟩
      · replace hK := ps_ifT c10 hK
        have hQ := ps_so hK
        exact ps_vret rfl d_X0_serve_70 ⟨rfl, hQ⟩
    · replace hK := ps_ifF c9 hK
      refine pm_ald d_X0_serve_55 rfl ?_
      refine ps_getR (q := (B1 + 17)) d_X0_serve_56 hB1.at0 f_5_0_7 rfl ?_
      refine pm_ild d_X0_serve_59 rfl ?_
      refine pm_dup2 d_X0_serve_60 rfl rfl ?_
      obtain ⟨b151, hT⟩ := ps_gd hK
      replace hK := hT
      clear hT
      refine ps_iald d_X0_serve_61 (hB1.at 17 (by decide)) a_5_17 (ps_in_of b151) rfl ?_
      refine ps_topI (fun v79 ev79 => ?_)
      replace hK := ps_ltE ev79 hK
      refine pm_ki d_X0_serve_62 ?_
      refine pm_iadd d_X0_serve_63 ?_
      obtain ⟨b150, hT⟩ := ps_gd hK
      replace hK := hT
      clear hT
      refine ps_iast d_X0_serve_64 (hB1.at 17 (by decide)) a_5_17 (ps_in_of b150) ?_
      refine ps_nmS (fun σ80 eσ80 => ?_)
      replace hK := ps_ltE eσ80 hK
      refine pm_ild d_X0_serve_65 rfl ?_
      refine pm_if_ne d_X0_serve_67 (fun c81 => ?_) (fun c81 => ?_)
      · replace hK := ps_ifF c81 hK
        refine pm_ald d_X0_serve_71 rfl ?_
        refine ps_getR (q := 12) d_X0_serve_72 at_21 f_4_0_0 rfl ?_
        refine ps_getR (q := (12 + 4)) d_X0_serve_75 ps_Ho12.at0 f_2_0_14 rfl ?_
        refine pm_ild d_X0_serve_78 rfl ?_
        obtain ⟨b149, hT⟩ := ps_gd hK
        replace hK := hT
        clear hT
        refine ps_iald d_X0_serve_79 (ps_Ho12.at 4 (by decide)) a_2_4 (ps_in_of b149) rfl ?_
        refine ps_topI (fun v82 ev82 => ?_)
        replace hK := ps_ltE ev82 hK
        refine pm_ist5 d_X0_serve_80 rfl (by decide) ?_
        refine pm_ald d_X0_serve_82 rfl ?_
        refine ps_getR (q := (B1 + 11)) d_X0_serve_83 hB1.at0 f_5_0_1 rfl ?_
        refine pm_ild d_X0_serve_86 rfl ?_
        obtain ⟨b148, hT⟩ := ps_gd hK
        replace hK := hT
        clear hT
        refine ps_iald d_X0_serve_88 (hB1.at 11 (by decide)) a_5_11 (ps_in_of b148) rfl ?_
        refine ps_topI (fun v83 ev83 => ?_)
        replace hK := ps_ltE ev83 hK
        refine pm_if_ne d_X0_serve_89 (fun c84 => ?_) (fun c84 => ?_)
        · replace hK := ps_ifF c84 hK
          refine pm_ald d_X0_serve_103 rfl ?_
          refine ps_getR (q := (B1 + 11)) d_X0_serve_104 hB1.at0 f_5_0_1 rfl ?_
          refine pm_ild d_X0_serve_107 rfl ?_
          refine pm_dup2 d_X0_serve_109 rfl rfl ?_
          obtain ⟨b114, hT⟩ := ps_gd hK
          replace hK := hT
          clear hT
          refine ps_iald d_X0_serve_110 (hB1.at 11 (by decide)) a_5_11 (ps_in_of b114) rfl ?_
          refine ps_topI (fun v85 ev85 => ?_)
          replace hK := ps_ltE ev85 hK
          refine pm_ild d_X0_serve_111 rfl ?_
          refine pm_iadd d_X0_serve_113 ?_
          obtain ⟨b113, hT⟩ := ps_gd hK
          replace hK := hT
          clear hT
          refine ps_iast d_X0_serve_114 (hB1.at 11 (by decide)) a_5_11 (ps_in_of b113) ?_
          refine ps_nmS (fun σ86 eσ86 => ?_)
          replace hK := ps_ltE eσ86 hK
          refine pm_ald d_X0_serve_115 rfl ?_
          refine ps_getR (q := (B1 + 1)) d_X0_serve_116 hB1.at0 f_5_0_0 rfl ?_
          refine ps_getR (q := (B1 + 4)) d_X0_serve_119 (hB1.at 1 (by decide)) f_5_1_2 rfl ?_
          refine pm_ald d_X0_serve_122 rfl ?_
          refine ps_getR (q := 12) d_X0_serve_123 at_21 f_4_0_0 rfl ?_
          refine ps_getR (q := (12 + 5)) d_X0_serve_126 ps_Ho12.at0 f_2_0_15 rfl ?_
          refine pm_ild d_X0_serve_129 rfl ?_
          obtain ⟨b112, hT⟩ := ps_gd hK
          replace hK := hT
          clear hT
          refine ps_iald d_X0_serve_130 (ps_Ho12.at 5 (by decide)) a_2_5 (ps_in_of b112) rfl ?_
          refine ps_topI (fun v87 ev87 => ?_)
          replace hK := ps_ltE ev87 hK
          refine pm_dup2 d_X0_serve_131 rfl rfl ?_
          obtain ⟨b111, hT⟩ := ps_gd hK
          replace hK := hT
          clear hT
          refine ps_iald d_X0_serve_132 (hB1.at 4 (by decide)) a_5_4 (ps_in_of b111) rfl ?_
          refine ps_topI (fun v88 ev88 => ?_)
          replace hK := ps_ltE ev88 hK
          refine pm_ild d_X0_serve_133 rfl ?_
          refine pm_iadd d_X0_serve_135 ?_
          obtain ⟨b110, hT⟩ := ps_gd hK
          replace hK := hT
          clear hT
          refine ps_iast d_X0_serve_136 (hB1.at 4 (by decide)) a_5_4 (ps_in_of b110) ?_
          refine ps_nmS (fun σ89 eσ89 => ?_)
          replace hK := ps_ltE eσ89 hK
          refine pm_ald d_X0_serve_137 rfl ?_
          refine pm_dup d_X0_serve_138 rfl ?_
          refine ps_getI d_X0_serve_139 hB1.at0 f_5_0_9 rfl ?_
          refine ps_topI (fun v90 ev90 => ?_)
          replace hK := ps_ltE ev90 hK
          refine pm_ild d_X0_serve_142 rfl ?_
          refine pm_iadd d_X0_serve_144 ?_
          refine ps_putI d_X0_serve_145 hB1.at0 f_5_0_9 rfl rfl ?_
          refine ps_nmS (fun σ91 eσ91 => ?_)
          replace hK := ps_ltE eσ91 hK
          refine pm_ald d_X0_serve_148 rfl ?_
          refine ps_getR (q := (B1 + 16)) d_X0_serve_149 hB1.at0 f_5_0_6 rfl ?_
          refine pm_ild d_X0_serve_152 rfl ?_
          refine pm_dup2 d_X0_serve_153 rfl rfl ?_
          obtain ⟨b109, hT⟩ := ps_gd hK
          replace hK := hT
          clear hT
          refine ps_iald d_X0_serve_154 (hB1.at 16 (by decide)) a_5_16 (ps_in_of b109) rfl ?_
          refine ps_topI (fun v92 ev92 => ?_)
          replace hK := ps_ltE ev92 hK
          refine pm_ild d_X0_serve_155 rfl ?_
          refine pm_iadd d_X0_serve_157 ?_
          obtain ⟨b108, hT⟩ := ps_gd hK
          replace hK := hT
          clear hT
          refine ps_iast d_X0_serve_158 (hB1.at 16 (by decide)) a_5_16 (ps_in_of b108) ?_
          refine ps_nmS (fun σ93 eσ93 => ?_)
          replace hK := ps_ltE eσ93 hK
          refine pm_ald d_X0_serve_159 rfl ?_
          refine ps_getI d_X0_serve_160 hB1.at0 f_5_0_9 rfl ?_
          refine ps_topI (fun v94 ev94 => ?_)
          replace hK := ps_ltE ev94 hK
          refine pm_ald d_X0_serve_163 rfl ?_
          refine pm_ald d_X0_serve_164 rfl ?_
          refine ps_cVI d_X0_serve_165 mv_X0_freeOf at_21 ob_4_0 rfl (As := [.ref (g.2.2.1 + B1)]) rfl rfl (ps_room.of (by omega) (by decide)) (Nat.le_of_ble_eq_true rfl) (C_X0_freeOf B1 hB1 σ93 _ (ps_bdE hK)) ?_
          intro v95 σ96 hT
          clear hK
          have hK := hT
          clear hT
          refine pm_icmp_le d_X0_serve_168 (fun c97 => ?_) (fun c97 => ?_)
          · replace hK := ps_ifT c97 hK
            have hQ := ps_so hK
            exact ps_vret rfl d_X0_serve_208 ⟨rfl, hQ⟩
          · replace hK := ps_ifF c97 hK
            refine pm_ald d_X0_serve_171 rfl ?_
            refine ps_getR (q := (B1 + 15)) d_X0_serve_172 hB1.at0 f_5_0_5 rfl ?_
            refine pm_ild d_X0_serve_175 rfl ?_
            refine pm_ki d_X0_serve_176 ?_
            refine pm_ald d_X0_serve_177 rfl ?_
            refine ps_getR (q := (B1 + 15)) d_X0_serve_178 hB1.at0 f_5_0_5 rfl ?_
            refine pm_ild d_X0_serve_181 rfl ?_
            obtain ⟨b107, hT⟩ := ps_gd hK
            replace hK := hT
            clear hT
            refine ps_iald d_X0_serve_182 (hB1.at 15 (by decide)) a_5_15 (ps_in_of b107) rfl ?_
            refine ps_topI (fun v98 ev98 => ?_)
            replace hK := ps_ltE ev98 hK
            refine pm_imul d_X0_serve_183 ?_
            refine pm_ald d_X0_serve_184 rfl ?_
            refine pm_ald d_X0_serve_185 rfl ?_
            refine pm_ild d_X0_serve_186 rfl ?_
            refine pm_ild d_X0_serve_187 rfl ?_
            refine ps_cVI d_X0_serve_189 mv_X0_pauseOf at_21 ob_4_0 rfl (As := [.ref (g.2.2.1 + B1), .int p2, .int v8]) rfl rfl (ps_room.of (by omega) (by decide)) (Nat.le_of_ble_eq_true rfl) (C_X0_pauseOf B1 hB1 p2 v8 σ96 _ (ps_bdE hK)) ?_
            intro v99 σ100 hT
            clear hK
            have hK := hT
            clear hT
            refine pm_iadd d_X0_serve_192 ?_
            refine pm_ki d_X0_serve_193 ?_
            refine pm_idiv d_X0_serve_194 (by decide) ?_
            obtain ⟨b106, hT⟩ := ps_gd hK
            replace hK := hT
            clear hT
            refine ps_iast d_X0_serve_195 (hB1.at 15 (by decide)) a_5_15 (ps_in_of b106) ?_
            refine ps_nmS (fun σ101 eσ101 => ?_)
            replace hK := ps_ltE eσ101 hK
            refine pm_ald d_X0_serve_196 rfl ?_
            refine ps_getR (q := (B1 + 14)) d_X0_serve_197 hB1.at0 f_5_0_4 rfl ?_
            refine pm_ild d_X0_serve_200 rfl ?_
            refine pm_ald d_X0_serve_201 rfl ?_
            refine ps_getR (q := (B1 + 15)) d_X0_serve_202 hB1.at0 f_5_0_5 rfl ?_
            refine pm_ild d_X0_serve_205 rfl ?_
            obtain ⟨b105, hT⟩ := ps_gd hK
            replace hK := hT
            clear hT
            refine ps_iald d_X0_serve_206 (hB1.at 15 (by decide)) a_5_15 (ps_in_of b105) rfl ?_
            refine ps_topI (fun v102 ev102 => ?_)
            replace hK := ps_ltE ev102 hK
            obtain ⟨b104, hT⟩ := ps_gd hK
            replace hK := hT
            clear hT
            refine ps_iast d_X0_serve_207 (hB1.at 14 (by decide)) a_5_14 (ps_in_of b104) ?_
            refine ps_nmS (fun σ103 eσ103 => ?_)
            replace hK := ps_ltE eσ103 hK
            have hQ := ps_so hK
            exact ps_vret rfl d_X0_serve_208 ⟨rfl, hQ⟩
        · replace hK := ps_ifT c84 hK
          refine pm_ald d_X0_serve_92 rfl ?_
          refine ps_getR (q := (B1 + 12)) d_X0_serve_93 hB1.at0 f_5_0_2 rfl ?_
          refine pm_ild d_X0_serve_96 rfl ?_
          refine pm_ald d_X0_serve_98 rfl ?_
          refine ps_getI d_X0_serve_99 hB1.at0 f_5_0_8 rfl ?_
          refine ps_topI (fun v115 ev115 => ?_)
          replace hK := ps_ltE ev115 hK
          obtain ⟨b147, hT⟩ := ps_gd hK
          replace hK := hT
          clear hT
          refine ps_iast d_X0_serve_102 (hB1.at 12 (by decide)) a_5_12 (ps_in_of b147) ?_
          refine ps_nmS (fun σ116 eσ116 => ?_)
          replace hK := ps_ltE eσ116 hK
          refine pm_ald d_X0_serve_103 rfl ?_
          refine ps_getR (q := (B1 + 11)) d_X0_serve_104 hB1.at0 f_5_0_1 rfl ?_
          refine pm_ild d_X0_serve_107 rfl ?_
          refine pm_dup2 d_X0_serve_109 rfl rfl ?_
          obtain ⟨b146, hT⟩ := ps_gd hK
          replace hK := hT
          clear hT
          refine ps_iald d_X0_serve_110 (hB1.at 11 (by decide)) a_5_11 (ps_in_of b146) rfl ?_
          refine ps_topI (fun v117 ev117 => ?_)
          replace hK := ps_ltE ev117 hK
          refine pm_ild d_X0_serve_111 rfl ?_
          refine pm_iadd d_X0_serve_113 ?_
          obtain ⟨b145, hT⟩ := ps_gd hK
          replace hK := hT
          clear hT
          refine ps_iast d_X0_serve_114 (hB1.at 11 (by decide)) a_5_11 (ps_in_of b145) ?_
          refine ps_nmS (fun σ118 eσ118 => ?_)
          replace hK := ps_ltE eσ118 hK
          refine pm_ald d_X0_serve_115 rfl ?_
          refine ps_getR (q := (B1 + 1)) d_X0_serve_116 hB1.at0 f_5_0_0 rfl ?_
          refine ps_getR (q := (B1 + 4)) d_X0_serve_119 (hB1.at 1 (by decide)) f_5_1_2 rfl ?_
          refine pm_ald d_X0_serve_122 rfl ?_
          refine ps_getR (q := 12) d_X0_serve_123 at_21 f_4_0_0 rfl ?_
          refine ps_getR (q := (12 + 5)) d_X0_serve_126 ps_Ho12.at0 f_2_0_15 rfl ?_
          refine pm_ild d_X0_serve_129 rfl ?_
          obtain ⟨b144, hT⟩ := ps_gd hK
          replace hK := hT
          clear hT
          refine ps_iald d_X0_serve_130 (ps_Ho12.at 5 (by decide)) a_2_5 (ps_in_of b144) rfl ?_
          refine ps_topI (fun v119 ev119 => ?_)
          replace hK := ps_ltE ev119 hK
          refine pm_dup2 d_X0_serve_131 rfl rfl ?_
          obtain ⟨b143, hT⟩ := ps_gd hK
          replace hK := hT
          clear hT
          refine ps_iald d_X0_serve_132 (hB1.at 4 (by decide)) a_5_4 (ps_in_of b143) rfl ?_
          refine ps_topI (fun v120 ev120 => ?_)
          replace hK := ps_ltE ev120 hK
          refine pm_ild d_X0_serve_133 rfl ?_
          refine pm_iadd d_X0_serve_135 ?_
          obtain ⟨b142, hT⟩ := ps_gd hK
          replace hK := hT
          clear hT
          refine ps_iast d_X0_serve_136 (hB1.at 4 (by decide)) a_5_4 (ps_in_of b142) ?_
          refine ps_nmS (fun σ121 eσ121 => ?_)
          replace hK := ps_ltE eσ121 hK
          refine pm_ald d_X0_serve_137 rfl ?_
          refine pm_dup d_X0_serve_138 rfl ?_
          refine ps_getI d_X0_serve_139 hB1.at0 f_5_0_9 rfl ?_
          refine ps_topI (fun v122 ev122 => ?_)
          replace hK := ps_ltE ev122 hK
          refine pm_ild d_X0_serve_142 rfl ?_
          refine pm_iadd d_X0_serve_144 ?_
          refine ps_putI d_X0_serve_145 hB1.at0 f_5_0_9 rfl rfl ?_
          refine ps_nmS (fun σ123 eσ123 => ?_)
          replace hK := ps_ltE eσ123 hK
          refine pm_ald d_X0_serve_148 rfl ?_
          refine ps_getR (q := (B1 + 16)) d_X0_serve_149 hB1.at0 f_5_0_6 rfl ?_
          refine pm_ild d_X0_serve_152 rfl ?_
          refine pm_dup2 d_X0_serve_153 rfl rfl ?_
          obtain ⟨b141, hT⟩ := ps_gd hK
          replace hK := hT
          clear hT
          refine ps_iald d_X0_serve_154 (hB1.at 16 (by decide)) a_5_16 (ps_in_of b141) rfl ?_
          refine ps_topI (fun v124 ev124 => ?_)
          replace hK := ps_ltE ev124 hK
          refine pm_ild d_X0_serve_155 rfl ?_
          refine pm_iadd d_X0_serve_157 ?_
          obtain ⟨b140, hT⟩ := ps_gd hK
          replace hK := hT
          clear hT
          refine ps_iast d_X0_serve_158 (hB1.at 16 (by decide)) a_5_16 (ps_in_of b140) ?_
          refine ps_nmS (fun σ125 eσ125 => ?_)
          replace hK := ps_ltE eσ125 hK
          refine pm_ald d_X0_serve_159 rfl ?_
          refine ps_getI d_X0_serve_160 hB1.at0 f_5_0_9 rfl ?_
          refine ps_topI (fun v126 ev126 => ?_)
          replace hK := ps_ltE ev126 hK
          refine pm_ald d_X0_serve_163 rfl ?_
          refine pm_ald d_X0_serve_164 rfl ?_
          refine ps_cVI d_X0_serve_165 mv_X0_freeOf at_21 ob_4_0 rfl (As := [.ref (g.2.2.1 + B1)]) rfl rfl (ps_room.of (by omega) (by decide)) (Nat.le_of_ble_eq_true rfl) (C_X0_freeOf B1 hB1 σ125 _ (ps_bdE hK)) ?_
          intro v127 σ128 hT
          clear hK
          have hK := hT
          clear hT
          refine pm_icmp_le d_X0_serve_168 (fun c129 => ?_) (fun c129 => ?_)
          · replace hK := ps_ifT c129 hK
            have hQ := ps_so hK
            exact ps_vret rfl d_X0_serve_208 ⟨rfl, hQ⟩
          · replace hK := ps_ifF c129 hK
            refine pm_ald d_X0_serve_171 rfl ?_
            refine ps_getR (q := (B1 + 15)) d_X0_serve_172 hB1.at0 f_5_0_5 rfl ?_
            refine pm_ild d_X0_serve_175 rfl ?_
            refine pm_ki d_X0_serve_176 ?_
            refine pm_ald d_X0_serve_177 rfl ?_
            refine ps_getR (q := (B1 + 15)) d_X0_serve_178 hB1.at0 f_5_0_5 rfl ?_
            refine pm_ild d_X0_serve_181 rfl ?_
            obtain ⟨b139, hT⟩ := ps_gd hK
            replace hK := hT
            clear hT
            refine ps_iald d_X0_serve_182 (hB1.at 15 (by decide)) a_5_15 (ps_in_of b139) rfl ?_
            refine ps_topI (fun v130 ev130 => ?_)
            replace hK := ps_ltE ev130 hK
            refine pm_imul d_X0_serve_183 ?_
            refine pm_ald d_X0_serve_184 rfl ?_
            refine pm_ald d_X0_serve_185 rfl ?_
            refine pm_ild d_X0_serve_186 rfl ?_
            refine pm_ild d_X0_serve_187 rfl ?_
            refine ps_cVI d_X0_serve_189 mv_X0_pauseOf at_21 ob_4_0 rfl (As := [.ref (g.2.2.1 + B1), .int p2, .int v8]) rfl rfl (ps_room.of (by omega) (by decide)) (Nat.le_of_ble_eq_true rfl) (C_X0_pauseOf B1 hB1 p2 v8 σ128 _ (ps_bdE hK)) ?_
            intro v131 σ132 hT
            clear hK
            have hK := hT
            clear hT
            refine pm_iadd d_X0_serve_192 ?_
            refine pm_ki d_X0_serve_193 ?_
            refine pm_idiv d_X0_serve_194 (by decide) ?_
            obtain ⟨b138, hT⟩ := ps_gd hK
            replace hK := hT
            clear hT
            refine ps_iast d_X0_serve_195 (hB1.at 15 (by decide)) a_5_15 (ps_in_of b138) ?_
            refine ps_nmS (fun σ133 eσ133 => ?_)
            replace hK := ps_ltE eσ133 hK
            refine pm_ald d_X0_serve_196 rfl ?_
            refine ps_getR (q := (B1 + 14)) d_X0_serve_197 hB1.at0 f_5_0_4 rfl ?_
            refine pm_ild d_X0_serve_200 rfl ?_
            refine pm_ald d_X0_serve_201 rfl ?_
            refine ps_getR (q := (B1 + 15)) d_X0_serve_202 hB1.at0 f_5_0_5 rfl ?_
            refine pm_ild d_X0_serve_205 rfl ?_
            obtain ⟨b137, hT⟩ := ps_gd hK
            replace hK := hT
            clear hT
            refine ps_iald d_X0_serve_206 (hB1.at 15 (by decide)) a_5_15 (ps_in_of b137) rfl ?_
            refine ps_topI (fun v134 ev134 => ?_)
            replace hK := ps_ltE ev134 hK
            obtain ⟨b136, hT⟩ := ps_gd hK
            replace hK := hT
            clear hT
            refine ps_iast d_X0_serve_207 (hB1.at 14 (by decide)) a_5_14 (ps_in_of b136) ?_
            refine ps_nmS (fun σ135 eσ135 => ?_)
            replace hK := ps_ltE eσ135 hK
            have hQ := ps_so hK
            exact ps_vret rfl d_X0_serve_208 ⟨rfl, hQ⟩
      · replace hK := ps_ifT c81 hK
        have hQ := ps_so hK
        exact ps_vret rfl d_X0_serve_70 ⟨rfl, hQ⟩
  · replace hK := ps_ifF c2 hK
    refine pm_ald d_X0_serve_9 rfl ?_
    refine ps_getR (q := (B1 + 14)) d_X0_serve_10 hB1.at0 f_5_0_4 rfl ?_
    refine pm_ild d_X0_serve_13 rfl ?_
    refine pm_dup2 d_X0_serve_14 rfl rfl ?_
    obtain ⟨b155, hT⟩ := ps_gd hK
    replace hK := hT
    clear hT
    refine ps_iald d_X0_serve_15 (hB1.at 14 (by decide)) a_5_14 (ps_in_of b155) rfl ?_
    refine ps_topI (fun v152 ev152 => ?_)
    replace hK := ps_ltE ev152 hK
    refine pm_ki d_X0_serve_16 ?_
    refine pm_isub d_X0_serve_17 ?_
    obtain ⟨b154, hT⟩ := ps_gd hK
    replace hK := hT
    clear hT
    refine ps_iast d_X0_serve_18 (hB1.at 14 (by decide)) a_5_14 (ps_in_of b154) ?_
    refine ps_nmS (fun σ153 eσ153 => ?_)
    replace hK := ps_ltE eσ153 hK
    have hQ := ps_so hK
    exact ps_vret rfl d_X0_serve_19 ⟨rfl, hQ⟩
