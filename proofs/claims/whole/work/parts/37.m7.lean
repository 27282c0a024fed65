def qX9_writes (p1 : Int32) (σ : ps_S) : Option (Unit × ps_S) :=
  if ps_in ((59 + p1)) 83 = true then
  ps_let (σ.1 335 ((59 + p1)).toNatClampNeg) fun v1 =>
  if v1 ≤ 0 then
  ps_bd (qX9_wantsNow p1 σ) (fun v3 σ4 =>
  ps_let (σ4.1 327 21) fun v5 =>
  ps_bd (qX9_allNow σ4) (fun v6 σ7 =>
  ps_let ((v5 - v6)) fun v8 =>
  if 0 ≤ v8 then
  if v8 ≤ v3 then
  if v3 ≤ v8 then
  if v8 = 0 then
  some ((), σ7)
  else
  if ps_in ((29 + p1)) 5550 = true then
  ps_let (σ7.1 328 ((29 + p1)).toNatClampNeg) fun v13 =>
  if ps_in ((1 + v13)) 83 = true then
  ps_let (σ7.1 335 ((1 + v13)).toNatClampNeg) fun v14 =>
  if v14 = 0 then
  ps_let (σ7.1 335 0) fun v39 =>
  if ps_in ((13 + v13)) 83 = true then
  ps_let (ps_rI σ7 335 (upd (σ7.1 335) ((13 + v13)).toNatClampNeg v39)) fun σ40 =>
  if ps_in ((1 + v13)) 83 = true then
  ps_let (σ40.1 335 ((1 + v13)).toNatClampNeg) fun v41 =>
  if ps_in ((1 + v13)) 83 = true then
  ps_let (ps_rI σ40 335 (upd (σ40.1 335) ((1 + v13)).toNatClampNeg ((v41 + v8)))) fun σ42 =>
  if ps_in ((71 + p1)) 83 = true then
  ps_let (σ42.1 335 ((71 + p1)).toNatClampNeg) fun v43 =>
  if ps_in ((71 + p1)) 83 = true then
  ps_let (ps_rI σ42 335 (upd (σ42.1 335) ((71 + p1)).toNatClampNeg ((v43 + v8)))) fun σ44 =>
  ps_bd (qX9_allNow σ44) (fun v45 σ46 =>
  ps_bd (qX9_freeNow σ46) (fun v47 σ48 =>
  if v47 < v45 then
  if ps_in ((65 + p1)) 83 = true then
  ps_let (σ48.1 335 ((65 + p1)).toNatClampNeg) fun v50 =>
  ps_bd (qX9_pauseOf p1 v8 σ48) (fun v51 σ52 =>
  if ps_in ((65 + p1)) 83 = true then
  ps_let (ps_rI σ52 335 (upd (σ52.1 335) ((65 + p1)).toNatClampNeg ((((((3 * v50)) + v51)) / 4)))) fun σ53 =>
  if ps_in ((65 + p1)) 83 = true then
  ps_let (σ53.1 335 ((65 + p1)).toNatClampNeg) fun v54 =>
  if ps_in ((59 + p1)) 83 = true then
  ps_let (ps_rI σ53 335 (upd (σ53.1 335) ((59 + p1)).toNatClampNeg v54)) fun σ55 =>
  some ((), σ55)
  else none
  else none
  else none)
  else none
  else
  some ((), σ48)))
  else none
  else none
  else none
  else none
  else none
  else
  if ps_in ((1 + v13)) 83 = true then
  ps_let (σ7.1 335 ((1 + v13)).toNatClampNeg) fun v16 =>
  if ps_in ((1 + v13)) 83 = true then
  ps_let (ps_rI σ7 335 (upd (σ7.1 335) ((1 + v13)).toNatClampNeg ((v16 + v8)))) fun σ17 =>
  if ps_in ((71 + p1)) 83 = true then
  ps_let (σ17.1 335 ((71 + p1)).toNatClampNeg) fun v18 =>
  if ps_in ((71 + p1)) 83 = true then
  ps_let (ps_rI σ17 335 (upd (σ17.1 335) ((71 + p1)).toNatClampNeg ((v18 + v8)))) fun σ19 =>
  ps_bd (qX9_allNow σ19) (fun v20 σ21 =>
  ps_bd (qX9_freeNow σ21) (fun v22 σ23 =>
  if v22 < v20 then
  if ps_in ((65 + p1)) 83 = true then
  ps_let (σ23.1 335 ((65 + p1)).toNatClampNeg) fun v25 =>
  ps_bd (qX9_pauseOf p1 v8 σ23) (fun v26 σ27 =>
  if ps_in ((65 + p1)) 83 = true then
  ps_let (ps_rI σ27 335 (upd (σ27.1 335) ((65 + p1)).toNatClampNeg ((((((3 * v25)) + v26)) / 4)))) fun σ28 =>
  if ps_in ((65 + p1)) 83 = true then
  ps_let (σ28.1 335 ((65 + p1)).toNatClampNeg) fun v29 =>
  if ps_in ((59 + p1)) 83 = true then
  ps_let (ps_rI σ28 335 (upd (σ28.1 335) ((59 + p1)).toNatClampNeg v29)) fun σ30 =>
  some ((), σ30)
  else none
  else none
  else none)
  else none
  else
  some ((), σ23)))
  else none
  else none
  else none
  else none
  else none
  else none
  else
  if ps_in ((77 + p1)) 83 = true then
  ps_let (σ7.1 335 ((77 + p1)).toNatClampNeg) fun v67 =>
  if ps_in ((77 + p1)) 83 = true then
  ps_let (ps_rI σ7 335 (upd (σ7.1 335) ((77 + p1)).toNatClampNeg ((v67 + 1)))) fun σ68 =>
  if v8 = 0 then
  some ((), σ68)
  else
  if ps_in ((29 + p1)) 5550 = true then
  ps_let (σ68.1 328 ((29 + p1)).toNatClampNeg) fun v70 =>
  if ps_in ((1 + v70)) 83 = true then
  ps_let (σ68.1 335 ((1 + v70)).toNatClampNeg) fun v71 =>
  if v71 = 0 then
  ps_let (σ68.1 335 0) fun v96 =>
  if ps_in ((13 + v70)) 83 = true then
  ps_let (ps_rI σ68 335 (upd (σ68.1 335) ((13 + v70)).toNatClampNeg v96)) fun σ97 =>
  if ps_in ((1 + v70)) 83 = true then
  ps_let (σ97.1 335 ((1 + v70)).toNatClampNeg) fun v98 =>
  if ps_in ((1 + v70)) 83 = true then
  ps_let (ps_rI σ97 335 (upd (σ97.1 335) ((1 + v70)).toNatClampNeg ((v98 + v8)))) fun σ99 =>
  if ps_in ((71 + p1)) 83 = true then
  ps_let (σ99.1 335 ((71 + p1)).toNatClampNeg) fun v100 =>
  if ps_in ((71 + p1)) 83 = true then
  ps_let (ps_rI σ99 335 (upd (σ99.1 335) ((71 + p1)).toNatClampNeg ((v100 + v8)))) fun σ101 =>
  ps_bd (qX9_allNow σ101) (fun v102 σ103 =>
  ps_bd (qX9_freeNow σ103) (fun v104 σ105 =>
  if v104 < v102 then
  if ps_in ((65 + p1)) 83 = true then
  ps_let (σ105.1 335 ((65 + p1)).toNatClampNeg) fun v107 =>
  ps_bd (qX9_pauseOf p1 v8 σ105) (fun v108 σ109 =>
  if ps_in ((65 + p1)) 83 = true then
  ps_let (ps_rI σ109 335 (upd (σ109.1 335) ((65 + p1)).toNatClampNeg ((((((3 * v107)) + v108)) / 4)))) fun σ110 =>
  if ps_in ((65 + p1)) 83 = true then
  ps_let (σ110.1 335 ((65 + p1)).toNatClampNeg) fun v111 =>
  if ps_in ((59 + p1)) 83 = true then
  ps_let (ps_rI σ110 335 (upd (σ110.1 335) ((59 + p1)).toNatClampNeg v111)) fun σ112 =>
  some ((), σ112)
  else none
  else none
  else none)
  else none
  else
  some ((), σ105)))
  else none
  else none
  else none
  else none
  else none
  else
  if ps_in ((1 + v70)) 83 = true then
  ps_let (σ68.1 335 ((1 + v70)).toNatClampNeg) fun v73 =>
  if ps_in ((1 + v70)) 83 = true then
  ps_let (ps_rI σ68 335 (upd (σ68.1 335) ((1 + v70)).toNatClampNeg ((v73 + v8)))) fun σ74 =>
  if ps_in ((71 + p1)) 83 = true then
  ps_let (σ74.1 335 ((71 + p1)).toNatClampNeg) fun v75 =>
  if ps_in ((71 + p1)) 83 = true then
  ps_let (ps_rI σ74 335 (upd (σ74.1 335) ((71 + p1)).toNatClampNeg ((v75 + v8)))) fun σ76 =>
  ps_bd (qX9_allNow σ76) (fun v77 σ78 =>
  ps_bd (qX9_freeNow σ78) (fun v79 σ80 =>
  if v79 < v77 then
  if ps_in ((65 + p1)) 83 = true then
  ps_let (σ80.1 335 ((65 + p1)).toNatClampNeg) fun v82 =>
  ps_bd (qX9_pauseOf p1 v8 σ80) (fun v83 σ84 =>
  if ps_in ((65 + p1)) 83 = true then
  ps_let (ps_rI σ84 335 (upd (σ84.1 335) ((65 + p1)).toNatClampNeg ((((((3 * v82)) + v83)) / 4)))) fun σ85 =>
  if ps_in ((65 + p1)) 83 = true then
  ps_let (σ85.1 335 ((65 + p1)).toNatClampNeg) fun v86 =>
  if ps_in ((59 + p1)) 83 = true then
  ps_let (ps_rI σ85 335 (upd (σ85.1 335) ((59 + p1)).toNatClampNeg v86)) fun σ87 =>
  some ((), σ87)
  else none
  else none
  else none)
  else none
  else
  some ((), σ80)))
  else none
  else none
  else none
  else none
  else none
  else none
  else none
  else none
  else
  if v3 ≤ v3 then
  if v3 = 0 then
  some ((), σ7)
  else
  if ps_in ((29 + p1)) 5550 = true then
  ps_let (σ7.1 328 ((29 + p1)).toNatClampNeg) fun v128 =>
  if ps_in ((1 + v128)) 83 = true then
  ps_let (σ7.1 335 ((1 + v128)).toNatClampNeg) fun v129 =>
  if v129 = 0 then
  ps_let (σ7.1 335 0) fun v154 =>
  if ps_in ((13 + v128)) 83 = true then
  ps_let (ps_rI σ7 335 (upd (σ7.1 335) ((13 + v128)).toNatClampNeg v154)) fun σ155 =>
  if ps_in ((1 + v128)) 83 = true then
  ps_let (σ155.1 335 ((1 + v128)).toNatClampNeg) fun v156 =>
  if ps_in ((1 + v128)) 83 = true then
  ps_let (ps_rI σ155 335 (upd (σ155.1 335) ((1 + v128)).toNatClampNeg ((v156 + v3)))) fun σ157 =>
  if ps_in ((71 + p1)) 83 = true then
  ps_let (σ157.1 335 ((71 + p1)).toNatClampNeg) fun v158 =>
  if ps_in ((71 + p1)) 83 = true then
  ps_let (ps_rI σ157 335 (upd (σ157.1 335) ((71 + p1)).toNatClampNeg ((v158 + v3)))) fun σ159 =>
  ps_bd (qX9_allNow σ159) (fun v160 σ161 =>
  ps_bd (qX9_freeNow σ161) (fun v162 σ163 =>
  if v162 < v160 then
  if ps_in ((65 + p1)) 83 = true then
  ps_let (σ163.1 335 ((65 + p1)).toNatClampNeg) fun v165 =>
  ps_bd (qX9_pauseOf p1 v3 σ163) (fun v166 σ167 =>
  if ps_in ((65 + p1)) 83 = true then
  ps_let (ps_rI σ167 335 (upd (σ167.1 335) ((65 + p1)).toNatClampNeg ((((((3 * v165)) + v166)) / 4)))) fun σ168 =>
  if ps_in ((65 + p1)) 83 = true then
  ps_let (σ168.1 335 ((65 + p1)).toNatClampNeg) fun v169 =>
  if ps_in ((59 + p1)) 83 = true then
  ps_let (ps_rI σ168 335 (upd (σ168.1 335) ((59 + p1)).toNatClampNeg v169)) fun σ170 =>
  some ((), σ170)
  else none
  else none
  else none)
  else none
  else
  some ((), σ163)))
  else none
  else none
  else none
  else none
  else none
  else
  if ps_in ((1 + v128)) 83 = true then
  ps_let (σ7.1 335 ((1 + v128)).toNatClampNeg) fun v131 =>
  if ps_in ((1 + v128)) 83 = true then
  ps_let (ps_rI σ7 335 (upd (σ7.1 335) ((1 + v128)).toNatClampNeg ((v131 + v3)))) fun σ132 =>
  if ps_in ((71 + p1)) 83 = true then
  ps_let (σ132.1 335 ((71 + p1)).toNatClampNeg) fun v133 =>
  if ps_in ((71 + p1)) 83 = true then
  ps_let (ps_rI σ132 335 (upd (σ132.1 335) ((71 + p1)).toNatClampNeg ((v133 + v3)))) fun σ134 =>
  ps_bd (qX9_allNow σ134) (fun v135 σ136 =>
  ps_bd (qX9_freeNow σ136) (fun v137 σ138 =>
  if v137 < v135 then
  if ps_in ((65 + p1)) 83 = true then
  ps_let (σ138.1 335 ((65 + p1)).toNatClampNeg) fun v140 =>
  ps_bd (qX9_pauseOf p1 v3 σ138) (fun v141 σ142 =>
  if ps_in ((65 + p1)) 83 = true then
  ps_let (ps_rI σ142 335 (upd (σ142.1 335) ((65 + p1)).toNatClampNeg ((((((3 * v140)) + v141)) / 4)))) fun σ143 =>
  if ps_in ((65 + p1)) 83 = true then
  ps_let (σ143.1 335 ((65 + p1)).toNatClampNeg) fun v144 =>
  if ps_in ((59 + p1)) 83 = true then
  ps_let (ps_rI σ143 335 (upd (σ143.1 335) ((59 + p1)).toNatClampNeg v144)) fun σ145 =>
  some ((), σ145)
  else none
  else none
  else none)
  else none
  else
  some ((), σ138)))
  else none
  else none
  else none
  else none
  else none
  else none
  else
  if ps_in ((77 + p1)) 83 = true then
  ps_let (σ7.1 335 ((77 + p1)).toNatClampNeg) fun v182 =>
  if ps_in ((77 + p1)) 83 = true then
  ps_let (ps_rI σ7 335 (upd (σ7.1 335) ((77 + p1)).toNatClampNeg ((v182 + 1)))) fun σ183 =>
  if v3 = 0 then
  some ((), σ183)
  else
  if ps_in ((29 + p1)) 5550 = true then
  ps_let (σ183.1 328 ((29 + p1)).toNatClampNeg) fun v185 =>
  if ps_in ((1 + v185)) 83 = true then
  ps_let (σ183.1 335 ((1 + v185)).toNatClampNeg) fun v186 =>
  if v186 = 0 then
  ps_let (σ183.1 335 0) fun v211 =>
  if ps_in ((13 + v185)) 83 = true then
  ps_let (ps_rI σ183 335 (upd (σ183.1 335) ((13 + v185)).toNatClampNeg v211)) fun σ212 =>
  if ps_in ((1 + v185)) 83 = true then
  ps_let (σ212.1 335 ((1 + v185)).toNatClampNeg) fun v213 =>
  if ps_in ((1 + v185)) 83 = true then
  ps_let (ps_rI σ212 335 (upd (σ212.1 335) ((1 + v185)).toNatClampNeg ((v213 + v3)))) fun σ214 =>
  if ps_in ((71 + p1)) 83 = true then
  ps_let (σ214.1 335 ((71 + p1)).toNatClampNeg) fun v215 =>
  if ps_in ((71 + p1)) 83 = true then
  ps_let (ps_rI σ214 335 (upd (σ214.1 335) ((71 + p1)).toNatClampNeg ((v215 + v3)))) fun σ216 =>
  ps_bd (qX9_allNow σ216) (fun v217 σ218 =>
  ps_bd (qX9_freeNow σ218) (fun v219 σ220 =>
  if v219 < v217 then
  if ps_in ((65 + p1)) 83 = true then
  ps_let (σ220.1 335 ((65 + p1)).toNatClampNeg) fun v222 =>
  ps_bd (qX9_pauseOf p1 v3 σ220) (fun v223 σ224 =>
  if ps_in ((65 + p1)) 83 = true then
  ps_let (ps_rI σ224 335 (upd (σ224.1 335) ((65 + p1)).toNatClampNeg ((((((3 * v222)) + v223)) / 4)))) fun σ225 =>
  if ps_in ((65 + p1)) 83 = true then
  ps_let (σ225.1 335 ((65 + p1)).toNatClampNeg) fun v226 =>
  if ps_in ((59 + p1)) 83 = true then
  ps_let (ps_rI σ225 335 (upd (σ225.1 335) ((59 + p1)).toNatClampNeg v226)) fun σ227 =>
  some ((), σ227)
  else none
  else none
  else none)
  else none
  else
  some ((), σ220)))
  else none
  else none
  else none
  else none
  else none
  else
  if ps_in ((1 + v185)) 83 = true then
  ps_let (σ183.1 335 ((1 + v185)).toNatClampNeg) fun v188 =>
  if ps_in ((1 + v185)) 83 = true then
  ps_let (ps_rI σ183 335 (upd (σ183.1 335) ((1 + v185)).toNatClampNeg ((v188 + v3)))) fun σ189 =>
  if ps_in ((71 + p1)) 83 = true then
  ps_let (σ189.1 335 ((71 + p1)).toNatClampNeg) fun v190 =>
  if ps_in ((71 + p1)) 83 = true then
  ps_let (ps_rI σ189 335 (upd (σ189.1 335) ((71 + p1)).toNatClampNeg ((v190 + v3)))) fun σ191 =>
  ps_bd (qX9_allNow σ191) (fun v192 σ193 =>
  ps_bd (qX9_freeNow σ193) (fun v194 σ195 =>
  if v194 < v192 then
  if ps_in ((65 + p1)) 83 = true then
  ps_let (σ195.1 335 ((65 + p1)).toNatClampNeg) fun v197 =>
  ps_bd (qX9_pauseOf p1 v3 σ195) (fun v198 σ199 =>
  if ps_in ((65 + p1)) 83 = true then
  ps_let (ps_rI σ199 335 (upd (σ199.1 335) ((65 + p1)).toNatClampNeg ((((((3 * v197)) + v198)) / 4)))) fun σ200 =>
  if ps_in ((65 + p1)) 83 = true then
  ps_let (σ200.1 335 ((65 + p1)).toNatClampNeg) fun v201 =>
  if ps_in ((59 + p1)) 83 = true then
  ps_let (ps_rI σ200 335 (upd (σ200.1 335) ((59 + p1)).toNatClampNeg v201)) fun σ202 =>
  some ((), σ202)
  else none
  else none
  else none)
  else none
  else
  some ((), σ195)))
  else none
  else none
  else none
  else none
  else none
  else none
  else none
  else none
  else
  if v3 ≤ 0 then
  some ((), σ7)
  else
  if ps_in ((77 + p1)) 83 = true then
  ps_let (σ7.1 335 ((77 + p1)).toNatClampNeg) fun v243 =>
  if ps_in ((77 + p1)) 83 = true then
  ps_let (ps_rI σ7 335 (upd (σ7.1 335) ((77 + p1)).toNatClampNeg ((v243 + 1)))) fun σ244 =>
  some ((), σ244)
  else none
  else none))
  else
  if ps_in ((59 + p1)) 83 = true then
  ps_let (σ.1 335 ((59 + p1)).toNatClampNeg) fun v248 =>
  if ps_in ((59 + p1)) 83 = true then
  ps_let (ps_rI σ 335 (upd (σ.1 335) ((59 + p1)).toNatClampNeg ((v248 - 1)))) fun σ249 =>
  some ((), σ249)
  else none
  else none
  else none
set_option maxRecDepth 100000 in
theorem C_X9_writes {g : pm_G} (p1 : Int32) (σ : ps_S) (P : Unit → ps_S → Prop) (hK : ps_ok (qX9_writes p1 σ) P) : ps_C g mX9_writes 4 [.ref (g.2.2.1 + 327), .int p1] σ (ps_qV P) := by
  unfold qX9_writes at hK
  refine ps_C.of (ls := [some (.ref (g.2.2.1 + 327)), some (.int p1), none, none, none, none]) 4 (by decide) rfl (Nat.le_of_ble_eq_true rfl) rfl ?_
  refine pm_ald d_X9_writes_0 rfl ?_
  refine ps_getR (q := 335) d_X9_writes_1 at_327 f_8_0_19 rfl ?_
  refine pm_ki d_X9_writes_4 ?_
  refine pm_ild d_X9_writes_6 rfl ?_
  refine pm_iadd d_X9_writes_7 ?_
  obtain ⟨b252, hT⟩ := ps_gd hK
  replace hK := hT
  clear hT
  refine ps_iald d_X9_writes_8 at_335 a_8_8 (ps_in_of b252) rfl ?_
  refine ps_topI (fun v1 ev1 => ?_)
  replace hK := ps_ltE ev1 hK
  refine pm_if_le d_X9_writes_9 (fun c2 => ?_) (fun c2 => ?_)
  · replace hK := ps_ifT c2 hK
    refine pm_ald d_X9_writes_26 rfl ?_
    refine pm_ild d_X9_writes_27 rfl ?_
    refine ps_cVI d_X9_writes_28 mv_X9_wantsNow at_327 ob_8_0 rfl (As := [.int p1]) rfl rfl (ps_room.of (by omega) (by decide)) (Nat.le_of_ble_eq_true rfl) (C_X9_wantsNow p1 σ _ (ps_bdE hK)) ?_
    intro v3 σ4 hT
    clear hK
    have hK := hT
    clear hT
    refine pm_ist2 d_X9_writes_31 rfl (by decide) ?_
    refine pm_ald d_X9_writes_32 rfl ?_
    refine ps_getI d_X9_writes_33 at_327 f_8_0_21 rfl ?_
    refine ps_topI (fun v5 ev5 => ?_)
    replace hK := ps_ltE ev5 hK
    refine pm_ald d_X9_writes_36 rfl ?_
    refine ps_cVI d_X9_writes_37 mv_X9_allNow at_327 ob_8_0 rfl (As := []) rfl rfl (ps_room.of (by omega) (by decide)) (Nat.le_of_ble_eq_true rfl) (C_X9_allNow σ4 _ (ps_bdE hK)) ?_
    intro v6 σ7 hT
    clear hK
    have hK := hT
    clear hT
    refine pm_isub d_X9_writes_40 ?_
    refine ps_topI (fun v8 ev8 => ?_)
    replace hK := ps_ltE ev8 hK
    refine pm_ist3 d_X9_writes_41 rfl (by decide) ?_
    refine pm_ild d_X9_writes_42 rfl ?_
    refine pm_if_ge d_X9_writes_43 (fun c9 => ?_) (fun c9 => ?_)
    · replace hK := ps_ifT c9 hK
      refine pm_ild d_X9_writes_50 rfl ?_
      refine pm_ild d_X9_writes_51 rfl ?_
      refine pm_icmp_ge d_X9_writes_52 (fun c10 => ?_) (fun c10 => ?_)
      · replace hK := ps_ifT c10 hK
        refine pm_ild d_X9_writes_59 rfl ?_
        refine pm_ist4 d_X9_writes_60 rfl (by decide) ?_
        refine pm_ild d_X9_writes_62 rfl ?_
        refine pm_ild d_X9_writes_63 rfl ?_
        refine pm_icmp_le d_X9_writes_65 (fun c11 => ?_) (fun c11 => ?_)
        · replace hK := ps_ifT c11 hK
          refine pm_ild d_X9_writes_81 rfl ?_
          refine pm_if_ne d_X9_writes_83 (fun c12 => ?_) (fun c12 => ?_)
          · replace hK := ps_ifF c12 hK
            refine pm_ald d_X9_writes_87 rfl ?_
            refine ps_getR (q := 328) d_X9_writes_88 at_327 f_8_0_1 rfl ?_
            refine pm_ki d_X9_writes_91 ?_
            refine pm_ild d_X9_writes_93 rfl ?_
            refine pm_iadd d_X9_writes_94 ?_
            obtain ⟨b66, hT⟩ := ps_gd hK
            replace hK := hT
            clear hT
            refine ps_iald d_X9_writes_95 at_328 a_8_1 (ps_in_of b66) rfl ?_
            refine ps_topI (fun v13 ev13 => ?_)
            replace hK := ps_ltE ev13 hK
            refine pm_ist5 d_X9_writes_96 rfl (by decide) ?_
            refine pm_ald d_X9_writes_98 rfl ?_
            refine ps_getR (q := 335) d_X9_writes_99 at_327 f_8_0_19 rfl ?_
            refine pm_ki d_X9_writes_102 ?_
            refine pm_ild d_X9_writes_103 rfl ?_
            refine pm_iadd d_X9_writes_105 ?_
            obtain ⟨b65, hT⟩ := ps_gd hK
            replace hK := hT
            clear hT
            refine ps_iald d_X9_writes_106 at_335 a_8_8 (ps_in_of b65) rfl ?_
            refine ps_topI (fun v14 ev14 => ?_)
            replace hK := ps_ltE ev14 hK
            refine pm_if_ne d_X9_writes_107 (fun c15 => ?_) (fun c15 => ?_)
            · replace hK := ps_ifF c15 hK
              refine pm_ald d_X9_writes_126 rfl ?_
              refine ps_getR (q := 335) d_X9_writes_127 at_327 f_8_0_19 rfl ?_
              refine pm_ki d_X9_writes_130 ?_
              refine pm_ild d_X9_writes_131 rfl ?_
              refine pm_iadd d_X9_writes_133 ?_
              refine pm_dup2 d_X9_writes_134 rfl rfl ?_
              obtain ⟨b38, hT⟩ := ps_gd hK
              replace hK := hT
              clear hT
              refine ps_iald d_X9_writes_135 at_335 a_8_8 (ps_in_of b38) rfl ?_
              refine ps_topI (fun v16 ev16 => ?_)
              replace hK := ps_ltE ev16 hK
              refine pm_ild d_X9_writes_136 rfl ?_
              refine pm_iadd d_X9_writes_138 ?_
              obtain ⟨b37, hT⟩ := ps_gd hK
              replace hK := hT
              clear hT
              refine ps_iast d_X9_writes_139 at_335 a_8_8 (ps_in_of b37) ?_
              refine ps_nmS (fun σ17 eσ17 => ?_)
              replace hK := ps_ltE eσ17 hK
              refine pm_ald d_X9_writes_140 rfl ?_
              refine ps_getR (q := 335) d_X9_writes_141 at_327 f_8_0_19 rfl ?_
              refine pm_ki d_X9_writes_144 ?_
              refine pm_ild d_X9_writes_146 rfl ?_
              refine pm_iadd d_X9_writes_147 ?_
              refine pm_dup2 d_X9_writes_148 rfl rfl ?_
              obtain ⟨b36, hT⟩ := ps_gd hK
              replace hK := hT
              clear hT
              refine ps_iald d_X9_writes_149 at_335 a_8_8 (ps_in_of b36) rfl ?_
              refine ps_topI (fun v18 ev18 => ?_)
              replace hK := ps_ltE ev18 hK
              refine pm_ild d_X9_writes_150 rfl ?_
              refine pm_iadd d_X9_writes_152 ?_
              obtain ⟨b35, hT⟩ := ps_gd hK
              replace hK := hT
              clear hT
              refine ps_iast d_X9_writes_153 at_335 a_8_8 (ps_in_of b35) ?_
              refine ps_nmS (fun σ19 eσ19 => ?_)
              replace hK := ps_ltE eσ19 hK
              refine pm_ald d_X9_writes_154 rfl ?_
              refine ps_cVI d_X9_writes_155 mv_X9_allNow at_327 ob_8_0 rfl (As := []) rfl rfl (ps_room.of (by omega) (by decide)) (Nat.le_of_ble_eq_true rfl) (C_X9_allNow σ19 _ (ps_bdE hK)) ?_
              intro v20 σ21 hT
              clear hK
              have hK := hT
              clear hT
              refine pm_ald d_X9_writes_158 rfl ?_
              refine ps_cVI d_X9_writes_159 mv_X9_freeNow at_327 ob_8_0 rfl (As := []) rfl rfl (ps_room.of (by omega) (by decide)) (Nat.le_of_ble_eq_true rfl) (C_X9_freeNow σ21 _ (ps_bdE hK)) ?_
              intro v22 σ23 hT
              clear hK
              have hK := hT
              clear hT
              refine pm_icmp_gt d_X9_writes_162 (fun c24 => ?_) (fun c24 => ?_)
              · replace hK := ps_ifT c24 hK
                refine pm_ald d_X9_writes_166 rfl ?_
                refine ps_getR (q := 335) d_X9_writes_167 at_327 f_8_0_19 rfl ?_
                refine pm_ki d_X9_writes_170 ?_
                refine pm_ild d_X9_writes_172 rfl ?_
                refine pm_iadd d_X9_writes_173 ?_
                refine pm_ki d_X9_writes_174 ?_
                refine pm_ald d_X9_writes_175 rfl ?_
                refine ps_getR (q := 335) d_X9_writes_176 at_327 f_8_0_19 rfl ?_
                refine pm_ki d_X9_writes_179 ?_
                refine pm_ild d_X9_writes_181 rfl ?_
                refine pm_iadd d_X9_writes_182 ?_
                obtain ⟨b34, hT⟩ := ps_gd hK
                replace hK := hT
                clear hT
                refine ps_iald d_X9_writes_183 at_335 a_8_8 (ps_in_of b34) rfl ?_
                refine ps_topI (fun v25 ev25 => ?_)
                replace hK := ps_ltE ev25 hK
                refine pm_imul d_X9_writes_184 ?_
                refine pm_ald d_X9_writes_185 rfl ?_
                refine pm_ild d_X9_writes_186 rfl ?_
                refine pm_ild d_X9_writes_187 rfl ?_
                refine ps_cVI d_X9_writes_189 mv_X9_pauseOf at_327 ob_8_0 rfl (As := [.int p1, .int v8]) rfl rfl (ps_room.of (by omega) (by decide)) (Nat.le_of_ble_eq_true rfl) (C_X9_pauseOf p1 v8 σ23 _ (ps_bdE hK)) ?_
                intro v26 σ27 hT
                clear hK
                have hK := hT
                clear hT
                refine pm_iadd d_X9_writes_192 ?_
                refine pm_ki d_X9_writes_193 ?_
                refine pm_idiv d_X9_writes_194 (by decide) ?_
                obtain ⟨b33, hT⟩ := ps_gd hK
                replace hK := hT
                clear hT
                refine ps_iast d_X9_writes_195 at_335 a_8_8 (ps_in_of b33) ?_
                refine ps_nmS (fun σ28 eσ28 => ?_)
                replace hK := ps_ltE eσ28 hK
                refine pm_ald d_X9_writes_196 rfl ?_
                refine ps_getR (q := 335) d_X9_writes_197 at_327 f_8_0_19 rfl ?_
                refine pm_ki d_X9_writes_200 ?_
                refine pm_ild d_X9_writes_202 rfl ?_
                refine pm_iadd d_X9_writes_203 ?_
                refine pm_ald d_X9_writes_204 rfl ?_
                refine ps_getR (q := 335) d_X9_writes_205 at_327 f_8_0_19 rfl ?_
                refine pm_ki d_X9_writes_208 ?_
                refine pm_ild d_X9_writes_210 rfl ?_
                refine pm_iadd d_X9_writes_211 ?_
                obtain ⟨b32, hT⟩ := ps_gd hK
                replace hK := hT
                clear hT
                refine ps_iald d_X9_writes_212 at_335 a_8_8 (ps_in_of b32) rfl ?_
                refine ps_topI (fun v29 ev29 => ?_)
                replace hK := ps_ltE ev29 hK
                obtain ⟨b31, hT⟩ := ps_gd hK
                replace hK := hT
                clear hT
                refine ps_iast d_X9_writes_213 at_335 a_8_8 (ps_in_of b31) ?_
                refine ps_nmS (fun σ30 eσ30 => ?_)
                replace hK := ps_ltE eσ30 hK
                have hQ := ps_so hK
                exact ps_vret rfl d_X9_writes_214 ⟨rfl, hQ⟩
              · replace hK := ps_ifF c24 hK
                have hQ := ps_so hK
                exact ps_vret rfl d_X9_writes_165 ⟨rfl, hQ⟩
            · replace hK := ps_ifT c15 hK
              refine pm_ald d_X9_writes_110 rfl ?_
              refine ps_getR (q := 335) d_X9_writes_111 at_327 f_8_0_19 rfl ?_
              refine pm_ki d_X9_writes_114 ?_
              refine pm_ild d_X9_writes_116 rfl ?_
              refine pm_iadd d_X9_writes_118 ?_
              refine pm_ald d_X9_writes_119 rfl ?_
              refine ps_getR (q := 335) d_X9_writes_120 at_327 f_8_0_19 rfl ?_
              refine pm_ki d_X9_writes_123 ?_
              refine ps_iald (x := σ7.1 335 0) d_X9_writes_124 at_335 a_8_8 (ps_in_of rfl) rfl ?_
              refine ps_topI (fun v39 ev39 => ?_)
              replace hK := ps_ltE ev39 hK
              obtain ⟨b64, hT⟩ := ps_gd hK
              replace hK := hT
              clear hT
              refine ps_iast d_X9_writes_125 at_335 a_8_8 (ps_in_of b64) ?_
              refine ps_nmS (fun σ40 eσ40 => ?_)
              replace hK := ps_ltE eσ40 hK
              refine pm_ald d_X9_writes_126 rfl ?_
              refine ps_getR (q := 335) d_X9_writes_127 at_327 f_8_0_19 rfl ?_
              refine pm_ki d_X9_writes_130 ?_
              refine pm_ild d_X9_writes_131 rfl ?_
              refine pm_iadd d_X9_writes_133 ?_
              refine pm_dup2 d_X9_writes_134 rfl rfl ?_
              obtain ⟨b63, hT⟩ := ps_gd hK
              replace hK := hT
              clear hT
              refine ps_iald d_X9_writes_135 at_335 a_8_8 (ps_in_of b63) rfl ?_
              refine ps_topI (fun v41 ev41 => ?_)
              replace hK := ps_ltE ev41 hK
              refine pm_ild d_X9_writes_136 rfl ?_
              refine pm_iadd d_X9_writes_138 ?_
              obtain ⟨b62, hT⟩ := ps_gd hK
              replace hK := hT
              clear hT
              refine ps_iast d_X9_writes_139 at_335 a_8_8 (ps_in_of b62) ?_
              refine ps_nmS (fun σ42 eσ42 => ?_)
              replace hK := ps_ltE eσ42 hK
              refine pm_ald d_X9_writes_140 rfl ?_
              refine ps_getR (q := 335) d_X9_writes_141 at_327 f_8_0_19 rfl ?_
              refine pm_ki d_X9_writes_144 ?_
              refine pm_ild d_X9_writes_146 rfl ?_
              refine pm_iadd d_X9_writes_147 ?_
              refine pm_dup2 d_X9_writes_148 rfl rfl ?_
              obtain ⟨b61, hT⟩ := ps_gd hK
              replace hK := hT
              clear hT
              refine ps_iald d_X9_writes_149 at_335 a_8_8 (ps_in_of b61) rfl ?_
              refine ps_topI (fun v43 ev43 => ?_)
              replace hK := ps_ltE ev43 hK
              refine pm_ild d_X9_writes_150 rfl ?_
              refine pm_iadd d_X9_writes_152 ?_
              obtain ⟨b60, hT⟩ := ps_gd hK
              replace hK := hT
              clear hT
              refine ps_iast d_X9_writes_153 at_335 a_8_8 (ps_in_of b60) ?_
              refine ps_nmS (fun σ44 eσ44 => ?_)
              replace hK := ps_ltE eσ44 hK
              refine pm_ald d_X9_writes_154 rfl ?_
              refine ps_cVI d_X9_writes_155 mv_X9_allNow at_327 ob_8_0 rfl (As := []) rfl rfl (ps_room.of (by omega) (by decide)) (Nat.le_of_ble_eq_true rfl) (C_X9_allNow σ44 _ (ps_bdE hK)) ?_
              intro v45 σ46 hT
              clear hK
              have hK := hT
              clear hT
              refine pm_ald d_X9_writes_158 rfl ?_
              refine ps_cVI d_X9_writes_159 mv_X9_freeNow at_327 ob_8_0 rfl (As := []) rfl rfl (ps_room.of (by omega) (by decide)) (Nat.le_of_ble_eq_true rfl) (C_X9_freeNow σ46 _ (ps_bdE hK)) ?_
              intro v47 σ48 hT
              clear hK
              have hK := hT
              clear hT
              refine pm_icmp_gt d_X9_writes_162 (fun c49 => ?_) (fun c49 => ?_)
              · replace hK := ps_ifT c49 hK
                refine pm_ald d_X9_writes_166 rfl ?_
                refine ps_getR (q := 335) d_X9_writes_167 at_327 f_8_0_19 rfl ?_
                refine pm_ki d_X9_writes_170 ?_
                refine pm_ild d_X9_writes_172 rfl ?_
                refine pm_iadd d_X9_writes_173 ?_
                refine pm_ki d_X9_writes_174 ?_
                refine pm_ald d_X9_writes_175 rfl ?_
                refine ps_getR (q := 335) d_X9_writes_176 at_327 f_8_0_19 rfl ?_
                refine pm_ki d_X9_writes_179 ?_
                refine pm_ild d_X9_writes_181 rfl ?_
                refine pm_iadd d_X9_writes_182 ?_
                obtain ⟨b59, hT⟩ := ps_gd hK
                replace hK := hT
                clear hT
                refine ps_iald d_X9_writes_183 at_335 a_8_8 (ps_in_of b59) rfl ?_
                refine ps_topI (fun v50 ev50 => ?_)
                replace hK := ps_ltE ev50 hK
                refine pm_imul d_X9_writes_184 ?_
                refine pm_ald d_X9_writes_185 rfl ?_
                refine pm_ild d_X9_writes_186 rfl ?_
                refine pm_ild d_X9_writes_187 rfl ?_
                refine ps_cVI d_X9_writes_189 mv_X9_pauseOf at_327 ob_8_0 rfl (As := [.int p1, .int v8]) rfl rfl (ps_room.of (by omega) (by decide)) (Nat.le_of_ble_eq_true rfl) (C_X9_pauseOf p1 v8 σ48 _ (ps_bdE hK)) ?_
                intro v51 σ52 hT
                clear hK
                have hK := hT
                clear hT
                refine pm_iadd d_X9_writes_192 ?_
                refine pm_ki d_X9_writes_193 ?_
                refine pm_idiv d_X9_writes_194 (by decide) ?_
                obtain ⟨b58, hT⟩ := ps_gd hK
                replace hK := hT
                clear hT
                refine ps_iast d_X9_writes_195 at_335 a_8_8 (ps_in_of b58) ?_
                refine ps_nmS (fun σ53 eσ53 => ?_)
                replace hK := ps_ltE eσ53 hK
                refine pm_ald d_X9_writes_196 rfl ?_
                refine ps_getR (q := 335) d_X9_writes_197 at_327 f_8_0_19 rfl ?_
                refine pm_ki d_X9_writes_200 ?_
                refine pm_ild d_X9_writes_202 rfl ?_
                refine pm_iadd d_X9_writes_203 ?_
                refine pm_ald d_X9_writes_204 rfl ?_
                refine ps_getR (q := 335) d_X9_writes_205 at_327 f_8_0_19 rfl ?_
                refine pm_ki d_X9_writes_208 ?_
                refine pm_ild d_X9_writes_210 rfl ?_
                refine pm_iadd d_X9_writes_211 ?_
                obtain ⟨b57, hT⟩ := ps_gd hK
                replace hK := hT
                clear hT
                refine ps_iald d_X9_writes_212 at_335 a_8_8 (ps_in_of b57) rfl ?_
                refine ps_topI (fun v54 ev54 => ?_)
                replace hK := ps_ltE ev54 hK
                obtain ⟨b56, hT⟩ := ps_gd hK
                replace hK := hT
                clear hT
                refine ps_iast d_X9_writes_213 at_335 a_8_8 (ps_in_of b56) ?_
                refine ps_nmS (fun σ55 eσ55 => ?_)
                replace hK := ps_ltE eσ55 hK
                have hQ := ps_so hK
                exact ps_vret rfl d_X9_writes_214 ⟨rfl, hQ⟩
              · replace hK := ps_ifF c49 hK
                have hQ := ps_so hK
                exact ps_vret rfl d_X9_writes_165 ⟨rfl, hQ⟩
          · replace hK := ps_ifT c12 hK
            have hQ := ps_so hK
            exact ps_vret rfl d_X9_writes_86 ⟨rfl, hQ⟩
        · replace hK := ps_ifF c11 hK
          refine pm_ald d_X9_writes_68 rfl ?_
          refine ps_getR (q := 335) d_X9_writes_69 at_327 f_8_0_19 rfl ?_
          refine pm_ki d_X9_writes_72 ?_
          refine pm_ild d_X9_writes_74 rfl ?_
          refine pm_iadd d_X9_writes_75 ?_
          refine pm_dup2 d_X9_writes_76 rfl rfl ?_
          obtain ⟨b125, hT⟩ := ps_gd hK
          replace hK := hT
          clear hT
          refine ps_iald d_X9_writes_77 at_335 a_8_8 (ps_in_of b125) rfl ?_
          refine ps_topI (fun v67 ev67 => ?_)
          replace hK := ps_ltE ev67 hK
          refine pm_ki d_X9_writes_78 ?_
          refine pm_iadd d_X9_writes_79 ?_
          obtain ⟨b124, hT⟩ := ps_gd hK
          replace hK := hT
          clear hT
          refine ps_iast d_X9_writes_80 at_335 a_8_8 (ps_in_of b124) ?_
          refine ps_nmS (fun σ68 eσ68 => ?_)
          replace hK := ps_ltE eσ68 hK
          refine pm_ild d_X9_writes_81 rfl ?_
          refine pm_if_ne d_X9_writes_83 (fun c69 => ?_) (fun c69 => ?_)
          · replace hK := ps_ifF c69 hK
            refine pm_ald d_X9_writes_87 rfl ?_
            refine ps_getR (q := 328) d_X9_writes_88 at_327 f_8_0_1 rfl ?_
            refine pm_ki d_X9_writes_91 ?_
            refine pm_ild d_X9_writes_93 rfl ?_
            refine pm_iadd d_X9_writes_94 ?_
            obtain ⟨b123, hT⟩ := ps_gd hK
            replace hK := hT
            clear hT
            refine ps_iald d_X9_writes_95 at_328 a_8_1 (ps_in_of b123) rfl ?_
            refine ps_topI (fun v70 ev70 => ?_)
            replace hK := ps_ltE ev70 hK
            refine pm_ist5 d_X9_writes_96 rfl (by decide) ?_
            refine pm_ald d_X9_writes_98 rfl ?_
            refine ps_getR (q := 335) d_X9_writes_99 at_327 f_8_0_19 rfl ?_
            refine pm_ki d_X9_writes_102 ?_
            refine pm_ild d_X9_writes_103 rfl ?_
            refine pm_iadd d_X9_writes_105 ?_
            obtain ⟨b122, hT⟩ := ps_gd hK
            replace hK := hT
            clear hT
            refine ps_iald d_X9_writes_106 at_335 a_8_8 (ps_in_of b122) rfl ?_
            refine ps_topI (fun v71 ev71 => ?_)
            replace hK := ps_ltE ev71 hK
            refine pm_if_ne d_X9_writes_107 (fun c72 => ?_) (fun c72 => ?_)
            · replace hK := ps_ifF c72 hK
              refine pm_ald d_X9_writes_126 rfl ?_
              refine ps_getR (q := 335) d_X9_writes_127 at_327 f_8_0_19 rfl ?_
              refine pm_ki d_X9_writes_130 ?_
              refine pm_ild d_X9_writes_131 rfl ?_
              refine pm_iadd d_X9_writes_133 ?_
              refine pm_dup2 d_X9_writes_134 rfl rfl ?_
              obtain ⟨b95, hT⟩ := ps_gd hK
              replace hK := hT
              clear hT
              refine ps_iald d_X9_writes_135 at_335 a_8_8 (ps_in_of b95) rfl ?_
              refine ps_topI (fun v73 ev73 => ?_)
              replace hK := ps_ltE ev73 hK
              refine pm_ild d_X9_writes_136 rfl ?_
              refine pm_iadd d_X9_writes_138 ?_
              obtain ⟨b94, hT⟩ := ps_gd hK
              replace hK := hT
              clear hT
              refine ps_iast d_X9_writes_139 at_335 a_8_8 (ps_in_of b94) ?_
              refine ps_nmS (fun σ74 eσ74 => ?_)
              replace hK := ps_ltE eσ74 hK
              refine pm_ald d_X9_writes_140 rfl ?_
              refine ps_getR (q := 335) d_X9_writes_141 at_327 f_8_0_19 rfl ?_
              refine pm_ki d_X9_writes_144 ?_
              refine pm_ild d_X9_writes_146 rfl ?_
              refine pm_iadd d_X9_writes_147 ?_
              refine pm_dup2 d_X9_writes_148 rfl rfl ?_
              obtain ⟨b93, hT⟩ := ps_gd hK
              replace hK := hT
              clear hT
              refine ps_iald d_X9_writes_149 at_335 a_8_8 (ps_in_of b93) rfl ?_
              refine ps_topI (fun v75 ev75 => ?_)
              replace hK := ps_ltE ev75 hK
              refine pm_ild d_X9_writes_150 rfl ?_
              refine pm_iadd d_X9_writes_152 ?_
              obtain ⟨b92, hT⟩ := ps_gd hK
              replace hK := hT
              clear hT
              refine ps_iast d_X9_writes_153 at_335 a_8_8 (ps_in_of b92) ?_
              refine ps_nmS (fun σ76 eσ76 => ?_)
              replace hK := ps_ltE eσ76 hK
              refine pm_ald d_X9_writes_154 rfl ?_
              refine ps_cVI d_X9_writes_155 mv_X9_allNow at_327 ob_8_0 rfl (As := []) rfl rfl (ps_room.of (by omega) (by decide)) (Nat.le_of_ble_eq_true rfl) (C_X9_allNow σ76 _ (ps_bdE hK)) ?_
              intro v77 σ78 hT
              clear hK
              have hK := hT
              clear hT
              refine pm_ald d_X9_writes_158 rfl ?_
              refine ps_cVI d_X9_writes_159 mv_X9_freeNow at_327 ob_8_0 rfl (As := []) rfl rfl (ps_room.of (by omega) (by decide)) (Nat.le_of_ble_eq_true rfl) (C_X9_freeNow σ78 _ (ps_bdE hK)) ?_
              intro v79 σ80 hT
              clear hK
              have hK := hT
              clear hT
              refine pm_icmp_gt d_X9_writes_162 (fun c81 => ?_) (fun c81 => ?_)
              · replace hK := ps_ifT c81 hK
                refine pm_ald d_X9_writes_166 rfl ?_
                refine ps_getR (q := 335) d_X9_writes_167 at_327 f_8_0_19 rfl ?_
                refine pm_ki d_X9_writes_170 ?_
                refine pm_ild d_X9_writes_172 rfl ?_
                refine pm_iadd d_X9_writes_173 ?_
                refine pm_ki d_X9_writes_174 ?_
                refine pm_ald d_X9_writes_175 rfl ?_
                refine ps_getR (q := 335) d_X9_writes_176 at_327 f_8_0_19 rfl ?_
                refine pm_ki d_X9_writes_179 ?_
                refine pm_ild d_X9_writes_181 rfl ?_
                refine pm_iadd d_X9_writes_182 ?_
                obtain ⟨b91, hT⟩ := ps_gd hK
                replace hK := hT
                clear hT
                refine ps_iald d_X9_writes_183 at_335 a_8_8 (ps_in_of b91) rfl ?_
                refine ps_topI (fun v82 ev82 => ?_)
                replace hK := ps_ltE ev82 hK
                refine pm_imul d_X9_writes_184 ?_
                refine pm_ald d_X9_writes_185 rfl ?_
                refine pm_ild d_X9_writes_186 rfl ?_
                refine pm_ild d_X9_writes_187 rfl ?_
                refine ps_cVI d_X9_writes_189 mv_X9_pauseOf at_327 ob_8_0 rfl (As := [.int p1, .int v8]) rfl rfl (ps_room.of (by omega) (by decide)) (Nat.le_of_ble_eq_true rfl) (C_X9_pauseOf p1 v8 σ80 _ (ps_bdE hK)) ?_
                intro v83 σ84 hT
                clear hK
                have hK := hT
                clear hT
                refine pm_iadd d_X9_writes_192 ?_
                refine pm_ki d_X9_writes_193 ?_
                refine pm_idiv d_X9_writes_194 (by decide) ?_
                obtain ⟨b90, hT⟩ := ps_gd hK
                replace hK := hT
                clear hT
                refine ps_iast d_X9_writes_195 at_335 a_8_8 (ps_in_of b90) ?_
                refine ps_nmS (fun σ85 eσ85 => ?_)
                replace hK := ps_ltE eσ85 hK
                refine pm_ald d_X9_writes_196 rfl ?_
                refine ps_getR (q := 335) d_X9_writes_197 at_327 f_8_0_19 rfl ?_
                refine pm_ki d_X9_writes_200 ?_
                refine pm_ild d_X9_writes_202 rfl ?_
                refine pm_iadd d_X9_writes_203 ?_
                refine pm_ald d_X9_writes_204 rfl ?_
                refine ps_getR (q := 335) d_X9_writes_205 at_327 f_8_0_19 rfl ?_
                refine pm_ki d_X9_writes_208 ?_
                refine pm_ild d_X9_writes_210 rfl ?_
                refine pm_iadd d_X9_writes_211 ?_
                obtain ⟨b89, hT⟩ := ps_gd hK
                replace hK := hT
                clear hT
                refine ps_iald d_X9_writes_212 at_335 a_8_8 (ps_in_of b89) rfl ?_
                refine ps_topI (fun v86 ev86 => ?_)
                replace hK := ps_ltE ev86 hK
                obtain ⟨b88, hT⟩ := ps_gd hK
                replace hK := hT
                clear hT
                refine ps_iast d_X9_writes_213 at_335 a_8_8 (ps_in_of b88) ?_
                refine ps_nmS (fun σ87 eσ87 => ?_)
                replace hK := ps_ltE eσ87 hK
                have hQ := ps_so hK
                exact ps_vret rfl d_X9_writes_214 ⟨rfl, hQ⟩
              · replace hK := ps_ifF c81 hK
                have hQ := ps_so hK
                exact ps_vret rfl d_X9_writes_165 ⟨rfl, hQ⟩
            · replace hK := ps_ifT c72 hK
              refine pm_ald d_X9_writes_110 rfl ?_
              refine ps_getR (q := 335) d_X9_writes_111 at_327 f_8_0_19 rfl ?_
              refine pm_ki d_X9_writes_114 ?_
              refine pm_ild d_X9_writes_116 rfl ?_
              refine pm_iadd d_X9_writes_118 ?_
              refine pm_ald d_X9_writes_119 rfl ?_
              refine ps_getR (q := 335) d_X9_writes_120 at_327 f_8_0_19 rfl ?_
              refine pm_ki d_X9_writes_123 ?_
              refine ps_iald (x := σ68.1 335 0) d_X9_writes_124 at_335 a_8_8 (ps_in_of rfl) rfl ?_
              refine ps_topI (fun v96 ev96 => ?_)
              replace hK := ps_ltE ev96 hK
              obtain ⟨b121, hT⟩ := ps_gd hK
              replace hK := hT
              clear hT
              refine ps_iast d_X9_writes_125 at_335 a_8_8 (ps_in_of b121) ?_
              refine ps_nmS (fun σ97 eσ97 => ?_)
              replace hK := ps_ltE eσ97 hK
              refine pm_ald d_X9_writes_126 rfl ?_
              refine ps_getR (q := 335) d_X9_writes_127 at_327 f_8_0_19 rfl ?_
              refine pm_ki d_X9_writes_130 ?_
              refine pm_ild d_X9_writes_131 rfl ?_
              refine pm_iadd d_X9_writes_133 ?_
              refine pm_dup2 d_X9_writes_134 rfl rfl ?_
              obtain ⟨b120, hT⟩ := ps_gd hK
              replace hK := hT
              clear hT
              refine ps_iald d_X9_writes_135 at_335 a_8_8 (ps_in_of b120) rfl ?_
              refine ps_topI (fun v98 ev98 => ?_)
              replace hK := ps_ltE ev98 hK
              refine pm_ild d_X9_writes_136 rfl ?_
              refine pm_iadd d_X9_writes_138 ?_
              obtain ⟨b119, hT⟩ := ps_gd hK
              replace hK := hT
              clear hT
              refine ps_iast d_X9_writes_139 at_335 a_8_8 (ps_in_of b119) ?_
              refine ps_nmS (fun σ99 eσ99 => ?_)
              replace hK := ps_ltE eσ99 hK
              refine pm_ald d_X9_writes_140 rfl ?_
              refine ps_getR (q := 335) d_X9_writes_141 at_327 f_8_0_19 rfl ?_
              refine pm_ki d_X9_writes_144 ?_
              refine pm_ild d_X9_writes_146 rfl ?_
              refine pm_iadd d_X9_writes_147 ?_
              refine pm_dup2 d_X9_writes_148 rfl rfl ?_
              obtain ⟨b118, hT⟩ := ps_gd hK
              replace hK := hT
              clear hT
              refine ps_iald d_X9_writes_149 at_335 a_8_8 (ps_in_of b118) rfl ?_
              refine ps_topI (fun v100 ev100 => ?_)
              replace hK := ps_ltE ev100 hK
              refine pm_ild d_X9_writes_150 rfl ?_
              refine pm_iadd d_X9_writes_152 ?_
              obtain ⟨b117, hT⟩ := ps_gd hK
              replace hK := hT
              clear hT
              refine ps_iast d_X9_writes_153 at_335 a_8_8 (ps_in_of b117) ?_
              refine ps_nmS (fun σ101 eσ101 => ?_)
              replace hK := ps_ltE eσ101 hK
              refine pm_ald d_X9_writes_154 rfl ?_
              refine ps_cVI d_X9_writes_155 mv_X9_allNow at_327 ob_8_0 rfl (As := []) rfl rfl (ps_room.of (by omega) (by decide)) (Nat.le_of_ble_eq_true rfl) (C_X9_allNow σ101 _ (ps_bdE hK)) ?_
              intro v102 σ103 hT
              clear hK
              have hK := hT
              clear hT
              refine pm_ald d_X9_writes_158 rfl ?_
              refine ps_cVI d_X9_writes_159 mv_X9_freeNow at_327 ob_8_0 rfl (As := []) rfl rfl (ps_room.of (by omega) (by decide)) (Nat.le_of_ble_eq_true rfl) (C_X9_freeNow σ103 _ (ps_bdE hK)) ?_
              intro v104 σ105 hT
              clear hK
              have hK := hT
              clear hT
              refine pm_icmp_gt d_X9_writes_162 (fun c106 => ?_) (fun c106 => ?_)
              · replace hK := ps_ifT c106 hK
                refine pm_ald d_X9_writes_166 rfl ?_
                refine ps_getR (q := 335) d_X9_writes_167 at_327 f_8_0_19 rfl ?_
                refine pm_ki d_X9_writes_170 ?_
                refine pm_ild d_X9_writes_172 rfl ?_
                refine pm_iadd d_X9_writes_173 ?_
                refine pm_ki d_X9_writes_174 ?_
                refine pm_ald d_X9_writes_175 rfl ?_
                refine ps_getR (q := 335) d_X9_writes_176 at_327 f_8_0_19 rfl ?_
                refine pm_ki d_X9_writes_179 ?_
                refine pm_ild d_X9_writes_181 rfl ?_
                refine pm_iadd d_X9_writes_182 ?_
                obtain ⟨b116, hT⟩ := ps_gd hK
                replace hK := hT
                clear hT
                refine ps_iald d_X9_writes_183 at_335 a_8_8 (ps_in_of b116) rfl ?_
                refine ps_topI (fun v107 ev107 => ?_)
                replace hK := ps_ltE ev107 hK
                refine pm_imul d_X9_writes_184 ?_
                refine pm_ald d_X9_writes_185 rfl ?_
                refine pm_ild d_X9_writes_186 rfl ?_
                refine pm_ild d_X9_writes_187 rfl ?_
                refine ps_cVI d_X9_writes_189 mv_X9_pauseOf at_327 ob_8_0 rfl (As := [.int p1, .int v8]) rfl rfl (ps_room.of (by omega) (by decide)) (Nat.le_of_ble_eq_true rfl) (C_X9_pauseOf p1 v8 σ105 _ (ps_bdE hK)) ?_
                intro v108 σ109 hT
                clear hK
                have hK := hT
                clear hT
                refine pm_iadd d_X9_writes_192 ?_
                refine pm_ki d_X9_writes_193 ?_
                refine pm_idiv d_X9_writes_194 (by decide) ?_
                obtain ⟨b115, hT⟩ := ps_gd hK
                replace hK := hT
                clear hT
                refine ps_iast d_X9_writes_195 at_335 a_8_8 (ps_in_of b115) ?_
                refine ps_nmS (fun σ110 eσ110 => ?_)
                replace hK := ps_ltE eσ110 hK
                refine pm_ald d_X9_writes_196 rfl ?_
                refine ps_getR (q := 335) d_X9_writes_197 at_327 f_8_0_19 rfl ?_
                refine pm_ki d_X9_writes_200 ?_
                refine pm_ild d_X9_writes_202 rfl ?_
                refine pm_iadd d_X9_writes_203 ?_
                refine pm_ald d_X9_writes_204 rfl ?_
                refine ps_getR (q := 335) d_X9_writes_205 at_327 f_8_0_19 rfl ?_
                refine pm_ki d_X9_writes_208 ?_
                refine pm_ild d_X9_writes_210 rfl ?_
                refine pm_iadd d_X9_writes_211 ?_
                obtain ⟨b114, hT⟩ := ps_gd hK
                replace hK := hT
                clear hT
                refine ps_iald d_X9_writes_212 at_335 a_8_8 (ps_in_of b114) rfl ?_
                refine ps_topI (fun v111 ev111 => ?_)
                replace hK := ps_ltE ev111 hK
                obtain ⟨b113, hT⟩ := ps_gd hK
                replace hK := hT
                clear hT
                refine ps_iast d_X9_writes_213 at_335 a_8_8 (ps_in_of b113) ?_
                refine ps_nmS (fun σ112 eσ112 => ?_)
                replace hK := ps_ltE eσ112 hK
                have hQ := ps_so hK
                exact ps_vret rfl d_X9_writes_214 ⟨rfl, hQ⟩
              · replace hK := ps_ifF c106 hK
                have hQ := ps_so hK
                exact ps_vret rfl d_X9_writes_165 ⟨rfl, hQ⟩
          · replace hK := ps_ifT c69 hK
            have hQ := ps_so hK
            exact ps_vret rfl d_X9_writes_86 ⟨rfl, hQ⟩
      · replace hK := ps_ifF c10 hK
        refine pm_ild d_X9_writes_55 rfl ?_
        refine pm_goto d_X9_writes_56 ?_
        refine pm_ist4 d_X9_writes_60 rfl (by decide) ?_
        refine pm_ild d_X9_writes_62 rfl ?_
        refine pm_ild d_X9_writes_63 rfl ?_
        refine pm_icmp_le d_X9_writes_65 (fun c126 => ?_) (fun c126 => ?_)
        · replace hK := ps_ifT c126 hK
          refine pm_ild d_X9_writes_81 rfl ?_
          refine pm_if_ne d_X9_writes_83 (fun c127 => ?_) (fun c127 => ?_)
          · replace hK := ps_ifF c127 hK
            refine pm_ald d_X9_writes_87 rfl ?_
            refine ps_getR (q := 328) d_X9_writes_88 at_327 f_8_0_1 rfl ?_
            refine pm_ki d_X9_writes_91 ?_
            refine pm_ild d_X9_writes_93 rfl ?_
            refine pm_iadd d_X9_writes_94 ?_
            obtain ⟨b181, hT⟩ := ps_gd hK
            replace hK := hT
            clear hT
            refine ps_iald d_X9_writes_95 at_328 a_8_1 (ps_in_of b181) rfl ?_
            refine ps_topI (fun v128 ev128 => ?_)
            replace hK := ps_ltE ev128 hK
            refine pm_ist5 d_X9_writes_96 rfl (by decide) ?_
            refine pm_ald d_X9_writes_98 rfl ?_
            refine ps_getR (q := 335) d_X9_writes_99 at_327 f_8_0_19 rfl ?_
            refine pm_ki d_X9_writes_102 ?_
            refine pm_ild d_X9_writes_103 rfl ?_
            refine pm_iadd d_X9_writes_105 ?_
            obtain ⟨b180, hT⟩ := ps_gd hK
            replace hK := hT
            clear hT
            refine ps_iald d_X9_writes_106 at_335 a_8_8 (ps_in_of b180) rfl ?_
            refine ps_topI (fun v129 ev129 => ?_)
            replace hK := ps_ltE ev129 hK
            refine pm_if_ne d_X9_writes_107 (fun c130 => ?_) (fun c130 => ?_)
            · replace hK := ps_ifF c130 hK
              refine pm_ald d_X9_writes_126 rfl ?_
              refine ps_getR (q := 335) d_X9_writes_127 at_327 f_8_0_19 rfl ?_
              refine pm_ki d_X9_writes_130 ?_
              refine pm_ild d_X9_writes_131 rfl ?_
              refine pm_iadd d_X9_writes_133 ?_
              refine pm_dup2 d_X9_writes_134 rfl rfl ?_
              obtain ⟨b153, hT⟩ := ps_gd hK
              replace hK := hT
              clear hT
              refine ps_iald d_X9_writes_135 at_335 a_8_8 (ps_in_of b153) rfl ?_
              refine ps_topI (fun v131 ev131 => ?_)
              replace hK := ps_ltE ev131 hK
              refine pm_ild d_X9_writes_136 rfl ?_
              refine pm_iadd d_X9_writes_138 ?_
              obtain ⟨b152, hT⟩ := ps_gd hK
              replace hK := hT
              clear hT
              refine ps_iast d_X9_writes_139 at_335 a_8_8 (ps_in_of b152) ?_
              refine ps_nmS (fun σ132 eσ132 => ?_)
              replace hK := ps_ltE eσ132 hK
              refine pm_ald d_X9_writes_140 rfl ?_
              refine ps_getR (q := 335) d_X9_writes_141 at_327 f_8_0_19 rfl ?_
              refine pm_ki d_X9_writes_144 ?_
              refine pm_ild d_X9_writes_146 rfl ?_
              refine pm_iadd d_X9_writes_147 ?_
              refine pm_dup2 d_X9_writes_148 rfl rfl ?_
              obtain ⟨b151, hT⟩ := ps_gd hK
              replace hK := hT
              clear hT
              refine ps_iald d_X9_writes_149 at_335 a_8_8 (ps_in_of b151) rfl ?_
              refine ps_topI (fun v133 ev133 => ?_)
              replace hK := ps_ltE ev133 hK
              refine pm_ild d_X9_writes_150 rfl ?_
              refine pm_iadd d_X9_writes_152 ?_
              obtain ⟨b150, hT⟩ := ps_gd hK
              replace hK := hT
              clear hT
              refine ps_iast d_X9_writes_153 at_335 a_8_8 (ps_in_of b150) ?_
              refine ps_nmS (fun σ134 eσ134 => ?_)
              replace hK := ps_ltE eσ134 hK
              refine pm_ald d_X9_writes_154 rfl ?_
              refine ps_cVI d_X9_writes_155 mv_X9_allNow at_327 ob_8_0 rfl (As := []) rfl rfl (ps_room.of (by omega) (by decide)) (Nat.le_of_ble_eq_true rfl) (C_X9_allNow σ134 _ (ps_bdE hK)) ?_
              intro v135 σ136 hT
              clear hK
              have hK := hT
              clear hT
              refine pm_ald d_X9_writes_158 rfl ?_
              refine ps_cVI d_X9_writes_159 mv_X9_freeNow at_327 ob_8_0 rfl (As := []) rfl rfl (ps_room.of (by omega) (by decide)) (Nat.le_of_ble_eq_true rfl) (C_X9_freeNow σ136 _ (ps_bdE hK)) ?_
              intro v137 σ138 hT
              clear hK
              have hK := hT
              clear hT
              refine pm_icmp_gt d_X9_writes_162 (fun c139 => ?_) (fun c139 => ?_)
              · replace hK := ps_ifT c139 hK
                refine pm_ald d_X9_writes_166 rfl ?_
                refine ps_getR (q := 335) d_X9_writes_167 at_327 f_8_0_19 rfl ?_
                refine pm_ki d_X9_writes_170 ?_
                refine pm_ild d_X9_writes_172 rfl ?_
                refine pm_iadd d_X9_writes_173 ?_
                refine pm_ki d_X9_writes_174 ?_
                refine pm_ald d_X9_writes_175 rfl ?_
                refine ps_getR (q := 335) d_X9_writes_176 at_327 f_8_0_19 rfl ?_
                refine pm_ki d_X9_writes_179 ?_
                refine pm_ild d_X9_writes_181 rfl ?_
                refine pm_iadd d_X9_writes_182 ?_
                obtain ⟨b149, hT⟩ := ps_gd hK
                replace hK := hT
                clear hT
                refine ps_iald d_X9_writes_183 at_335 a_8_8 (ps_in_of b149) rfl ?_
                refine ps_topI (fun v140 ev140 => ?_)
                replace hK := ps_ltE ev140 hK
                refine pm_imul d_X9_writes_184 ?_
                refine pm_ald d_X9_writes_185 rfl ?_
                refine pm_ild d_X9_writes_186 rfl ?_
                refine pm_ild d_X9_writes_187 rfl ?_
                refine ps_cVI d_X9_writes_189 mv_X9_pauseOf at_327 ob_8_0 rfl (As := [.int p1, .int v3]) rfl rfl (ps_room.of (by omega) (by decide)) (Nat.le_of_ble_eq_true rfl) (C_X9_pauseOf p1 v3 σ138 _ (ps_bdE hK)) ?_
                intro v141 σ142 hT
                clear hK
                have hK := hT
                clear hT
                refine pm_iadd d_X9_writes_192 ?_
                refine pm_ki d_X9_writes_193 ?_
                refine pm_idiv d_X9_writes_194 (by decide) ?_
                obtain ⟨b148, hT⟩ := ps_gd hK
                replace hK := hT
                clear hT
                refine ps_iast d_X9_writes_195 at_335 a_8_8 (ps_in_of b148) ?_
                refine ps_nmS (fun σ143 eσ143 => ?_)
                replace hK := ps_ltE eσ143 hK
                refine pm_ald d_X9_writes_196 rfl ?_
                refine ps_getR (q := 335) d_X9_writes_197 at_327 f_8_0_19 rfl ?_
                refine pm_ki d_X9_writes_200 ?_
                refine pm_ild d_X9_writes_202 rfl ?_
                refine pm_iadd d_X9_writes_203 ?_
                refine pm_ald d_X9_writes_204 rfl ?_
                refine ps_getR (q := 335) d_X9_writes_205 at_327 f_8_0_19 rfl ?_
                refine pm_ki d_X9_writes_208 ?_
                refine pm_ild d_X9_writes_210 rfl ?_
                refine pm_iadd d_X9_writes_211 ?_
                obtain ⟨b147, hT⟩ := ps_gd hK
                replace hK := hT
                clear hT
                refine ps_iald d_X9_writes_212 at_335 a_8_8 (ps_in_of b147) rfl ?_
                refine ps_topI (fun v144 ev144 => ?_)
                replace hK := ps_ltE ev144 hK
                obtain ⟨b146, hT⟩ := ps_gd hK
                replace hK := hT
                clear hT
                refine ps_iast d_X9_writes_213 at_335 a_8_8 (ps_in_of b146) ?_
                refine ps_nmS (fun σ145 eσ145 => ?_)
                replace hK := ps_ltE eσ145 hK
                have hQ := ps_so hK
                exact ps_vret rfl d_X9_writes_214 ⟨rfl, hQ⟩
              · replace hK := ps_ifF c139 hK
                have hQ := ps_so hK
                exact ps_vret rfl d_X9_writes_165 ⟨rfl, hQ⟩
            · replace hK := ps_ifT c130 hK
              refine pm_ald d_X9_writes_110 rfl ?_
              refine ps_getR (q := 335) d_X9_writes_111 at_327 f_8_0_19 rfl ?_
              refine pm_ki d_X9_writes_114 ?_
              refine pm_ild d_X9_writes_116 rfl ?_
              refine pm_iadd d_X9_writes_118 ?_
              refine pm_ald d_X9_writes_119 rfl ?_
              refine ps_getR (q := 335) d_X9_writes_120 at_327 f_8_0_19 rfl ?_
              refine pm_ki d_X9_writes_123 ?_
              refine ps_iald (x := σ7.1 335 0) d_X9_writes_124 at_335 a_8_8 (ps_in_of rfl) rfl ?_
              refine ps_topI (fun v154 ev154 => ?_)
              replace hK := ps_ltE ev154 hK
              obtain ⟨b179, hT⟩ := ps_gd hK
              replace hK := hT
              clear hT
              refine ps_iast d_X9_writes_125 at_335 a_8_8 (ps_in_of b179) ?_
              refine ps_nmS (fun σ155 eσ155 => ?_)
              replace hK := ps_ltE eσ155 hK
              refine pm_ald d_X9_writes_126 rfl ?_
              refine ps_getR (q := 335) d_X9_writes_127 at_327 f_8_0_19 rfl ?_
              refine pm_ki d_X9_writes_130 ?_
              refine pm_ild d_X9_writes_131 rfl ?_
              refine pm_iadd d_X9_writes_133 ?_
              refine pm_dup2 d_X9_writes_134 rfl rfl ?_
              obtain ⟨b178, hT⟩ := ps_gd hK
              replace hK := hT
              clear hT
              refine ps_iald d_X9_writes_135 at_335 a_8_8 (ps_in_of b178) rfl ?_
              refine ps_topI (fun v156 ev156 => ?_)
              replace hK := ps_ltE ev156 hK
              refine pm_ild d_X9_writes_136 rfl ?_
              refine pm_iadd d_X9_writes_138 ?_
              obtain ⟨b177, hT⟩ := ps_gd hK
              replace hK := hT
              clear hT
              refine ps_iast d_X9_writes_139 at_335 a_8_8 (ps_in_of b177) ?_
              refine ps_nmS (fun σ157 eσ157 => ?_)
              replace hK := ps_ltE eσ157 hK
              refine pm_ald d_X9_writes_140 rfl ?_
              refine ps_getR (q := 335) d_X9_writes_141 at_327 f_8_0_19 rfl ?_
              refine pm_ki d_X9_writes_144 ?_
              refine pm_ild d_X9_writes_146 rfl ?_
              refine pm_iadd d_X9_writes_147 ?_
              refine pm_dup2 d_X9_writes_148 rfl rfl ?_
              obtain ⟨b176, hT⟩ := ps_gd hK
              replace hK := hT
              clear hT
              refine ps_iald d_X9_writes_149 at_335 a_8_8 (ps_in_of b176) rfl ?_
              refine ps_topI (fun v158 ev158 => ?_)
              replace hK := ps_ltE ev158 hK
              refine pm_ild d_X9_writes_150 rfl ?_
              refine pm_iadd d_X9_writes_152 ?_
              obtain ⟨b175, hT⟩ := ps_gd hK
              replace hK := hT
              clear hT
              refine ps_iast d_X9_writes_153 at_335 a_8_8 (ps_in_of b175) ?_
              refine ps_nmS (fun σ159 eσ159 => ?_)
              replace hK := ps_ltE eσ159 hK
              refine pm_ald d_X9_writes_154 rfl ?_
              refine ps_cVI d_X9_writes_155 mv_X9_allNow at_327 ob_8_0 rfl (As := []) rfl rfl (ps_room.of (by omega) (by decide)) (Nat.le_of_ble_eq_true rfl) (C_X9_allNow σ159 _ (ps_bdE hK)) ?_
              intro v160 σ161 hT
              clear hK
              have hK := hT
              clear hT
              refine pm_ald d_X9_writes_158 rfl ?_
              refine ps_cVI d_X9_writes_159 mv_X9_freeNow at_327 ob_8_0 rfl (As := []) rfl rfl (ps_room.of (by omega) (by decide)) (Nat.le_of_ble_eq_true rfl) (C_X9_freeNow σ161 _ (ps_bdE hK)) ?_
              intro v162 σ163 hT
              clear hK
              have hK := hT
              clear hT
              refine pm_icmp_gt d_X9_writes_162 (fun c164 => ?_) (fun c164 => ?_)
              · replace hK := ps_ifT c164 hK
                refine pm_ald d_X9_writes_166 rfl ?_
                refine ps_getR (q := 335) d_X9_writes_167 at_327 f_8_0_19 rfl ?_
                refine pm_ki d_X9_writes_170 ?_
                refine pm_ild d_X9_writes_172 rfl ?_
                refine pm_iadd d_X9_writes_173 ?_
                refine pm_ki d_X9_writes_174 ?_
                refine pm_ald d_X9_writes_175 rfl ?_
                refine ps_getR (q := 335) d_X9_writes_176 at_327 f_8_0_19 rfl ?_
                refine pm_ki d_X9_writes_179 ?_
                refine pm_ild d_X9_writes_181 rfl ?_
                refine pm_iadd d_X9_writes_182 ?_
                obtain ⟨b174, hT⟩ := ps_gd hK
                replace hK := hT
                clear hT
                refine ps_iald d_X9_writes_183 at_335 a_8_8 (ps_in_of b174) rfl ?_
                refine ps_topI (fun v165 ev165 => ?_)
                replace hK := ps_ltE ev165 hK
                refine pm_imul d_X9_writes_184 ?_
                refine pm_ald d_X9_writes_185 rfl ?_
                refine pm_ild d_X9_writes_186 rfl ?_
                refine pm_ild d_X9_writes_187 rfl ?_
                refine ps_cVI d_X9_writes_189 mv_X9_pauseOf at_327 ob_8_0 rfl (As := [.int p1, .int v3]) rfl rfl (ps_room.of (by omega) (by decide)) (Nat.le_of_ble_eq_true rfl) (C_X9_pauseOf p1 v3 σ163 _ (ps_bdE hK)) ?_
                intro v166 σ167 hT
                clear hK
                have hK := hT
                clear hT
                refine pm_iadd d_X9_writes_192 ?_
                refine pm_ki d_X9_writes_193 ?_
                refine pm_idiv d_X9_writes_194 (by decide) ?_
                obtain ⟨b173, hT⟩ := ps_gd hK
                replace hK := hT
                clear hT
                refine ps_iast d_X9_writes_195 at_335 a_8_8 (ps_in_of b173) ?_
                refine ps_nmS (fun σ168 eσ168 => ?_)
                replace hK := ps_ltE eσ168 hK
                refine pm_ald d_X9_writes_196 rfl ?_
                refine ps_getR (q := 335) d_X9_writes_197 at_327 f_8_0_19 rfl ?_
                refine pm_ki d_X9_writes_200 ?_
                refine pm_ild d_X9_writes_202 rfl ?_
                refine pm_iadd d_X9_writes_203 ?_
                refine pm_ald d_X9_writes_204 rfl ?_
                refine ps_getR (q := 335) d_X9_writes_205 at_327 f_8_0_19 rfl ?_
                refine pm_ki d_X9_writes_208 ?_
                refine pm_ild d_X9_writes_210 rfl ?_
                refine pm_iadd d_X9_writes_211 ?_
                obtain ⟨b172, hT⟩ := ps_gd hK
                replace hK := hT
                clear hT
                refine ps_iald d_X9_writes_212 at_335 a_8_8 (ps_in_of b172) rfl ?_
                refine ps_topI (fun v169 ev169 => ?_)
                replace hK := ps_ltE ev169 hK
                obtain ⟨b171, hT⟩ := ps_gd hK
                replace hK := hT
                clear hT
                refine ps_iast d_X9_writes_213 at_335 a_8_8 (ps_in_of b171) ?_
                refine ps_nmS (fun σ170 eσ170 => ?_)
                replace hK := ps_ltE eσ170 hK
                have hQ := ps_so hK
                exact ps_vret rfl d_X9_writes_214 ⟨rfl, hQ⟩
              · replace hK := ps_ifF c164 hK
                have hQ := ps_so hK
                exact ps_vret rfl d_X9_writes_165 ⟨rfl, hQ⟩
          · replace hK := ps_ifT c127 hK
            have hQ := ps_so hK
            exact ps_vret rfl d_X9_writes_86 ⟨rfl, hQ⟩
        · replace hK := ps_ifF c126 hK
          refine pm_ald d_X9_writes_68 rfl ?_
          refine ps_getR (q := 335) d_X9_writes_69 at_327 f_8_0_19 rfl ?_
          refine pm_ki d_X9_writes_72 ?_
          refine pm_ild d_X9_writes_74 rfl ?_
          refine pm_iadd d_X9_writes_75 ?_
          refine pm_dup2 d_X9_writes_76 rfl rfl ?_
          obtain ⟨b240, hT⟩ := ps_gd hK
          replace hK := hT
          clear hT
          refine ps_iald d_X9_writes_77 at_335 a_8_8 (ps_in_of b240) rfl ?_
          refine ps_topI (fun v182 ev182 => ?_)
          replace hK := ps_ltE ev182 hK
          refine pm_ki d_X9_writes_78 ?_
          refine pm_iadd d_X9_writes_79 ?_
          obtain ⟨b239, hT⟩ := ps_gd hK
          replace hK := hT
          clear hT
          refine ps_iast d_X9_writes_80 at_335 a_8_8 (ps_in_of b239) ?_
          refine ps_nmS (fun σ183 eσ183 => ?_)
          replace hK := ps_ltE eσ183 hK
          refine pm_ild d_X9_writes_81 rfl ?_
          refine pm_if_ne d_X9_writes_83 (fun c184 => ?_) (fun c184 => ?_)
          · replace hK := ps_ifF c184 hK
            refine pm_ald d_X9_writes_87 rfl ?_
            refine ps_getR (q := 328) d_X9_writes_88 at_327 f_8_0_1 rfl ?_
            refine pm_ki d_X9_writes_91 ?_
            refine pm_ild d_X9_writes_93 rfl ?_
            refine pm_iadd d_X9_writes_94 ?_
            obtain ⟨b238, hT⟩ := ps_gd hK
            replace hK := hT
            clear hT
            refine ps_iald d_X9_writes_95 at_328 a_8_1 (ps_in_of b238) rfl ?_
            refine ps_topI (fun v185 ev185 => ?_)
            replace hK := ps_ltE ev185 hK
            refine pm_ist5 d_X9_writes_96 rfl (by decide) ?_
            refine pm_ald d_X9_writes_98 rfl ?_
            refine ps_getR (q := 335) d_X9_writes_99 at_327 f_8_0_19 rfl ?_
            refine pm_ki d_X9_writes_102 ?_
            refine pm_ild d_X9_writes_103 rfl ?_
            refine pm_iadd d_X9_writes_105 ?_
            obtain ⟨b237, hT⟩ := ps_gd hK
            replace hK := hT
            clear hT
            refine ps_iald d_X9_writes_106 at_335 a_8_8 (ps_in_of b237) rfl ?_
            refine ps_topI (fun v186 ev186 => ?_)
            replace hK := ps_ltE ev186 hK
            refine pm_if_ne d_X9_writes_107 (fun c187 => ?_) (fun c187 => ?_)
            · replace hK := ps_ifF c187 hK
              refine pm_ald d_X9_writes_126 rfl ?_
              refine ps_getR (q := 335) d_X9_writes_127 at_327 f_8_0_19 rfl ?_
              refine pm_ki d_X9_writes_130 ?_
              refine pm_ild d_X9_writes_131 rfl ?_
              refine pm_iadd d_X9_writes_133 ?_
              refine pm_dup2 d_X9_writes_134 rfl rfl ?_
              obtain ⟨b210, hT⟩ := ps_gd hK
              replace hK := hT
              clear hT
              refine ps_iald d_X9_writes_135 at_335 a_8_8 (ps_in_of b210) rfl ?_
              refine ps_topI (fun v188 ev188 => ?_)
              replace hK := ps_ltE ev188 hK
              refine pm_ild d_X9_writes_136 rfl ?_
              refine pm_iadd d_X9_writes_138 ?_
              obtain ⟨b209, hT⟩ := ps_gd hK
              replace hK := hT
              clear hT
              refine ps_iast d_X9_writes_139 at_335 a_8_8 (ps_in_of b209) ?_
              refine ps_nmS (fun σ189 eσ189 => ?_)
              replace hK := ps_ltE eσ189 hK
              refine pm_ald d_X9_writes_140 rfl ?_
              refine ps_getR (q := 335) d_X9_writes_141 at_327 f_8_0_19 rfl ?_
              refine pm_ki d_X9_writes_144 ?_
              refine pm_ild d_X9_writes_146 rfl ?_
              refine pm_iadd d_X9_writes_147 ?_
              refine pm_dup2 d_X9_writes_148 rfl rfl ?_
              obtain ⟨b208, hT⟩ := ps_gd hK
              replace hK := hT
              clear hT
              refine ps_iald d_X9_writes_149 at_335 a_8_8 (ps_in_of b208) rfl ?_
              refine ps_topI (fun v190 ev190 => ?_)
              replace hK := ps_ltE ev190 hK
              refine pm_ild d_X9_writes_150 rfl ?_
              refine pm_iadd d_X9_writes_152 ?_
              obtain ⟨b207, hT⟩ := ps_gd hK
              replace hK := hT
              clear hT
              refine ps_iast d_X9_writes_153 at_335 a_8_8 (ps_in_of b207) ?_
              refine ps_nmS (fun σ191 eσ191 => ?_)
              replace hK := ps_ltE eσ191 hK
              refine pm_ald d_X9_writes_154 rfl ?_
              refine ps_cVI d_X9_writes_155 mv_X9_allNow at_327 ob_8_0 rfl (As := []) rfl rfl (ps_room.of (by omega) (by decide)) (Nat.le_of_ble_eq_true rfl) (C_X9_allNow σ191 _ (ps_bdE hK)) ?_
              intro v192 σ193 hT
              clear hK
              have hK := hT
              clear hT
              refine pm_ald d_X9_writes_158 rfl ?_
              refine ps_cVI d_X9_writes_159 mv_X9_freeNow at_327 ob_8_0 rfl (As := []) rfl rfl (ps_room.of (by omega) (by decide)) (Nat.le_of_ble_eq_true rfl) (C_X9_freeNow σ193 _ (ps_bdE hK)) ?_
              intro v194 σ195 hT
              clear hK
              have hK := hT
              clear hT
              refine pm_icmp_gt d_X9_writes_162 (fun c196 => ?_) (fun c196 => ?_)
              · replace hK := ps_ifT c196 hK
                refine pm_ald d_X9_writes_166 rfl ?_
                refine ps_getR (q := 335) d_X9_writes_167 at_327 f_8_0_19 rfl ?_
                refine pm_ki d_X9_writes_170 ?_
                refine pm_ild d_X9_writes_172 rfl ?_
                refine pm_iadd d_X9_writes_173 ?_
                refine pm_ki d_X9_writes_174 ?_
                refine pm_ald d_X9_writes_175 rfl ?_
                refine ps_getR (q := 335) d_X9_writes_176 at_327 f_8_0_19 rfl ?_
                refine pm_ki d_X9_writes_179 ?_
                refine pm_ild d_X9_writes_181 rfl ?_
                refine pm_iadd d_X9_writes_182 ?_
                obtain ⟨b206, hT⟩ := ps_gd hK
                replace hK := hT
                clear hT
                refine ps_iald d_X9_writes_183 at_335 a_8_8 (ps_in_of b206) rfl ?_
                refine ps_topI (fun v197 ev197 => ?_)
                replace hK := ps_ltE ev197 hK
                refine pm_imul d_X9_writes_184 ?_
                refine pm_ald d_X9_writes_185 rfl ?_
                refine pm_ild d_X9_writes_186 rfl ?_
                refine pm_ild d_X9_writes_187 rfl ?_
                refine ps_cVI d_X9_writes_189 mv_X9_pauseOf at_327 ob_8_0 rfl (As := [.int p1, .int v3]) rfl rfl (ps_room.of (by omega) (by decide)) (Nat.le_of_ble_eq_true rfl) (C_X9_pauseOf p1 v3 σ195 _ (ps_bdE hK)) ?_
                intro v198 σ199 hT
                clear hK
                have hK := hT
                clear hT
                refine pm_iadd d_X9_writes_192 ?_
                refine pm_ki d_X9_writes_193 ?_
                refine pm_idiv d_X9_writes_194 (by decide) ?_
                obtain ⟨b205, hT⟩ := ps_gd hK
                replace hK := hT
                clear hT
                refine ps_iast d_X9_writes_195 at_335 a_8_8 (ps_in_of b205) ?_
                refine ps_nmS (fun σ200 eσ200 => ?_)
                replace hK := ps_ltE eσ200 hK
                refine pm_ald d_X9_writes_196 rfl ?_
                refine ps_getR (q := 335) d_X9_writes_197 at_327 f_8_0_19 rfl ?_
                refine pm_ki d_X9_writes_200 ?_
                refine pm_ild d_X9_writes_202 rfl ?_
                refine pm_iadd d_X9_writes_203 ?_
                refine pm_ald d_X9_writes_204 rfl ?_
                refine ps_getR (q := 335) d_X9_writes_205 at_327 f_8_0_19 rfl ?_
                refine pm_ki d_X9_writes_208 ?_
                refine pm_ild d_X9_writes_210 rfl ?_
                refine pm_iadd d_X9_writes_211 ?_
                obtain ⟨b204, hT⟩ := ps_gd hK
                replace hK := hT
                clear hT
                refine ps_iald d_X9_writes_212 at_335 a_8_8 (ps_in_of b204) rfl ?_
                refine ps_topI (fun v201 ev201 => ?_)
                replace hK := ps_ltE ev201 hK
                obtain ⟨b203, hT⟩ := ps_gd hK
                replace hK := hT
                clear hT
                refine ps_iast d_X9_writes_213 at_335 a_8_8 (ps_in_of b203) ?_
                refine ps_nmS (fun σ202 eσ202 => ?_)
                replace hK := ps_ltE eσ202 hK
                have hQ := ps_so hK
                exact ps_vret rfl d_X9_writes_214 ⟨rfl, hQ⟩
              · replace hK := ps_ifF c196 hK
                have hQ := ps_so hK
                exact ps_vret rfl d_X9_writes_165 ⟨rfl, hQ⟩
            · replace hK := ps_ifT c187 hK
              refine pm_ald d_X9_writes_110 rfl ?_
              refine ps_getR (q := 335) d_X9_writes_111 at_327 f_8_0_19 rfl ?_
              refine pm_ki d_X9_writes_114 ?_
              refine pm_ild d_X9_writes_116 rfl ?_
              refine pm_iadd d_X9_writes_118 ?_
              refine pm_ald d_X9_writes_119 rfl ?_
              refine ps_getR (q := 335) d_X9_writes_120 at_327 f_8_0_19 rfl ?_
              refine pm_ki d_X9_writes_123 ?_
              refine ps_iald (x := σ183.1 335 0) d_X9_writes_124 at_335 a_8_8 (ps_in_of rfl) rfl ?_
              refine ps_topI (fun v211 ev211 => ?_)
              replace hK := ps_ltE ev211 hK
              obtain ⟨b236, hT⟩ := ps_gd hK
              replace hK := hT
              clear hT
              refine ps_iast d_X9_writes_125 at_335 a_8_8 (ps_in_of b236) ?_
              refine ps_nmS (fun σ212 eσ212 => ?_)
              replace hK := ps_ltE eσ212 hK
              refine pm_ald d_X9_writes_126 rfl ?_
              refine ps_getR (q := 335) d_X9_writes_127 at_327 f_8_0_19 rfl ?_
              refine pm_ki d_X9_writes_130 ?_
              refine pm_ild d_X9_writes_131 rfl ?_
              refine pm_iadd d_X9_writes_133 ?_
              refine pm_dup2 d_X9_writes_134 rfl rfl ?_
              obtain ⟨b235, hT⟩ := ps_gd hK
              replace hK := hT
              clear hT
              refine ps_iald d_X9_writes_135 at_335 a_8_8 (ps_in_of b235) rfl ?_
              refine ps_topI (fun v213 ev213 => ?_)
              replace hK := ps_ltE ev213 hK
              refine pm_ild d_X9_writes_136 rfl ?_
              refine pm_iadd d_X9_writes_138 ?_
              obtain ⟨b234, hT⟩ := ps_gd hK
              replace hK := hT
              clear hT
              refine ps_iast d_X9_writes_139 at_335 a_8_8 (ps_in_of b234) ?_
              refine ps_nmS (fun σ214 eσ214 => ?_)
              replace hK := ps_ltE eσ214 hK
              refine pm_ald d_X9_writes_140 rfl ?_
              refine ps_getR (q := 335) d_X9_writes_141 at_327 f_8_0_19 rfl ?_
              refine pm_ki d_X9_writes_144 ?_
              refine pm_ild d_X9_writes_146 rfl ?_
              refine pm_iadd d_X9_writes_147 ?_
              refine pm_dup2 d_X9_writes_148 rfl rfl ?_
              obtain ⟨b233, hT⟩ := ps_gd hK
              replace hK := hT
              clear hT
              refine ps_iald d_X9_writes_149 at_335 a_8_8 (ps_in_of b233) rfl ?_
              refine ps_topI (fun v215 ev215 => ?_)
              replace hK := ps_ltE ev215 hK
              refine pm_ild d_X9_writes_150 rfl ?_
              refine pm_iadd d_X9_writes_152 ?_
              obtain ⟨b232, hT⟩ := ps_gd hK
              replace hK := hT
              clear hT
              refine ps_iast d_X9_writes_153 at_335 a_8_8 (ps_in_of b232) ?_
              refine ps_nmS (fun σ216 eσ216 => ?_)
              replace hK := ps_ltE eσ216 hK
              refine pm_ald d_X9_writes_154 rfl ?_
              refine ps_cVI d_X9_writes_155 mv_X9_allNow at_327 ob_8_0 rfl (As := []) rfl rfl (ps_room.of (by omega) (by decide)) (Nat.le_of_ble_eq_true rfl) (C_X9_allNow σ216 _ (ps_bdE hK)) ?_
              intro v217 σ218 hT
              clear hK
              have hK := hT
              clear hT
              refine pm_ald d_X9_writes_158 rfl ?_
              refine ps_cVI d_X9_writes_159 mv_X9_freeNow at_327 ob_8_0 rfl (As := []) rfl rfl (ps_room.of (by omega) (by decide)) (Nat.le_of_ble_eq_true rfl) (C_X9_freeNow σ218 _ (ps_bdE hK)) ?_
              intro v219 σ220 hT
              clear hK
              have hK := hT
              clear hT
              refine pm_icmp_gt d_X9_writes_162 (fun c221 => ?_) (fun c221 => ?_)
              · replace hK := ps_ifT c221 hK
                refine pm_ald d_X9_writes_166 rfl ?_
                refine ps_getR (q := 335) d_X9_writes_167 at_327 f_8_0_19 rfl ?_
                refine pm_ki d_X9_writes_170 ?_
                refine pm_ild d_X9_writes_172 rfl ?_
                refine pm_iadd d_X9_writes_173 ?_
                refine pm_ki d_X9_writes_174 ?_
                refine pm_ald d_X9_writes_175 rfl ?_
                refine ps_getR (q := 335) d_X9_writes_176 at_327 f_8_0_19 rfl ?_
                refine pm_ki d_X9_writes_179 ?_
                refine pm_ild d_X9_writes_181 rfl ?_
                refine pm_iadd d_X9_writes_182 ?_
                obtain ⟨b231, hT⟩ := ps_gd hK
                replace hK := hT
                clear hT
                refine ps_iald d_X9_writes_183 at_335 a_8_8 (ps_in_of b231) rfl ?_
                refine ps_topI (fun v222 ev222 => ?_)
                replace hK := ps_ltE ev222 hK
                refine pm_imul d_X9_writes_184 ?_
                refine pm_ald d_X9_writes_185 rfl ?_
                refine pm_ild d_X9_writes_186 rfl ?_
                refine pm_ild d_X9_writes_187 rfl ?_
                refine ps_cVI d_X9_writes_189 mv_X9_pauseOf at_327 ob_8_0 rfl (As := [.int p1, .int v3]) rfl rfl (ps_room.of (by omega) (by decide)) (Nat.le_of_ble_eq_true rfl) (C_X9_pauseOf p1 v3 σ220 _ (ps_bdE hK)) ?_
                intro v223 σ224 hT
                clear hK
                have hK := hT
                clear hT
                refine pm_iadd d_X9_writes_192 ?_
                refine pm_ki d_X9_writes_193 ?_
                refine pm_idiv d_X9_writes_194 (by decide) ?_
                obtain ⟨b230, hT⟩ := ps_gd hK
                replace hK := hT
                clear hT
                refine ps_iast d_X9_writes_195 at_335 a_8_8 (ps_in_of b230) ?_
                refine ps_nmS (fun σ225 eσ225 => ?_)
                replace hK := ps_ltE eσ225 hK
                refine pm_ald d_X9_writes_196 rfl ?_
                refine ps_getR (q := 335) d_X9_writes_197 at_327 f_8_0_19 rfl ?_
                refine pm_ki d_X9_writes_200 ?_
                refine pm_ild d_X9_writes_202 rfl ?_
                refine pm_iadd d_X9_writes_203 ?_
                refine pm_ald d_X9_writes_204 rfl ?_
                refine ps_getR (q := 335) d_X9_writes_205 at_327 f_8_0_19 rfl ?_
                refine pm_ki d_X9_writes_208 ?_
                refine pm_ild d_X9_writes_210 rfl ?_
                refine pm_iadd d_X9_writes_211 ?_
                obtain ⟨b229, hT⟩ := ps_gd hK
                replace hK := hT
                clear hT
                refine ps_iald d_X9_writes_212 at_335 a_8_8 (ps_in_of b229) rfl ?_
                refine ps_topI (fun v226 ev226 => ?_)
                replace hK := ps_ltE ev226 hK
                obtain ⟨b228, hT⟩ := ps_gd hK
                replace hK := hT
                clear hT
                refine ps_iast d_X9_writes_213 at_335 a_8_8 (ps_in_of b228) ?_
                refine ps_nmS (fun σ227 eσ227 => ?_)
                replace hK := ps_ltE eσ227 hK
                have hQ := ps_so hK
                exact ps_vret rfl d_X9_writes_214 ⟨rfl, hQ⟩
              · replace hK := ps_ifF c221 hK
                have hQ := ps_so hK
                exact ps_vret rfl d_X9_writes_165 ⟨rfl, hQ⟩
          · replace hK := ps_ifT c184 hK
            have hQ := ps_so hK
            exact ps_vret rfl d_X9_writes_86 ⟨rfl, hQ⟩
    · replace hK := ps_ifF c9 hK
      refine pm_ki d_X9_writes_46 ?_
      refine pm_goto d_X9_writes_47 ?_
      refine pm_ist4 d_X9_writes_60 rfl (by decide) ?_
      refine pm_ild d_X9_writes_62 rfl ?_
      refine pm_ild d_X9_writes_63 rfl ?_
      refine pm_icmp_le d_X9_writes_65 (fun c241 => ?_) (fun c241 => ?_)
      · replace hK := ps_ifT c241 hK
        refine pm_ild d_X9_writes_81 rfl ?_
        refine pm_if_ne d_X9_writes_83 (fun c242 => (c242 (by decide)).elim) (fun _ => ?_)
        have hQ := ps_so hK
        exact ps_vret rfl d_X9_writes_86 ⟨rfl, hQ⟩
      · replace hK := ps_ifF c241 hK
        refine pm_ald d_X9_writes_68 rfl ?_
        refine ps_getR (q := 335) d_X9_writes_69 at_327 f_8_0_19 rfl ?_
        refine pm_ki d_X9_writes_72 ?_
        refine pm_ild d_X9_writes_74 rfl ?_
        refine pm_iadd d_X9_writes_75 ?_
        refine pm_dup2 d_X9_writes_76 rfl rfl ?_
        obtain ⟨b247, hT⟩ := ps_gd hK
        replace hK := hT
        clear hT
        refine ps_iald d_X9_writes_77 at_335 a_8_8 (ps_in_of b247) rfl ?_
        refine ps_topI (fun v243 ev243 => ?_)
        replace hK := ps_ltE ev243 hK
        refine pm_ki d_X9_writes_78 ?_
        refine pm_iadd d_X9_writes_79 ?_
        obtain ⟨b246, hT⟩ := ps_gd hK
        replace hK := hT
        clear hT
        refine ps_iast d_X9_writes_80 at_335 a_8_8 (ps_in_of b246) ?_
        refine ps_nmS (fun σ244 eσ244 => ?_)
        replace hK := ps_ltE eσ244 hK
        refine pm_ild d_X9_writes_81 rfl ?_
        refine pm_if_ne d_X9_writes_83 (fun c245 => (c245 (by decide)).elim) (fun _ => ?_)
        have hQ := ps_so hK
        exact ps_vret rfl d_X9_writes_86 ⟨rfl, hQ⟩
  · replace hK := ps_ifF c2 hK
    refine pm_ald d_X9_writes_12 rfl ?_
    refine ps_getR (q := 335) d_X9_writes_13 at_327 f_8_0_19 rfl ?_
    refine pm_ki d_X9_writes_16 ?_
    refine pm_ild d_X9_writes_18 rfl ?_
    refine pm_iadd d_X9_writes_19 ?_
    refine pm_dup2 d_X9_writes_20 rfl rfl ?_
    obtain ⟨b251, hT⟩ := ps_gd hK
    replace hK := hT
    clear hT
    refine ps_iald d_X9_writes_21 at_335 a_8_8 (ps_in_of b251) rfl ?_
    refine ps_topI (fun v248 ev248 => ?_)
    replace hK := ps_ltE ev248 hK
    refine pm_ki d_X9_writes_22 ?_
    refine pm_isub d_X9_writes_23 ?_
    obtain ⟨b250, hT⟩ := ps_gd hK
    replace hK := hT
    clear hT
    refine ps_iast d_X9_writes_24 at_335 a_8_8 (ps_in_of b250) ?_
    refine ps_nmS (fun σ249 eσ249 => ?_)
    replace hK := ps_ltE eσ249 hK
    have hQ := ps_so hK
    exact ps_vret rfl d_X9_writes_25 ⟨rfl, hQ⟩
def qX9_speedNow (p1 : Int32) (σ : ps_S) : Option (Int32 × ps_S) :=
  ps_let (σ.1 327 23) fun v1 =>
  if p1 = v1 then
  ps_let (σ.1 327 24) fun v15 =>
  some (v15, σ)
  else
  if ps_in ((25 + p1)) 83 = true then
  ps_let (σ.1 335 ((25 + p1)).toNatClampNeg) fun v3 =>
  ps_bd (qX9_laysWords v3 p1 0 σ) (fun _ σ5 =>
  ps_let (σ5.1 328 5) fun v6 =>
  if v6 = 1 then
  ps_bd (qX9_reckons 1 σ5) (fun v10 σ11 =>
  ps_bd (qX9_kept v10 0 999 σ11) (fun v12 σ13 =>
  some (v12, σ13)))
  else
  ps_bd (qX9_kept v3 0 999 σ5) (fun v8 σ9 =>
  some (v8, σ9)))
  else none
set_option maxRecDepth 100000 in
theorem C_X9_speedNow {g : pm_G} (p1 : Int32) (σ : ps_S) (P : Int32 → ps_S → Prop) (hK : ps_ok (qX9_speedNow p1 σ) P) : ps_C g mX9_speedNow 3 [.ref (g.2.2.1 + 327), .int p1] σ (ps_qI P) := by
  unfold qX9_speedNow at hK
  refine ps_C.of (ls := [some (.ref (g.2.2.1 + 327)), some (.int p1), none]) 1 (by decide) rfl (Nat.le_of_ble_eq_true rfl) rfl ?_
  refine pm_ild d_X9_speedNow_0 rfl ?_
  refine pm_ald d_X9_speedNow_1 rfl ?_
  refine ps_getI d_X9_speedNow_2 at_327 f_8_0_23 rfl ?_
  refine ps_topI (fun v1 ev1 => ?_)
  replace hK := ps_ltE ev1 hK
  refine pm_icmp_ne d_X9_speedNow_5 (fun c2 => ?_) (fun c2 => ?_)
  · replace hK := ps_ifF c2 hK
    refine pm_ald d_X9_speedNow_13 rfl ?_
    refine ps_getR (q := 335) d_X9_speedNow_14 at_327 f_8_0_19 rfl ?_
    refine pm_ki d_X9_speedNow_17 ?_
    refine pm_ild d_X9_speedNow_19 rfl ?_
    refine pm_iadd d_X9_speedNow_20 ?_
    obtain ⟨b14, hT⟩ := ps_gd hK
    replace hK := hT
    clear hT
    refine ps_iald d_X9_speedNow_21 at_335 a_8_8 (ps_in_of b14) rfl ?_
    refine ps_topI (fun v3 ev3 => ?_)
    replace hK := ps_ltE ev3 hK
    refine pm_ist2 d_X9_speedNow_22 rfl (by decide) ?_
    refine pm_ald d_X9_speedNow_23 rfl ?_
    refine pm_ild d_X9_speedNow_24 rfl ?_
    refine pm_ild d_X9_speedNow_25 rfl ?_
    refine pm_ki d_X9_speedNow_26 ?_
    refine ps_cVV d_X9_speedNow_27 mv_X9_laysWords at_327 ob_8_0 rfl (As := [.int v3, .int p1, .int 0]) rfl rfl (ps_room.of (by omega) (by decide)) (Nat.le_of_ble_eq_true rfl) (C_X9_laysWords v3 p1 0 σ _ (ps_bdE hK)) ?_
    intro σ5 hT
    clear hK
    have hK := hT
    clear hT
    refine pm_ald d_X9_speedNow_30 rfl ?_
    refine ps_getR (q := 328) d_X9_speedNow_31 at_327 f_8_0_1 rfl ?_
    refine pm_ki d_X9_speedNow_34 ?_
    refine ps_iald (x := σ5.1 328 5) d_X9_speedNow_35 at_328 a_8_1 (ps_in_of rfl) rfl ?_
    refine ps_topI (fun v6 ev6 => ?_)
    replace hK := ps_ltE ev6 hK
    refine pm_ki d_X9_speedNow_36 ?_
    refine pm_icmp_ne d_X9_speedNow_37 (fun c7 => ?_) (fun c7 => ?_)
    · replace hK := ps_ifF c7 hK
      refine pm_ild d_X9_speedNow_48 rfl ?_
      refine pm_ki d_X9_speedNow_49 ?_
      refine pm_ki d_X9_speedNow_50 ?_
      refine ps_cSI d_X9_speedNow_53 ms_X9_kept (As := [.int v3, .int 0, .int 999]) rfl rfl (ps_room.of (by omega) (by decide)) (Nat.le_of_ble_eq_true rfl) (C_X9_kept v3 0 999 σ5 _ (ps_bdE hK)) ?_
      intro v8 σ9 hT
      clear hK
      have hK := hT
      clear hT
      have hQ := ps_so hK
      exact ps_iret rfl d_X9_speedNow_56 ⟨_, rfl, hQ⟩
    · replace hK := ps_ifT c7 hK
      refine pm_ald d_X9_speedNow_40 rfl ?_
      refine pm_ki d_X9_speedNow_41 ?_
      refine ps_cVI d_X9_speedNow_42 mv_X9_reckons at_327 ob_8_0 rfl (As := [.int 1]) rfl rfl (ps_room.of (by omega) (by decide)) (Nat.le_of_ble_eq_true rfl) (C_X9_reckons 1 σ5 _ (ps_bdE hK)) ?_
      intro v10 σ11 hT
      clear hK
      have hK := hT
      clear hT
      refine pm_goto d_X9_speedNow_45 ?_
      refine pm_ki d_X9_speedNow_49 ?_
      refine pm_ki d_X9_speedNow_50 ?_
      refine ps_cSI d_X9_speedNow_53 ms_X9_kept (As := [.int v10, .int 0, .int 999]) rfl rfl (ps_room.of (by omega) (by decide)) (Nat.le_of_ble_eq_true rfl) (C_X9_kept v10 0 999 σ11 _ (ps_bdE hK)) ?_
      intro v12 σ13 hT
      clear hK
      have hK := hT
      clear hT
      have hQ := ps_so hK
      exact ps_iret rfl d_X9_speedNow_56 ⟨_, rfl, hQ⟩
  · replace hK := ps_ifT c2 hK
    refine pm_ald d_X9_speedNow_8 rfl ?_
    refine ps_getI d_X9_speedNow_9 at_327 f_8_0_24 rfl ?_
    refine ps_topI (fun v15 ev15 => ?_)
    replace hK := ps_ltE ev15 hK
    have hQ := ps_so hK
    exact ps_iret rfl d_X9_speedNow_12 ⟨_, rfl, hQ⟩
def qX9_writesOut_25  (y1 : Int32) : Nat → ps_S → Option (((Unit)) × ps_S)
  | 0, _ => none
  | n + 1, σ =>
    if ps_in ((33 + y1)) 83 = true then
    ps_let (σ.1 335 ((33 + y1)).toNatClampNeg) fun v3 =>
    if v3 < 100 then
    some ((), σ)
    else
    if ps_in ((29 + y1)) 83 = true then
    ps_let (σ.1 335 ((29 + y1)).toNatClampNeg) fun v5 =>
    if v5 ≤ 0 then
    some ((), σ)
    else
    if ps_in ((33 + y1)) 83 = true then
    ps_let (σ.1 335 ((33 + y1)).toNatClampNeg) fun v7 =>
    if ps_in ((33 + y1)) 83 = true then
    ps_let (ps_rI σ 335 (upd (σ.1 335) ((33 + y1)).toNatClampNeg ((v7 - 100)))) fun σ8 =>
    if ps_in ((29 + y1)) 83 = true then
    ps_let (σ8.1 335 ((29 + y1)).toNatClampNeg) fun v9 =>
    if ps_in ((29 + y1)) 83 = true then
    ps_let (ps_rI σ8 335 (upd (σ8.1 335) ((29 + y1)).toNatClampNeg ((v9 - 1)))) fun σ10 =>
    if ps_in ((45 + y1)) 83 = true then
    ps_let (σ10.1 335 ((45 + y1)).toNatClampNeg) fun v11 =>
    if ps_in ((45 + y1)) 83 = true then
    ps_let (ps_rI σ10 335 (upd (σ10.1 335) ((45 + y1)).toNatClampNeg ((v11 + 1)))) fun σ12 =>
    if ps_in ((49 + y1)) 83 = true then
    ps_let (σ12.1 335 ((49 + y1)).toNatClampNeg) fun v13 =>
    if ps_in ((49 + y1)) 83 = true then
    ps_let (ps_rI σ12 335 (upd (σ12.1 335) ((49 + y1)).toNatClampNeg ((v13 + 1)))) fun σ14 =>
    qX9_writesOut_25 y1 n σ14
    else none
    else none
    else none
    else none
    else none
    else none
    else none
    else none
    else none
    else none
set_option maxRecDepth 100000 in
theorem L_X9_writesOut_25 {g : pm_G} (D : Nat) (hD : 4 ≤ D) {P : Unit → ps_S → Prop}  (y1 : Int32) : ∀ (n : Nat) (σ : ps_S), ps_ok (qX9_writesOut_25 y1 n σ) (fun res σ => match res with | _ => pm_W g mX9_writesOut (ps_F g D (ps_qV P)) 0 0 107 [some (.ref (g.2.2.1 + 327)), some (.int y1)] [] 345 (ps_E g σ)) → pm_W g mX9_writesOut (ps_F g D (ps_qV P)) 0 0 25 [some (.ref (g.2.2.1 + 327)), some (.int y1)] [] 345 (ps_E g σ) := by
  intro n
  induction n with
  | zero => intro σ hK; exact (ps_no hK).elim
  | succ n ih =>
    intro σ hK
    rw [qX9_writesOut_25] at hK
    refine pm_ald d_X9_writesOut_25 rfl ?_
    refine ps_getR (q := 335) d_X9_writesOut_26 at_327 f_8_0_19 rfl ?_
    refine pm_ki d_X9_writesOut_29 ?_
    refine pm_ild d_X9_writesOut_31 rfl ?_
    refine pm_iadd d_X9_writesOut_32 ?_
    obtain ⟨b24, hT⟩ := ps_gd hK
    replace hK := hT
    clear hT
    refine ps_iald d_X9_writesOut_33 at_335 a_8_8 (ps_in_of b24) rfl ?_
    refine ps_topI (fun v3 ev3 => ?_)
    replace hK := ps_ltE ev3 hK
    refine pm_ki d_X9_writesOut_34 ?_
    refine pm_icmp_lt d_X9_writesOut_36 (fun c4 => ?_) (fun c4 => ?_)
    · replace hK := ps_ifT c4 hK
      exact ps_so hK
    · replace hK := ps_ifF c4 hK
      refine pm_ald d_X9_writesOut_39 rfl ?_
      refine ps_getR (q := 335) d_X9_writesOut_40 at_327 f_8_0_19 rfl ?_
      refine pm_ki d_X9_writesOut_43 ?_
      refine pm_ild d_X9_writesOut_45 rfl ?_
      refine pm_iadd d_X9_writesOut_46 ?_
      obtain ⟨b23, hT⟩ := ps_gd hK
      replace hK := hT
      clear hT
      refine ps_iald d_X9_writesOut_47 at_335 a_8_8 (ps_in_of b23) rfl ?_
      refine ps_topI (fun v5 ev5 => ?_)
      replace hK := ps_ltE ev5 hK
      refine pm_if_le d_X9_writesOut_48 (fun c6 => ?_) (fun c6 => ?_)
      · replace hK := ps_ifT c6 hK
        exact ps_so hK
      · replace hK := ps_ifF c6 hK
        refine pm_ald d_X9_writesOut_51 rfl ?_
        refine ps_getR (q := 335) d_X9_writesOut_52 at_327 f_8_0_19 rfl ?_
        refine pm_ki d_X9_writesOut_55 ?_
        refine pm_ild d_X9_writesOut_57 rfl ?_
        refine pm_iadd d_X9_writesOut_58 ?_
        refine pm_dup2 d_X9_writesOut_59 rfl rfl ?_
        obtain ⟨b22, hT⟩ := ps_gd hK
        replace hK := hT
        clear hT
        refine ps_iald d_X9_writesOut_60 at_335 a_8_8 (ps_in_of b22) rfl ?_
        refine ps_topI (fun v7 ev7 => ?_)
        replace hK := ps_ltE ev7 hK
        refine pm_ki d_X9_writesOut_61 ?_
        refine pm_isub d_X9_writesOut_63 ?_
        obtain ⟨b21, hT⟩ := ps_gd hK
        replace hK := hT
        clear hT
        refine ps_iast d_X9_writesOut_64 at_335 a_8_8 (ps_in_of b21) ?_
        refine ps_nmS (fun σ8 eσ8 => ?_)
        replace hK := ps_ltE eσ8 hK
        refine pm_ald d_X9_writesOut_65 rfl ?_
        refine ps_getR (q := 335) d_X9_writesOut_66 at_327 f_8_0_19 rfl ?_
        refine pm_ki d_X9_writesOut_69 ?_
        refine pm_ild d_X9_writesOut_71 rfl ?_
        refine pm_iadd d_X9_writesOut_72 ?_
        refine pm_dup2 d_X9_writesOut_73 rfl rfl ?_
        obtain ⟨b20, hT⟩ := ps_gd hK
        replace hK := hT
        clear hT
        refine ps_iald d_X9_writesOut_74 at_335 a_8_8 (ps_in_of b20) rfl ?_
        refine ps_topI (fun v9 ev9 => ?_)
        replace hK := ps_ltE ev9 hK
        refine pm_ki d_X9_writesOut_75 ?_
        refine pm_isub d_X9_writesOut_76 ?_
        obtain ⟨b19, hT⟩ := ps_gd hK
        replace hK := hT
        clear hT
        refine ps_iast d_X9_writesOut_77 at_335 a_8_8 (ps_in_of b19) ?_
        refine ps_nmS (fun σ10 eσ10 => ?_)
        replace hK := ps_ltE eσ10 hK
        refine pm_ald d_X9_writesOut_78 rfl ?_
        refine ps_getR (q := 335) d_X9_writesOut_79 at_327 f_8_0_19 rfl ?_
        refine pm_ki d_X9_writesOut_82 ?_
        refine pm_ild d_X9_writesOut_84 rfl ?_
        refine pm_iadd d_X9_writesOut_85 ?_
        refine pm_dup2 d_X9_writesOut_86 rfl rfl ?_
        obtain ⟨b18, hT⟩ := ps_gd hK
        replace hK := hT
        clear hT
        refine ps_iald d_X9_writesOut_87 at_335 a_8_8 (ps_in_of b18) rfl ?_
        refine ps_topI (fun v11 ev11 => ?_)
        replace hK := ps_ltE ev11 hK
        refine pm_ki d_X9_writesOut_88 ?_
        refine pm_iadd d_X9_writesOut_89 ?_
        obtain ⟨b17, hT⟩ := ps_gd hK
        replace hK := hT
        clear hT
        refine ps_iast d_X9_writesOut_90 at_335 a_8_8 (ps_in_of b17) ?_
        refine ps_nmS (fun σ12 eσ12 => ?_)
        replace hK := ps_ltE eσ12 hK
        refine pm_ald d_X9_writesOut_91 rfl ?_
        refine ps_getR (q := 335) d_X9_writesOut_92 at_327 f_8_0_19 rfl ?_
        refine pm_ki d_X9_writesOut_95 ?_
        refine pm_ild d_X9_writesOut_97 rfl ?_
        refine pm_iadd d_X9_writesOut_98 ?_
        refine pm_dup2 d_X9_writesOut_99 rfl rfl ?_
        obtain ⟨b16, hT⟩ := ps_gd hK
        replace hK := hT
        clear hT
        refine ps_iald d_X9_writesOut_100 at_335 a_8_8 (ps_in_of b16) rfl ?_
        refine ps_topI (fun v13 ev13 => ?_)
        replace hK := ps_ltE ev13 hK
        refine pm_ki d_X9_writesOut_101 ?_
        refine pm_iadd d_X9_writesOut_102 ?_
        obtain ⟨b15, hT⟩ := ps_gd hK
        replace hK := hT
        clear hT
        refine ps_iast d_X9_writesOut_103 at_335 a_8_8 (ps_in_of b15) ?_
        refine ps_nmS (fun σ14 eσ14 => ?_)
        replace hK := ps_ltE eσ14 hK
        refine pm_goto d_X9_writesOut_104 ?_
        exact ih _ hK
def qX9_writesOut (p1 : Int32) (σ : ps_S) : Option (Unit × ps_S) :=
  ps_let (σ.1 327 22) fun v1 =>
  if p1 = v1 then
  ps_bd (qX9_writesOut_25 p1 ps_N σ) (fun res σ25 => match res with
  | _ =>
    if ps_in ((29 + p1)) 83 = true then
    ps_let (σ25.1 335 ((29 + p1)).toNatClampNeg) fun v26 =>
    if v26 = 0 then
    if ps_in ((33 + p1)) 83 = true then
    ps_let (ps_rI σ25 335 (upd (σ25.1 335) ((33 + p1)).toNatClampNeg 0)) fun σ28 =>
    some ((), σ28)
    else none
    else
    some ((), σ25)
    else none)
  else
  if ps_in ((33 + p1)) 83 = true then
  ps_let (σ.1 335 ((33 + p1)).toNatClampNeg) fun v31 =>
  ps_bd (qX9_speedNow p1 σ) (fun v32 σ33 =>
  if ps_in ((33 + p1)) 83 = true then
  ps_let (ps_rI σ33 335 (upd (σ33.1 335) ((33 + p1)).toNatClampNeg ((v31 + v32)))) fun σ34 =>
  ps_bd (qX9_writesOut_25 p1 ps_N σ34) (fun res σ35 => match res with
  | _ =>
    if ps_in ((29 + p1)) 83 = true then
    ps_let (σ35.1 335 ((29 + p1)).toNatClampNeg) fun v36 =>
    if v36 = 0 then
    if ps_in ((33 + p1)) 83 = true then
    ps_let (ps_rI σ35 335 (upd (σ35.1 335) ((33 + p1)).toNatClampNeg 0)) fun σ38 =>
    some ((), σ38)
    else none
    else
    some ((), σ35)
    else none)
  else none)
  else none
set_option maxRecDepth 100000 in
theorem C_X9_writesOut {g : pm_G} (p1 : Int32) (σ : ps_S) (P : Unit → ps_S → Prop) (hK : ps_ok (qX9_writesOut p1 σ) P) : ps_C g mX9_writesOut 4 [.ref (g.2.2.1 + 327), .int p1] σ (ps_qV P) := by
  unfold qX9_writesOut at hK
  refine ps_C.of (ls := [some (.ref (g.2.2.1 + 327)), some (.int p1)]) 0 (by decide) rfl (Nat.le_of_ble_eq_true rfl) rfl ?_
  refine pm_ild d_X9_writesOut_0 rfl ?_
  refine pm_ald d_X9_writesOut_1 rfl ?_
  refine ps_getI d_X9_writesOut_2 at_327 f_8_0_22 rfl ?_
  refine ps_topI (fun v1 ev1 => ?_)
  replace hK := ps_ltE ev1 hK
  refine pm_icmp_eq d_X9_writesOut_5 (fun c2 => ?_) (fun c2 => ?_)
  · replace hK := ps_ifT c2 hK
    refine L_X9_writesOut_25 _ (by decide) p1 _ _ (ps_ok.mono (ps_bdE hK) ?_)
    rintro _ σ25 hT
    clear hK
    have hK := hT
    clear hT
    refine pm_ald d_X9_writesOut_107 rfl ?_
    refine ps_getR (q := 335) d_X9_writesOut_108 at_327 f_8_0_19 rfl ?_
    refine pm_ki d_X9_writesOut_111 ?_
    refine pm_ild d_X9_writesOut_113 rfl ?_
    refine pm_iadd d_X9_writesOut_114 ?_
    obtain ⟨b30, hT⟩ := ps_gd hK
    replace hK := hT
    clear hT
    refine ps_iald d_X9_writesOut_115 at_335 a_8_8 (ps_in_of b30) rfl ?_
    refine ps_topI (fun v26 ev26 => ?_)
    replace hK := ps_ltE ev26 hK
    refine pm_if_ne d_X9_writesOut_116 (fun c27 => ?_) (fun c27 => ?_)
    · replace hK := ps_ifF c27 hK
      have hQ := ps_so hK
      exact ps_vret rfl d_X9_writesOut_129 ⟨rfl, hQ⟩
    · replace hK := ps_ifT c27 hK
      refine pm_ald d_X9_writesOut_119 rfl ?_
      refine ps_getR (q := 335) d_X9_writesOut_120 at_327 f_8_0_19 rfl ?_
      refine pm_ki d_X9_writesOut_123 ?_
      refine pm_ild d_X9_writesOut_125 rfl ?_
      refine pm_iadd d_X9_writesOut_126 ?_
      refine pm_ki d_X9_writesOut_127 ?_
      obtain ⟨b29, hT⟩ := ps_gd hK
      replace hK := hT
      clear hT
      refine ps_iast d_X9_writesOut_128 at_335 a_8_8 (ps_in_of b29) ?_
      refine ps_nmS (fun σ28 eσ28 => ?_)
      replace hK := ps_ltE eσ28 hK
      have hQ := ps_so hK
      exact ps_vret rfl d_X9_writesOut_129 ⟨rfl, hQ⟩
  · replace hK := ps_ifF c2 hK
    refine pm_ald d_X9_writesOut_8 rfl ?_
    refine ps_getR (q := 335) d_X9_writesOut_9 at_327 f_8_0_19 rfl ?_
    refine pm_ki d_X9_writesOut_12 ?_
    refine pm_ild d_X9_writesOut_14 rfl ?_
    refine pm_iadd d_X9_writesOut_15 ?_
    refine pm_dup2 d_X9_writesOut_16 rfl rfl ?_
    obtain ⟨b42, hT⟩ := ps_gd hK
    replace hK := hT
    clear hT
    refine ps_iald d_X9_writesOut_17 at_335 a_8_8 (ps_in_of b42) rfl ?_
    refine ps_topI (fun v31 ev31 => ?_)
    replace hK := ps_ltE ev31 hK
    refine pm_ald d_X9_writesOut_18 rfl ?_
    refine pm_ild d_X9_writesOut_19 rfl ?_
    refine ps_cVI d_X9_writesOut_20 mv_X9_speedNow at_327 ob_8_0 rfl (As := [.int p1]) rfl rfl (ps_room.of (by omega) (by decide)) (Nat.le_of_ble_eq_true rfl) (C_X9_speedNow p1 σ _ (ps_bdE hK)) ?_
    intro v32 σ33 hT
    clear hK
    have hK := hT
    clear hT
    refine pm_iadd d_X9_writesOut_23 ?_
    obtain ⟨b41, hT⟩ := ps_gd hK
    replace hK := hT
    clear hT
    refine ps_iast d_X9_writesOut_24 at_335 a_8_8 (ps_in_of b41) ?_
    refine ps_nmS (fun σ34 eσ34 => ?_)
    replace hK := ps_ltE eσ34 hK
    refine L_X9_writesOut_25 _ (by decide) p1 _ _ (ps_ok.mono (ps_bdE hK) ?_)
    rintro _ σ35 hT
    clear hK
    have hK := hT
    clear hT
    refine pm_ald d_X9_writesOut_107 rfl ?_
    refine ps_getR (q := 335) d_X9_writesOut_108 at_327 f_8_0_19 rfl ?_
    refine pm_ki d_X9_writesOut_111 ?_
    refine pm_ild d_X9_writesOut_113 rfl ?_
    refine pm_iadd d_X9_writesOut_114 ?_
    obtain ⟨b40, hT⟩ := ps_gd hK
    replace hK := hT
    clear hT
    refine ps_iald d_X9_writesOut_115 at_335 a_8_8 (ps_in_of b40) rfl ?_
    refine ps_topI (fun v36 ev36 => ?_)
    replace hK := ps_ltE ev36 hK
    refine pm_if_ne d_X9_writesOut_116 (fun c37 => ?_) (fun c37 => ?_)
    · replace hK := ps_ifF c37 hK
      have hQ := ps_so hK
      exact ps_vret rfl d_X9_writesOut_129 ⟨rfl, hQ⟩
    · replace hK := ps_ifT c37 hK
      refine pm_ald d_X9_writesOut_119 rfl ?_
      refine ps_getR (q := 335) d_X9_writesOut_120 at_327 f_8_0_19 rfl ?_
      refine pm_ki d_X9_writesOut_123 ?_
      refine pm_ild d_X9_writesOut_125 rfl ?_
      refine pm_iadd d_X9_writesOut_126 ?_
      refine pm_ki d_X9_writesOut_127 ?_
      obtain ⟨b39, hT⟩ := ps_gd hK
      replace hK := hT
      clear hT
      refine ps_iast d_X9_writesOut_128 at_335 a_8_8 (ps_in_of b39) ?_
      refine ps_nmS (fun σ38 eσ38 => ?_)
      replace hK := ps_ltE eσ38 hK
      have hQ := ps_so hK
      exact ps_vret rfl d_X9_writesOut_129 ⟨rfl, hQ⟩
def qX9_ticksOnce_12  : Nat → Int32 → ps_S → Option (((Int32)) × ps_S)
  | 0, _, _ => none
  | n + 1, x1, σ =>
    ps_let (σ.1 328 1) fun v3 =>
    if v3 ≤ x1 then
    some (x1, σ)
    else
    ps_bd (qX9_writesOut x1 σ) (fun _ σ6 =>
    ps_let (x1 + 1) fun v7 =>
    qX9_ticksOnce_12 n v7 σ6)
set_option maxRecDepth 100000 in
theorem L_X9_ticksOnce_12 {g : pm_G} (D : Nat) (hD : 5 ≤ D) {P : Unit → ps_S → Prop}  : ∀ (n : Nat) (x1 : Int32) (σ : ps_S), ps_ok (qX9_ticksOnce_12 n x1 σ) (fun res σ => match res with | x1 => pm_W g mX9_ticksOnce (ps_F g D (ps_qV P)) 0 0 33 [some (.ref (g.2.2.1 + 327)), some (.int x1)] [] 345 (ps_E g σ)) → pm_W g mX9_ticksOnce (ps_F g D (ps_qV P)) 0 0 12 [some (.ref (g.2.2.1 + 327)), some (.int x1)] [] 345 (ps_E g σ) := by
  intro n
  induction n with
  | zero => intro x1 σ hK; exact (ps_no hK).elim
  | succ n ih =>
    intro x1 σ hK
    rw [qX9_ticksOnce_12] at hK
    refine pm_ild d_X9_ticksOnce_12 rfl ?_
    refine pm_ald d_X9_ticksOnce_13 rfl ?_
    refine ps_getR (q := 328) d_X9_ticksOnce_14 at_327 f_8_0_1 rfl ?_
    refine pm_ki d_X9_ticksOnce_17 ?_
    refine ps_iald (x := σ.1 328 1) d_X9_ticksOnce_18 at_328 a_8_1 (ps_in_of rfl) rfl ?_
    refine ps_topI (fun v3 ev3 => ?_)
    replace hK := ps_ltE ev3 hK
    refine pm_icmp_ge d_X9_ticksOnce_19 (fun c4 => ?_) (fun c4 => ?_)
    · replace hK := ps_ifT c4 hK
      exact ps_so hK
    · replace hK := ps_ifF c4 hK
      refine pm_ald d_X9_ticksOnce_22 rfl ?_
      refine pm_ild d_X9_ticksOnce_23 rfl ?_
      refine ps_cVV d_X9_ticksOnce_24 mv_X9_writesOut at_327 ob_8_0 rfl (As := [.int x1]) rfl rfl (ps_room.of (by omega) (by decide)) (Nat.le_of_ble_eq_true rfl) (C_X9_writesOut x1 σ _ (ps_bdE hK)) ?_
      intro σ6 hT
      clear hK
      have hK := hT
      clear hT
      refine pm_inc1 d_X9_ticksOnce_27 rfl ?_
      obtain ⟨v7, ev7⟩ : ∃ y : Int32, y = x1 + 1 := ⟨_, rfl⟩
      rw [← ev7]
      replace hK := ps_ltE ev7 hK
      refine pm_goto d_X9_ticksOnce_30 ?_
      exact ih _ _ hK
def qX9_ticksOnce_35  : Nat → Int32 → ps_S → Option (((Int32)) × ps_S)
  | 0, _, _ => none
  | n + 1, x1, σ =>
    ps_let (σ.1 328 1) fun v10 =>
    if v10 ≤ x1 then
    some (x1, σ)
    else
    ps_let (σ.1 335 0) fun v12 =>
    ps_let (σ.1 328 14) fun v13 =>
    if v13 = 0 then none else
    if ((v12 - v12 / v13 * v13)) = 0 then
    ps_bd (qX9_estimates x1 σ) (fun _ σ16 =>
    ps_let (x1 + 1) fun v17 =>
    qX9_ticksOnce_35 n v17 σ16)
    else
    some (x1, σ)
set_option maxRecDepth 100000 in
theorem L_X9_ticksOnce_35 {g : pm_G} (D : Nat) (hD : 5 ≤ D) {P : Unit → ps_S → Prop}  : ∀ (n : Nat) (x1 : Int32) (σ : ps_S), ps_ok (qX9_ticksOnce_35 n x1 σ) (fun res σ => match res with | x1 => pm_W g mX9_ticksOnce (ps_F g D (ps_qV P)) 0 0 73 [some (.ref (g.2.2.1 + 327)), some (.int x1)] [] 345 (ps_E g σ)) → pm_W g mX9_ticksOnce (ps_F g D (ps_qV P)) 0 0 35 [some (.ref (g.2.2.1 + 327)), some (.int x1)] [] 345 (ps_E g σ) := by
  intro n
  induction n with
  | zero => intro x1 σ hK; exact (ps_no hK).elim
  | succ n ih =>
    intro x1 σ hK
    rw [qX9_ticksOnce_35] at hK
    refine pm_ild d_X9_ticksOnce_35 rfl ?_
    refine pm_ald d_X9_ticksOnce_36 rfl ?_
    refine ps_getR (q := 328) d_X9_ticksOnce_37 at_327 f_8_0_1 rfl ?_
    refine pm_ki d_X9_ticksOnce_40 ?_
    refine ps_iald (x := σ.1 328 1) d_X9_ticksOnce_41 at_328 a_8_1 (ps_in_of rfl) rfl ?_
    refine ps_topI (fun v10 ev10 => ?_)
    replace hK := ps_ltE ev10 hK
    refine pm_icmp_ge d_X9_ticksOnce_42 (fun c11 => ?_) (fun c11 => ?_)
    · replace hK := ps_ifT c11 hK
      exact ps_so hK
    · replace hK := ps_ifF c11 hK
      refine pm_ald d_X9_ticksOnce_45 rfl ?_
      refine ps_getR (q := 335) d_X9_ticksOnce_46 at_327 f_8_0_19 rfl ?_
      refine pm_ki d_X9_ticksOnce_49 ?_
      refine ps_iald (x := σ.1 335 0) d_X9_ticksOnce_50 at_335 a_8_8 (ps_in_of rfl) rfl ?_
      refine ps_topI (fun v12 ev12 => ?_)
      replace hK := ps_ltE ev12 hK
      refine pm_ald d_X9_ticksOnce_51 rfl ?_
      refine ps_getR (q := 328) d_X9_ticksOnce_52 at_327 f_8_0_1 rfl ?_
      refine pm_ki d_X9_ticksOnce_55 ?_
      refine ps_iald (x := σ.1 328 14) d_X9_ticksOnce_57 at_328 a_8_1 (ps_in_of rfl) rfl ?_
      refine ps_topI (fun v13 ev13 => ?_)
      replace hK := ps_ltE ev13 hK
      by_cases z18 : v13 = 0
      · exact (ps_no (ps_ifT z18 hK)).elim
      replace hK := ps_ifF z18 hK
      refine pm_irem d_X9_ticksOnce_58 z18 ?_
      refine pm_if_ne d_X9_ticksOnce_59 (fun c14 => ?_) (fun c14 => ?_)
      · replace hK := ps_ifF c14 hK
        exact ps_so hK
      · replace hK := ps_ifT c14 hK
        refine pm_ald d_X9_ticksOnce_62 rfl ?_
        refine pm_ild d_X9_ticksOnce_63 rfl ?_
        refine ps_cVV d_X9_ticksOnce_64 mv_X9_estimates at_327 ob_8_0 rfl (As := [.int x1]) rfl rfl (ps_room.of (by omega) (by decide)) (Nat.le_of_ble_eq_true rfl) (C_X9_estimates x1 σ _ (ps_bdE hK)) ?_
        intro σ16 hT
        clear hK
        have hK := hT
        clear hT
        refine pm_inc1 d_X9_ticksOnce_67 rfl ?_
        obtain ⟨v17, ev17⟩ : ∃ y : Int32, y = x1 + 1 := ⟨_, rfl⟩
        rw [← ev17]
        replace hK := ps_ltE ev17 hK
        refine pm_goto d_X9_ticksOnce_70 ?_
        exact ih _ _ hK
def qX9_ticksOnce_75  : Nat → Int32 → ps_S → Option (((Int32)) × ps_S)
  | 0, _, _ => none
  | n + 1, x1, σ =>
    ps_let (σ.1 328 1) fun v21 =>
    if v21 ≤ x1 then
    some (x1, σ)
    else
    ps_bd (qX9_takesUp x1 σ) (fun _ σ24 =>
    ps_let (x1 + 1) fun v25 =>
    qX9_ticksOnce_75 n v25 σ24)
set_option maxRecDepth 100000 in
theorem L_X9_ticksOnce_75 {g : pm_G} (D : Nat) (hD : 5 ≤ D) {P : Unit → ps_S → Prop}  : ∀ (n : Nat) (x1 : Int32) (σ : ps_S), ps_ok (qX9_ticksOnce_75 n x1 σ) (fun res σ => match res with | x1 => pm_W g mX9_ticksOnce (ps_F g D (ps_qV P)) 0 0 96 [some (.ref (g.2.2.1 + 327)), some (.int x1)] [] 345 (ps_E g σ)) → pm_W g mX9_ticksOnce (ps_F g D (ps_qV P)) 0 0 75 [some (.ref (g.2.2.1 + 327)), some (.int x1)] [] 345 (ps_E g σ) := by
  intro n
  induction n with
  | zero => intro x1 σ hK; exact (ps_no hK).elim
  | succ n ih =>
    intro x1 σ hK
    rw [qX9_ticksOnce_75] at hK
    refine pm_ild d_X9_ticksOnce_75 rfl ?_
    refine pm_ald d_X9_ticksOnce_76 rfl ?_
    refine ps_getR (q := 328) d_X9_ticksOnce_77 at_327 f_8_0_1 rfl ?_
    refine pm_ki d_X9_ticksOnce_80 ?_
    refine ps_iald (x := σ.1 328 1) d_X9_ticksOnce_81 at_328 a_8_1 (ps_in_of rfl) rfl ?_
    refine ps_topI (fun v21 ev21 => ?_)
    replace hK := ps_ltE ev21 hK
    refine pm_icmp_ge d_X9_ticksOnce_82 (fun c22 => ?_) (fun c22 => ?_)
    · replace hK := ps_ifT c22 hK
      exact ps_so hK
    · replace hK := ps_ifF c22 hK
      refine pm_ald d_X9_ticksOnce_85 rfl ?_
      refine pm_ild d_X9_ticksOnce_86 rfl ?_
      refine ps_cVV d_X9_ticksOnce_87 mv_X9_takesUp at_327 ob_8_0 rfl (As := [.int x1]) rfl rfl (ps_room.of (by omega) (by decide)) (Nat.le_of_ble_eq_true rfl) (C_X9_takesUp x1 σ _ (ps_bdE hK)) ?_
      intro σ24 hT
      clear hK
      have hK := hT
      clear hT
      refine pm_inc1 d_X9_ticksOnce_90 rfl ?_
      obtain ⟨v25, ev25⟩ : ∃ y : Int32, y = x1 + 1 := ⟨_, rfl⟩
      rw [← ev25]
      replace hK := ps_ltE ev25 hK
      refine pm_goto d_X9_ticksOnce_93 ?_
      exact ih _ _ hK
def qX9_ticksOnce_98  : Nat → Int32 → ps_S → Option (((Int32)) × ps_S)
  | 0, _, _ => none
  | n + 1, x1, σ =>
    ps_let (σ.1 328 3) fun v28 =>
    if v28 ≤ x1 then
    some (x1, σ)
    else
    ps_let (σ.1 327 25) fun v30 =>
    if v30 = 0 then
    some (x1, σ)
    else
    ps_let (σ.1 335 0) fun v32 =>
    ps_let (σ.1 328 3) fun v33 =>
    if v33 = 0 then none else
    ps_let (σ.1 328 3) fun v34 =>
    if v34 = 0 then none else
    ps_bd (qX9_writes ((((((v32 - v32 / v33 * v33)) + x1)) - ((((v32 - v32 / v33 * v33)) + x1)) / v34 * v34)) σ) (fun _ σ36 =>
    ps_let (x1 + 1) fun v37 =>
    qX9_ticksOnce_98 n v37 σ36)
set_option maxRecDepth 100000 in
theorem L_X9_ticksOnce_98 {g : pm_G} (D : Nat) (hD : 5 ≤ D) {P : Unit → ps_S → Prop}  : ∀ (n : Nat) (x1 : Int32) (σ : ps_S), ps_ok (qX9_ticksOnce_98 n x1 σ) (fun res σ => match res with | x1 => pm_W g mX9_ticksOnce (ps_F g D (ps_qV P)) 0 0 147 [some (.ref (g.2.2.1 + 327)), some (.int x1)] [] 345 (ps_E g σ)) → pm_W g mX9_ticksOnce (ps_F g D (ps_qV P)) 0 0 98 [some (.ref (g.2.2.1 + 327)), some (.int x1)] [] 345 (ps_E g σ) := by
  intro n
  induction n with
  | zero => intro x1 σ hK; exact (ps_no hK).elim
  | succ n ih =>
    intro x1 σ hK
    rw [qX9_ticksOnce_98] at hK
    refine pm_ild d_X9_ticksOnce_98 rfl ?_
    refine pm_ald d_X9_ticksOnce_99 rfl ?_
    refine ps_getR (q := 328) d_X9_ticksOnce_100 at_327 f_8_0_1 rfl ?_
    refine pm_ki d_X9_ticksOnce_103 ?_
    refine ps_iald (x := σ.1 328 3) d_X9_ticksOnce_104 at_328 a_8_1 (ps_in_of rfl) rfl ?_
    refine ps_topI (fun v28 ev28 => ?_)
    replace hK := ps_ltE ev28 hK
    refine pm_icmp_ge d_X9_ticksOnce_105 (fun c29 => ?_) (fun c29 => ?_)
    · replace hK := ps_ifT c29 hK
      exact ps_so hK
    · replace hK := ps_ifF c29 hK
      refine pm_ald d_X9_ticksOnce_108 rfl ?_
      refine ps_getI d_X9_ticksOnce_109 at_327 f_8_0_25 rfl ?_
      refine ps_topI (fun v30 ev30 => ?_)
      replace hK := ps_ltE ev30 hK
      refine pm_if_eq d_X9_ticksOnce_112 (fun c31 => ?_) (fun c31 => ?_)
      · replace hK := ps_ifT c31 hK
        exact ps_so hK
      · replace hK := ps_ifF c31 hK
        refine pm_ald d_X9_ticksOnce_115 rfl ?_
        refine pm_ald d_X9_ticksOnce_116 rfl ?_
        refine ps_getR (q := 335) d_X9_ticksOnce_117 at_327 f_8_0_19 rfl ?_
        refine pm_ki d_X9_ticksOnce_120 ?_
        refine ps_iald (x := σ.1 335 0) d_X9_ticksOnce_121 at_335 a_8_8 (ps_in_of rfl) rfl ?_
        refine ps_topI (fun v32 ev32 => ?_)
        replace hK := ps_ltE ev32 hK
        refine pm_ald d_X9_ticksOnce_122 rfl ?_
        refine ps_getR (q := 328) d_X9_ticksOnce_123 at_327 f_8_0_1 rfl ?_
        refine pm_ki d_X9_ticksOnce_126 ?_
        refine ps_iald (x := σ.1 328 3) d_X9_ticksOnce_127 at_328 a_8_1 (ps_in_of rfl) rfl ?_
        refine ps_topI (fun v33 ev33 => ?_)
        replace hK := ps_ltE ev33 hK
        by_cases z39 : v33 = 0
        · exact (ps_no (ps_ifT z39 hK)).elim
        replace hK := ps_ifF z39 hK
        refine pm_irem d_X9_ticksOnce_128 z39 ?_
        refine pm_ild d_X9_ticksOnce_129 rfl ?_
        refine pm_iadd d_X9_ticksOnce_130 ?_
        refine pm_ald d_X9_ticksOnce_131 rfl ?_
        refine ps_getR (q := 328) d_X9_ticksOnce_132 at_327 f_8_0_1 rfl ?_
        refine pm_ki d_X9_ticksOnce_135 ?_
        refine ps_iald (x := σ.1 328 3) d_X9_ticksOnce_136 at_328 a_8_1 (ps_in_of rfl) rfl ?_
        refine ps_topI (fun v34 ev34 => ?_)
        replace hK := ps_ltE ev34 hK
        by_cases z38 : v34 = 0
        · exact (ps_no (ps_ifT z38 hK)).elim
        replace hK := ps_ifF z38 hK
        refine pm_irem d_X9_ticksOnce_137 z38 ?_
        refine ps_cVV d_X9_ticksOnce_138 mv_X9_writes at_327 ob_8_0 rfl (As := [.int (((((v32 - v32 / v33 * v33)) + x1)) - ((((v32 - v32 / v33 * v33)) + x1)) / v34 * v34)]) rfl rfl (ps_room.of (by omega) (by decide)) (Nat.le_of_ble_eq_true rfl) (C_X9_writes ((((((v32 - v32 / v33 * v33)) + x1)) - ((((v32 - v32 / v33 * v33)) + x1)) / v34 * v34)) σ _ (ps_bdE hK)) ?_
        intro σ36 hT
        clear hK
        have hK := hT
        clear hT
        refine pm_inc1 d_X9_ticksOnce_141 rfl ?_
        obtain ⟨v37, ev37⟩ : ∃ y : Int32, y = x1 + 1 := ⟨_, rfl⟩
        rw [← ev37]
        replace hK := ps_ltE ev37 hK
        refine pm_goto d_X9_ticksOnce_144 ?_
        exact ih _ _ hK
def qX9_ticksOnce  (σ : ps_S) : Option (Unit × ps_S) :=
  ps_let (σ.1 335 0) fun v1 =>
  ps_let (ps_rI σ 335 (upd (σ.1 335) 0 ((v1 + 1)))) fun σ2 =>
  ps_bd (qX9_ticksOnce_12 ps_N 0 σ2) (fun res σ8 => match res with
  | v9 =>
    ps_bd (qX9_ticksOnce_35 ps_N 0 σ8) (fun res σ19 => match res with
    | v20 =>
      ps_bd (qX9_ticksOnce_75 ps_N 0 σ19) (fun res σ26 => match res with
      | v27 =>
        ps_bd (qX9_ticksOnce_98 ps_N 0 σ26) (fun res σ40 => match res with
        | v41 =>
          some ((), σ40)))))
set_option maxRecDepth 100000 in
theorem C_X9_ticksOnce {g : pm_G}  (σ : ps_S) (P : Unit → ps_S → Prop) (hK : ps_ok (qX9_ticksOnce  σ) P) : ps_C g mX9_ticksOnce 5 [.ref (g.2.2.1 + 327)] σ (ps_qV P) := by
  unfold qX9_ticksOnce at hK
  refine ps_C.of (ls := [some (.ref (g.2.2.1 + 327)), none]) 1 (by decide) rfl (Nat.le_of_ble_eq_true rfl) rfl ?_
  refine pm_ald d_X9_ticksOnce_0 rfl ?_
  refine ps_getR (q := 335) d_X9_ticksOnce_1 at_327 f_8_0_19 rfl ?_
  refine pm_ki d_X9_ticksOnce_4 ?_
  refine pm_dup2 d_X9_ticksOnce_5 rfl rfl ?_
  refine ps_iald (x := σ.1 335 0) d_X9_ticksOnce_6 at_335 a_8_8 (ps_in_of rfl) rfl ?_
  refine ps_topI (fun v1 ev1 => ?_)
  replace hK := ps_ltE ev1 hK
  refine pm_ki d_X9_ticksOnce_7 ?_
  refine pm_iadd d_X9_ticksOnce_8 ?_
  refine ps_iast d_X9_ticksOnce_9 at_335 a_8_8 (ps_in_of rfl) ?_
  refine ps_nmS (fun σ2 eσ2 => ?_)
  replace hK := ps_ltE eσ2 hK
  refine pm_ki d_X9_ticksOnce_10 ?_
  refine pm_ist1 d_X9_ticksOnce_11 rfl (by decide) ?_
  refine L_X9_ticksOnce_12 _ (by decide) _ _ _ (ps_ok.mono (ps_bdE hK) ?_)
  rintro v9 σ8 hT
  clear hK
  have hK := hT
  clear hT
  refine pm_ki d_X9_ticksOnce_33 ?_
  refine pm_ist1 d_X9_ticksOnce_34 rfl (by decide) ?_
  refine L_X9_ticksOnce_35 _ (by decide) _ _ _ (ps_ok.mono (ps_bdE hK) ?_)
  rintro v20 σ19 hT
  clear hK
  have hK := hT
  clear hT
  refine pm_ki d_X9_ticksOnce_73 ?_
  refine pm_ist1 d_X9_ticksOnce_74 rfl (by decide) ?_
  refine L_X9_ticksOnce_75 _ (by decide) _ _ _ (ps_ok.mono (ps_bdE hK) ?_)
  rintro v27 σ26 hT
  clear hK
  have hK := hT
  clear hT
  refine pm_ki d_X9_ticksOnce_96 ?_
  refine pm_ist1 d_X9_ticksOnce_97 rfl (by decide) ?_
  refine L_X9_ticksOnce_98 _ (by decide) _ _ _ (ps_ok.mono (ps_bdE hK) ?_)
  rintro v41 σ40 hT
  clear hK
  have hK := hT
  clear hT
  have hQ := ps_so hK
  exact ps_vret rfl d_X9_ticksOnce_147 ⟨rfl, hQ⟩
def qX9_ticksFor_2  (y1 : Int32) : Nat → Int32 → ps_S → Option (((Int32)) × ps_S)
  | 0, _, _ => none
  | n + 1, x2, σ =>
    if y1 ≤ x2 then
    some (x2, σ)
    else
    ps_bd (qX9_ticksOnce σ) (fun _ σ3 =>
    ps_let (x2 + 1) fun v4 =>
    qX9_ticksFor_2 y1 n v4 σ3)
set_option maxRecDepth 100000 in
theorem L_X9_ticksFor_2 {g : pm_G} (D : Nat) (hD : 6 ≤ D) {P : Unit → ps_S → Prop}  (y1 : Int32) : ∀ (n : Nat) (x2 : Int32) (σ : ps_S), ps_ok (qX9_ticksFor_2 y1 n x2 σ) (fun res σ => match res with | x2 => pm_W g mX9_ticksFor (ps_F g D (ps_qV P)) 0 0 17 [some (.ref (g.2.2.1 + 327)), some (.int y1), some (.int x2)] [] 345 (ps_E g σ)) → pm_W g mX9_ticksFor (ps_F g D (ps_qV P)) 0 0 2 [some (.ref (g.2.2.1 + 327)), some (.int y1), some (.int x2)] [] 345 (ps_E g σ) := by
  intro n
  induction n with
  | zero => intro x2 σ hK; exact (ps_no hK).elim
  | succ n ih =>
    intro x2 σ hK
    rw [qX9_ticksFor_2] at hK
    refine pm_ild d_X9_ticksFor_2 rfl ?_
    refine pm_ild d_X9_ticksFor_3 rfl ?_
    refine pm_icmp_ge d_X9_ticksFor_4 (fun c1 => ?_) (fun c1 => ?_)
    · replace hK := ps_ifT c1 hK
      exact ps_so hK
    · replace hK := ps_ifF c1 hK
      refine pm_ald d_X9_ticksFor_7 rfl ?_
      refine ps_cVV d_X9_ticksFor_8 mv_X9_ticksOnce at_327 ob_8_0 rfl (As := []) rfl rfl (ps_room.of (by omega) (by decide)) (Nat.le_of_ble_eq_true rfl) (C_X9_ticksOnce σ _ (ps_bdE hK)) ?_
      intro σ3 hT
      clear hK
      have hK := hT
      clear hT
      refine pm_inc2 d_X9_ticksFor_11 rfl ?_
      obtain ⟨v4, ev4⟩ : ∃ y : Int32, y = x2 + 1 := ⟨_, rfl⟩
      rw [← ev4]
      replace hK := ps_ltE ev4 hK
      refine pm_goto d_X9_ticksFor_14 ?_
      exact ih _ _ hK
def qX9_ticksFor (p1 : Int32) (σ : ps_S) : Option (Unit × ps_S) :=
  ps_bd (qX9_ticksFor_2 p1 ps_N 0 σ) (fun res σ5 => match res with
  | v6 =>
    some ((), σ5))
set_option maxRecDepth 100000 in
theorem C_X9_ticksFor {g : pm_G} (p1 : Int32) (σ : ps_S) (P : Unit → ps_S → Prop) (hK : ps_ok (qX9_ticksFor p1 σ) P) : ps_C g mX9_ticksFor 6 [.ref (g.2.2.1 + 327), .int p1] σ (ps_qV P) := by
  unfold qX9_ticksFor at hK
  refine ps_C.of (ls := [some (.ref (g.2.2.1 + 327)), some (.int p1), none]) 1 (by decide) rfl (Nat.le_of_ble_eq_true rfl) rfl ?_
  refine pm_ki d_X9_ticksFor_0 ?_
  refine pm_ist2 d_X9_ticksFor_1 rfl (by decide) ?_
  refine L_X9_ticksFor_2 _ (by decide) p1 _ _ _ (ps_ok.mono (ps_bdE hK) ?_)
  rintro v6 σ5 hT
  clear hK
  have hK := hT
  clear hT
  have hQ := ps_so hK
  exact ps_vret rfl d_X9_ticksFor_17 ⟨rfl, hQ⟩
def qX9_bears_35  (y1 : Int32) (y2 : Int32) : Nat → Int32 → ps_S → Option ((Int32 ⊕ (Int32)) × ps_S)
  | 0, _, _ => none
  | n + 1, x3, σ =>
    if x3 < 0 then
    some (.inr x3, σ)
    else
    ps_bd (qX9_begins σ) (fun _ σ10 =>
    if ps_in ((53 + y1)) 83 = true then
    ps_let (ps_rI σ10 335 (upd (σ10.1 335) ((53 + y1)).toNatClampNeg x3)) fun σ11 =>
    if ps_in ((77 + y1)) 83 = true then
    ps_let (σ11.1 335 ((77 + y1)).toNatClampNeg) fun v12 =>
    ps_bd (qX9_ticksFor y2 σ11) (fun _ σ14 =>
    if ps_in ((77 + y1)) 83 = true then
    ps_let (σ14.1 335 ((77 + y1)).toNatClampNeg) fun v15 =>
    if v15 = v12 then
    some (.inl x3, σ14)
    else
    ps_let (x3 + (-1)) fun v17 =>
    qX9_bears_35 y1 y2 n v17 σ14
    else none)
    else none
    else none)
set_option maxRecDepth 100000 in
theorem L_X9_bears_35 {g : pm_G} (D : Nat) (hD : 7 ≤ D) {P : Int32 → ps_S → Prop}  (y1 : Int32) (y2 : Int32) : ∀ (n : Nat) (x3 : Int32) (σ : ps_S), ps_ok (qX9_bears_35 y1 y2 n x3 σ) (fun res σ => match res with | .inl r => P r σ | .inr x3 => pm_W g mX9_bears (ps_F g D (ps_qI P)) 0 0 91 [some (.ref (g.2.2.1 + 327)), some (.int y1), some (.int y2), some (.int x3), none] [] 345 (ps_E g σ)) → pm_W g mX9_bears (ps_F g D (ps_qI P)) 0 0 35 [some (.ref (g.2.2.1 + 327)), some (.int y1), some (.int y2), some (.int x3), none] [] 345 (ps_E g σ) := by
  intro n
  induction n with
  | zero => intro x3 σ hK; exact (ps_no hK).elim
  | succ n ih =>
    intro x3 σ hK
    rw [qX9_bears_35] at hK
    refine pm_ild d_X9_bears_35 rfl ?_
    refine pm_if_lt d_X9_bears_36 (fun c8 => ?_) (fun c8 => ?_)
    · replace hK := ps_ifT c8 hK
      exact ps_so hK
    · replace hK := ps_ifF c8 hK
      refine pm_ald d_X9_bears_39 rfl ?_
      refine ps_cVV d_X9_bears_40 mv_X9_begins at_327 ob_8_0 rfl (As := []) rfl rfl (ps_room.of (by omega) (by decide)) (Nat.le_of_ble_eq_true rfl) (C_X9_begins σ _ (ps_bdE hK)) ?_
      intro σ10 hT
      clear hK
      have hK := hT
      clear hT
      refine pm_ald d_X9_bears_43 rfl ?_
      refine ps_getR (q := 335) d_X9_bears_44 at_327 f_8_0_19 rfl ?_
      refine pm_ki d_X9_bears_47 ?_
      refine pm_ild d_X9_bears_49 rfl ?_
      refine pm_iadd d_X9_bears_50 ?_
      refine pm_ild d_X9_bears_51 rfl ?_
      obtain ⟨b20, hT⟩ := ps_gd hK
      replace hK := hT
      clear hT
      refine ps_iast d_X9_bears_52 at_335 a_8_8 (ps_in_of b20) ?_
      refine ps_nmS (fun σ11 eσ11 => ?_)
      replace hK := ps_ltE eσ11 hK
      refine pm_ald d_X9_bears_53 rfl ?_
      refine ps_getR (q := 335) d_X9_bears_54 at_327 f_8_0_19 rfl ?_
      refine pm_ki d_X9_bears_57 ?_
      refine pm_ild d_X9_bears_59 rfl ?_
      refine pm_iadd d_X9_bears_60 ?_
      obtain ⟨b19, hT⟩ := ps_gd hK
      replace hK := hT
      clear hT
      refine ps_iald d_X9_bears_61 at_335 a_8_8 (ps_in_of b19) rfl ?_
      refine ps_topI (fun v12 ev12 => ?_)
      replace hK := ps_ltE ev12 hK
      refine pm_ist4 d_X9_bears_62 rfl (by decide) ?_
      refine pm_ald d_X9_bears_64 rfl ?_
      refine pm_ild d_X9_bears_65 rfl ?_
      refine ps_cVV d_X9_bears_66 mv_X9_ticksFor at_327 ob_8_0 rfl (As := [.int y2]) rfl rfl (ps_room.of (by omega) (by decide)) (Nat.le_of_ble_eq_true rfl) (C_X9_ticksFor y2 σ11 _ (ps_bdE hK)) ?_
      intro σ14 hT
      clear hK
      have hK := hT
      clear hT
      refine pm_ald d_X9_bears_69 rfl ?_
      refine ps_getR (q := 335) d_X9_bears_70 at_327 f_8_0_19 rfl ?_
      refine pm_ki d_X9_bears_73 ?_
      refine pm_ild d_X9_bears_75 rfl ?_
      refine pm_iadd d_X9_bears_76 ?_
      obtain ⟨b18, hT⟩ := ps_gd hK
      replace hK := hT
      clear hT
      refine ps_iald d_X9_bears_77 at_335 a_8_8 (ps_in_of b18) rfl ?_
      refine ps_topI (fun v15 ev15 => ?_)
      replace hK := ps_ltE ev15 hK
      refine pm_ild d_X9_bears_78 rfl ?_
      refine pm_icmp_ne d_X9_bears_80 (fun c16 => ?_) (fun c16 => ?_)
      · replace hK := ps_ifF c16 hK
        refine pm_inc3 d_X9_bears_85 rfl ?_
        obtain ⟨v17, ev17⟩ : ∃ y : Int32, y = x3 + (-1) := ⟨_, rfl⟩
        rw [← ev17]
        replace hK := ps_ltE ev17 hK
        refine pm_goto d_X9_bears_88 ?_
        refine pm_wk (ls' := [some (.ref (g.2.2.1 + 327)), some (.int y1), some (.int y2), some (.int v17), none]) ⟨rfl, ⟨rfl, ⟨rfl, ⟨rfl, trivial⟩⟩⟩⟩ ?_
        exact ih _ _ hK
      · replace hK := ps_ifT c16 hK
        refine pm_ild d_X9_bears_83 rfl ?_
        have hQ := ps_so hK
        exact ps_iret rfl d_X9_bears_84 ⟨_, rfl, hQ⟩
def qX9_bears (p1 : Int32) (p2 : Int32) (σ : ps_S) : Option (Int32 × ps_S) :=
  ps_let (ps_rI σ 327 (upd (σ.1 327) 0 0)) fun σ1 =>
  ps_bd (qX9_isWriter (((p1).toInt64)) σ1) (fun v2 σ3 =>
  if v2 = 0 then
  some ((-2), σ3)
  else
  ps_bd (qX9_within (((p2).toInt64)) 1 99 σ3) (fun v5 σ6 =>
  if v5 = 0 then
  some ((-3), σ6)
  else
  ps_bd (qX9_bears_35 p1 p2 ps_N 99 σ6) (fun res σ21 => match res with
  | .inl r => some (r, σ21)
  | .inr v22 =>
    some ((-1), σ21))))
set_option maxRecDepth 100000 in
theorem C_X9_bears {g : pm_G} (p1 : Int32) (p2 : Int32) (σ : ps_S) (P : Int32 → ps_S → Prop) (hK : ps_ok (qX9_bears p1 p2 σ) P) : ps_C g mX9_bears 7 [.ref (g.2.2.1 + 327), .int p1, .int p2] σ (ps_qI P) := by
  unfold qX9_bears at hK
  refine ps_C.of (ls := [some (.ref (g.2.2.1 + 327)), some (.int p1), some (.int p2), none, none]) 2 (by decide) rfl (Nat.le_of_ble_eq_true rfl) rfl ?_
  refine pm_ald d_X9_bears_0 rfl ?_
  refine pm_ki d_X9_bears_1 ?_
  refine ps_putI d_X9_bears_2 at_327 f_8_0_0 rfl rfl ?_
  refine ps_nmS (fun σ1 eσ1 => ?_)
  replace hK := ps_ltE eσ1 hK
  refine pm_ald d_X9_bears_5 rfl ?_
  refine pm_ild d_X9_bears_6 rfl ?_
  refine pm_i2l d_X9_bears_7 ?_
  refine ps_cVI d_X9_bears_8 mv_X9_isWriter at_327 ob_8_0 rfl (As := [.long ((p1).toInt64)]) rfl rfl (ps_room.of (by omega) (by decide)) (Nat.le_of_ble_eq_true rfl) (C_X9_isWriter (((p1).toInt64)) σ1 _ (ps_bdE hK)) ?_
  intro v2 σ3 hT
  clear hK
  have hK := hT
  clear hT
  refine pm_if_ne d_X9_bears_11 (fun c4 => ?_) (fun c4 => ?_)
  · replace hK := ps_ifF c4 hK
    refine pm_ild d_X9_bears_17 rfl ?_
    refine pm_i2l d_X9_bears_18 ?_
    refine pm_kl d_X9_bears_19 ?_
    refine pm_kl d_X9_bears_20 ?_
    refine ps_cSI d_X9_bears_23 ms_X9_within (As := [.long ((p2).toInt64), .long 1, .long 99]) rfl rfl (ps_room.of (by omega) (by decide)) (Nat.le_of_ble_eq_true rfl) (C_X9_within (((p2).toInt64)) 1 99 σ3 _ (ps_bdE hK)) ?_
    intro v5 σ6 hT
    clear hK
    have hK := hT
    clear hT
    refine pm_if_ne d_X9_bears_26 (fun c7 => ?_) (fun c7 => ?_)
    · replace hK := ps_ifF c7 hK
      refine pm_ki d_X9_bears_32 ?_
      refine pm_ist3 d_X9_bears_34 rfl (by decide) ?_
      refine L_X9_bears_35 _ (by decide) p1 p2 _ _ _ (ps_ok.mono (ps_bdE hK) ?_)
      intro res σ21 hT
      clear hK
      match res, hT with
      | .inl r, hT => exact ps_so hT
      | .inr v22, hT =>
        have hK := hT
        clear hT
        refine pm_ki d_X9_bears_91 ?_
        have hQ := ps_so hK
        exact ps_iret rfl d_X9_bears_92 ⟨_, rfl, hQ⟩
    · replace hK := ps_ifT c7 hK
      refine pm_ki d_X9_bears_29 ?_
      have hQ := ps_so hK
      exact ps_iret rfl d_X9_bears_31 ⟨_, rfl, hQ⟩
  · replace hK := ps_ifT c4 hK
    refine pm_ki d_X9_bears_14 ?_
    have hQ := ps_so hK
    exact ps_iret rfl d_X9_bears_16 ⟨_, rfl, hQ⟩
def qX9_isDevice (p1 : Int64) (σ : ps_S) : Option (Int32 × ps_S) :=
  ps_let (σ.1 328 1) fun v1 =>
  ps_bd (qX9_within p1 0 ((((v1 - 1)).toInt64)) σ) (fun v2 σ3 =>
  if ps_b01 v2 = true then some (v2, σ3) else none)
set_option maxRecDepth 100000 in
theorem C_X9_isDevice {g : pm_G} (p1 : Int64) (σ : ps_S) (P : Int32 → ps_S → Prop) (hK : ps_ok (qX9_isDevice p1 σ) P) : ps_C g mX9_isDevice 2 [.ref (g.2.2.1 + 327), .long p1] σ (ps_qI P) := by
  unfold qX9_isDevice at hK
  refine ps_C.of (ls := [some (.ref (g.2.2.1 + 327)), some (.long p1), none]) 0 (by decide) rfl (Nat.le_of_ble_eq_true rfl) rfl ?_
  refine pm_lld d_X9_isDevice_0 rfl ?_
  refine pm_kl d_X9_isDevice_1 ?_
  refine pm_ald d_X9_isDevice_2 rfl ?_
  refine ps_getR (q := 328) d_X9_isDevice_3 at_327 f_8_0_1 rfl ?_
  refine pm_ki d_X9_isDevice_6 ?_
  refine ps_iald (x := σ.1 328 1) d_X9_isDevice_7 at_328 a_8_1 (ps_in_of rfl) rfl ?_
  refine ps_topI (fun v1 ev1 => ?_)
  replace hK := ps_ltE ev1 hK
  refine pm_ki d_X9_isDevice_8 ?_
  refine pm_isub d_X9_isDevice_9 ?_
  refine pm_i2l d_X9_isDevice_10 ?_
  refine ps_cSI d_X9_isDevice_11 ms_X9_within (As := [.long p1, .long 0, .long (((v1 - 1)).toInt64)]) rfl rfl (ps_room.of (by omega) (by decide)) (Nat.le_of_ble_eq_true rfl) (C_X9_within p1 0 ((((v1 - 1)).toInt64)) σ _ (ps_bdE hK)) ?_
  intro v2 σ3 hT
  clear hK
  have hK := hT
  clear hT
  obtain ⟨b4, hT⟩ := ps_gd hK
  have hQ := ps_so hT
  exact ps_zret rfl (ps_nb b4) d_X9_isDevice_14 ⟨_, rfl, hQ⟩
def qX9_spanOf (p1 : Int32) (σ : ps_S) : Option (Int32 × ps_S) :=
  if ps_in ((45 + p1)) 83 = true then
  ps_let (σ.1 335 ((45 + p1)).toNatClampNeg) fun v1 =>
  ps_bd (qX9_ticksFor 10 σ) (fun _ σ3 =>
  if ps_in ((45 + p1)) 83 = true then
  ps_let (σ3.1 335 ((45 + p1)).toNatClampNeg) fun v4 =>
  some ((v4 - v1), σ3)
  else none)
  else none
set_option maxRecDepth 100000 in
theorem C_X9_spanOf {g : pm_G} (p1 : Int32) (σ : ps_S) (P : Int32 → ps_S → Prop) (hK : ps_ok (qX9_spanOf p1 σ) P) : ps_C g mX9_spanOf 7 [.ref (g.2.2.1 + 327), .int p1] σ (ps_qI P) := by
  unfold qX9_spanOf at hK
  refine ps_C.of (ls := [some (.ref (g.2.2.1 + 327)), some (.int p1), none]) 1 (by decide) rfl (Nat.le_of_ble_eq_true rfl) rfl ?_
  refine pm_ald d_X9_spanOf_0 rfl ?_
  refine ps_getR (q := 335) d_X9_spanOf_1 at_327 f_8_0_19 rfl ?_
  refine pm_ki d_X9_spanOf_4 ?_
  refine pm_ild d_X9_spanOf_6 rfl ?_
  refine pm_iadd d_X9_spanOf_7 ?_
  obtain ⟨b6, hT⟩ := ps_gd hK
  replace hK := hT
  clear hT
  refine ps_iald d_X9_spanOf_8 at_335 a_8_8 (ps_in_of b6) rfl ?_
  refine ps_topI (fun v1 ev1 => ?_)
  replace hK := ps_ltE ev1 hK
  refine pm_ist2 d_X9_spanOf_9 rfl (by decide) ?_
  refine pm_ald d_X9_spanOf_10 rfl ?_
  refine pm_ki d_X9_spanOf_11 ?_
  refine ps_cVV d_X9_spanOf_13 mv_X9_ticksFor at_327 ob_8_0 rfl (As := [.int 10]) rfl rfl (ps_room.of (by omega) (by decide)) (Nat.le_of_ble_eq_true rfl) (C_X9_ticksFor 10 σ _ (ps_bdE hK)) ?_
  intro σ3 hT
  clear hK
  have hK := hT
  clear hT
  refine pm_ald d_X9_spanOf_16 rfl ?_
  refine ps_getR (q := 335) d_X9_spanOf_17 at_327 f_8_0_19 rfl ?_
  refine pm_ki d_X9_spanOf_20 ?_
  refine pm_ild d_X9_spanOf_22 rfl ?_
  refine pm_iadd d_X9_spanOf_23 ?_
  obtain ⟨b5, hT⟩ := ps_gd hK
  replace hK := hT
  clear hT
  refine ps_iald d_X9_spanOf_24 at_335 a_8_8 (ps_in_of b5) rfl ?_
  refine ps_topI (fun v4 ev4 => ?_)
  replace hK := ps_ltE ev4 hK
  refine pm_ild d_X9_spanOf_25 rfl ?_
  refine pm_isub d_X9_spanOf_26 ?_
  have hQ := ps_so hK
  exact ps_iret rfl d_X9_spanOf_27 ⟨_, rfl, hQ⟩
def qX9_busiest_28  (y1 : Int32) : Nat → Int32 → Int32 → Int32 → ps_S → Option (((Int32 × Int32 × Int32)) × ps_S)
  | 0, _, _, _, _ => none
  | n + 1, x2, x3, x4, σ =>
    if 8 ≤ x4 then
    some ((x2, x3, x4), σ)
    else
    ps_bd (qX9_spanOf y1 σ) (fun v8 σ9 =>
    if x3 < v8 then
    ps_let (x4 + 1) fun v11 =>
    qX9_busiest_28 y1 n x4 v8 v11 σ9
    else
    ps_let (x4 + 1) fun v12 =>
    qX9_busiest_28 y1 n x2 x3 v12 σ9)
set_option maxRecDepth 100000 in
theorem L_X9_busiest_28 {g : pm_G} (D : Nat) (hD : 8 ≤ D) {P : Int32 → ps_S → Prop}  (y1 : Int32) : ∀ (n : Nat) (x2 : Int32) (x3 : Int32) (x4 : Int32) (σ : ps_S), ps_ok (qX9_busiest_28 y1 n x2 x3 x4 σ) (fun res σ => match res with | (x2, x3, x4) => pm_W g mX9_busiest (ps_F g D (ps_qI P)) 0 0 63 [some (.ref (g.2.2.1 + 327)), some (.int y1), some (.int x2), some (.int x3), some (.int x4), none] [] 345 (ps_E g σ)) → pm_W g mX9_busiest (ps_F g D (ps_qI P)) 0 0 28 [some (.ref (g.2.2.1 + 327)), some (.int y1), some (.int x2), some (.int x3), some (.int x4), none] [] 345 (ps_E g σ) := by
  intro n
  induction n with
  | zero => intro x2 x3 x4 σ hK; exact (ps_no hK).elim
  | succ n ih =>
    intro x2 x3 x4 σ hK
    rw [qX9_busiest_28] at hK
    refine pm_ild d_X9_busiest_28 rfl ?_
    refine pm_ki d_X9_busiest_30 ?_
    refine pm_icmp_ge d_X9_busiest_32 (fun c7 => ?_) (fun c7 => ?_)
    · replace hK := ps_ifT c7 hK
      exact ps_so hK
    · replace hK := ps_ifF c7 hK
      refine pm_ald d_X9_busiest_35 rfl ?_
      refine pm_ild d_X9_busiest_36 rfl ?_
      refine ps_cVI d_X9_busiest_37 mv_X9_spanOf at_327 ob_8_0 rfl (As := [.int y1]) rfl rfl (ps_room.of (by omega) (by decide)) (Nat.le_of_ble_eq_true rfl) (C_X9_spanOf y1 σ _ (ps_bdE hK)) ?_
      intro v8 σ9 hT
      clear hK
      have hK := hT
      clear hT
      refine pm_ist5 d_X9_busiest_40 rfl (by decide) ?_
      refine pm_ild d_X9_busiest_42 rfl ?_
      refine pm_ild d_X9_busiest_44 rfl ?_
      refine pm_icmp_gt d_X9_busiest_45 (fun c10 => ?_) (fun c10 => ?_)
      · replace hK := ps_ifT c10 hK
        refine pm_ild d_X9_busiest_51 rfl ?_
        refine pm_ist2 d_X9_busiest_53 rfl (by decide) ?_
        refine pm_ild d_X9_busiest_54 rfl ?_
        refine pm_ist3 d_X9_busiest_56 rfl (by decide) ?_
        refine pm_inc4 d_X9_busiest_57 rfl ?_
        obtain ⟨v11, ev11⟩ : ∃ y : Int32, y = x4 + 1 := ⟨_, rfl⟩
        rw [← ev11]
        replace hK := ps_ltE ev11 hK
        refine pm_goto d_X9_busiest_60 ?_
        refine pm_wk (ls' := [some (.ref (g.2.2.1 + 327)), some (.int y1), some (.int x4), some (.int v8), some (.int v11), none]) ⟨rfl, ⟨rfl, ⟨rfl, ⟨rfl, ⟨rfl, trivial⟩⟩⟩⟩⟩ ?_
        exact ih _ _ _ _ hK
      · replace hK := ps_ifF c10 hK
        refine pm_goto d_X9_busiest_48 ?_
        refine pm_inc4 d_X9_busiest_57 rfl ?_
        obtain ⟨v12, ev12⟩ : ∃ y : Int32, y = x4 + 1 := ⟨_, rfl⟩
        rw [← ev12]
        replace hK := ps_ltE ev12 hK
        refine pm_goto d_X9_busiest_60 ?_
        refine pm_wk (ls' := [some (.ref (g.2.2.1 + 327)), some (.int y1), some (.int x2), some (.int x3), some (.int v12), none]) ⟨rfl, ⟨rfl, ⟨rfl, ⟨rfl, ⟨rfl, trivial⟩⟩⟩⟩⟩ ?_
        exact ih _ _ _ _ hK
def qX9_busiest (p1 : Int32) (σ : ps_S) : Option (Int32 × ps_S) :=
  ps_let (ps_rI σ 327 (upd (σ.1 327) 0 0)) fun σ1 =>
  ps_bd (qX9_isDevice (((p1).toInt64)) σ1) (fun v2 σ3 =>
  if v2 = 0 then
  some ((-2), σ3)
  else
  ps_bd (qX9_begins σ3) (fun _ σ6 =>
  ps_bd (qX9_busiest_28 p1 ps_N 0 ((-1)) 0 σ6) (fun res σ13 => match res with
  | (v14, v15, v16) =>
    some (v14, σ13))))
set_option maxRecDepth 100000 in
theorem C_X9_busiest {g : pm_G} (p1 : Int32) (σ : ps_S) (P : Int32 → ps_S → Prop) (hK : ps_ok (qX9_busiest p1 σ) P) : ps_C g mX9_busiest 8 [.ref (g.2.2.1 + 327), .int p1] σ (ps_qI P) := by
  unfold qX9_busiest at hK
  refine ps_C.of (ls := [some (.ref (g.2.2.1 + 327)), some (.int p1), none, none, none, none]) 4 (by decide) rfl (Nat.le_of_ble_eq_true rfl) rfl ?_
  refine pm_ald d_X9_busiest_0 rfl ?_
  refine pm_ki d_X9_busiest_1 ?_
  refine ps_putI d_X9_busiest_2 at_327 f_8_0_0 rfl rfl ?_
  refine ps_nmS (fun σ1 eσ1 => ?_)
  replace hK := ps_ltE eσ1 hK
  refine pm_ald d_X9_busiest_5 rfl ?_
  refine pm_ild d_X9_busiest_6 rfl ?_
  refine pm_i2l d_X9_busiest_7 ?_
  refine ps_cVI d_X9_busiest_8 mv_X9_isDevice at_327 ob_8_0 rfl (As := [.long ((p1).toInt64)]) rfl rfl (ps_room.of (by omega) (by decide)) (Nat.le_of_ble_eq_true rfl) (C_X9_isDevice (((p1).toInt64)) σ1 _ (ps_bdE hK)) ?_
  intro v2 σ3 hT
  clear hK
  have hK := hT
  clear hT
  refine pm_if_ne d_X9_busiest_11 (fun c4 => ?_) (fun c4 => ?_)
  · replace hK := ps_ifF c4 hK
    refine pm_ald d_X9_busiest_17 rfl ?_
    refine ps_cVV d_X9_busiest_18 mv_X9_begins at_327 ob_8_0 rfl (As := []) rfl rfl (ps_room.of (by omega) (by decide)) (Nat.le_of_ble_eq_true rfl) (C_X9_begins σ3 _ (ps_bdE hK)) ?_
    intro σ6 hT
    clear hK
    have hK := hT
    clear hT
    refine pm_ki d_X9_busiest_21 ?_
    refine pm_ist2 d_X9_busiest_22 rfl (by decide) ?_
    refine pm_ki d_X9_busiest_23 ?_
    refine pm_ist3 d_X9_busiest_24 rfl (by decide) ?_
    refine pm_ki d_X9_busiest_25 ?_
    refine pm_ist4 d_X9_busiest_26 rfl (by decide) ?_
    refine L_X9_busiest_28 _ (by decide) p1 _ _ _ _ _ (ps_ok.mono (ps_bdE hK) ?_)
    rintro ⟨v14, v15, v16⟩ σ13 hT
    clear hK
    have hK := hT
    clear hT
    refine pm_ild d_X9_busiest_63 rfl ?_
    have hQ := ps_so hK
    exact ps_iret rfl d_X9_busiest_64 ⟨_, rfl, hQ⟩
  · replace hK := ps_ifT c4 hK
    refine pm_ki d_X9_busiest_14 ?_
    have hQ := ps_so hK
    exact ps_iret rfl d_X9_busiest_16 ⟨_, rfl, hQ⟩
