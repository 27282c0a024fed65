def qX9_pauseOf_115  (y1 : Int32) (y2 : Int32) (y3 : Int32) (y4 : UInt64) (y6 : UInt64) (y8 : UInt64) (y10 : UInt64) (y12 : Int32) (y13 : UInt64) : Nat → Int32 → Int32 → ps_S → Option (((Int32 × Int32)) × ps_S)
  | 0, _, _, _ => none
  | n + 1, x15, x16, σ =>
    ps_let (σ.1 328 3) fun v41 =>
    if v41 ≤ x16 then
    some ((x15, x16), σ)
    else
    ps_bd (qX9_deviceOf x16 σ) (fun v43 σ44 =>
    if v43 = y3 then
    ps_let ((x15 + 1)) fun v48 =>
    ps_let (x16 + 1) fun v49 =>
    qX9_pauseOf_115 y1 y2 y3 y4 y6 y8 y10 y12 y13 n v48 v49 σ44
    else
    ps_let ((x15 + 0)) fun v46 =>
    ps_let (x16 + 1) fun v47 =>
    qX9_pauseOf_115 y1 y2 y3 y4 y6 y8 y10 y12 y13 n v46 v47 σ44)
set_option maxRecDepth 100000 in
theorem L_X9_pauseOf_115 {g : pm_G} (D : Nat) (hD : 3 ≤ D) {P : Int32 → ps_S → Prop}  (y1 : Int32) (y2 : Int32) (y3 : Int32) (y4 : UInt64) (y6 : UInt64) (y8 : UInt64) (y10 : UInt64) (y12 : Int32) (y13 : UInt64) : ∀ (n : Nat) (x15 : Int32) (x16 : Int32) (σ : ps_S), ps_ok (qX9_pauseOf_115 y1 y2 y3 y4 y6 y8 y10 y12 y13 n x15 x16 σ) (fun res σ => match res with | (x15, x16) => pm_W g mX9_pauseOf (ps_F g D (ps_qI P)) 0 0 152 [some (.ref (g.2.2.1 + 327)), some (.int y1), some (.int y2), some (.int y3), some (.double y4), none, some (.double y6), none, some (.double y8), none, some (.double y10), none, some (.int y12), some (.double y13), none, some (.int x15), some (.int x16), none, none, none] [] 345 (ps_E g σ)) → pm_W g mX9_pauseOf (ps_F g D (ps_qI P)) 0 0 115 [some (.ref (g.2.2.1 + 327)), some (.int y1), some (.int y2), some (.int y3), some (.double y4), none, some (.double y6), none, some (.double y8), none, some (.double y10), none, some (.int y12), some (.double y13), none, some (.int x15), some (.int x16), none, none, none] [] 345 (ps_E g σ) := by
  intro n
  induction n with
  | zero => intro x15 x16 σ hK; exact (ps_no hK).elim
  | succ n ih =>
    intro x15 x16 σ hK
    rw [qX9_pauseOf_115] at hK
    refine pm_ild d_X9_pauseOf_115 rfl ?_
    refine pm_ald d_X9_pauseOf_117 rfl ?_
    refine ps_getR (q := 328) d_X9_pauseOf_118 at_327 f_8_0_1 rfl ?_
    refine pm_ki d_X9_pauseOf_121 ?_
    refine ps_iald (x := σ.1 328 3) d_X9_pauseOf_122 at_328 a_8_1 (ps_in_of rfl) rfl ?_
    refine ps_topI (fun v41 ev41 => ?_)
    replace hK := ps_ltE ev41 hK
    refine pm_icmp_ge d_X9_pauseOf_123 (fun c42 => ?_) (fun c42 => ?_)
    · replace hK := ps_ifT c42 hK
      exact ps_so hK
    · replace hK := ps_ifF c42 hK
      refine pm_ild d_X9_pauseOf_126 rfl ?_
      refine pm_ald d_X9_pauseOf_128 rfl ?_
      refine pm_ild d_X9_pauseOf_129 rfl ?_
      refine ps_cVI d_X9_pauseOf_131 mv_X9_deviceOf at_327 ob_8_0 rfl (As := [.int x16]) rfl rfl (ps_room.of (by omega) (by decide)) (Nat.le_of_ble_eq_true rfl) (C_X9_deviceOf x16 σ _ (ps_bdE hK)) ?_
      intro v43 σ44 hT
      clear hK
      have hK := hT
      clear hT
      refine pm_ild d_X9_pauseOf_134 rfl ?_
      refine pm_icmp_ne d_X9_pauseOf_135 (fun c45 => ?_) (fun c45 => ?_)
      · replace hK := ps_ifF c45 hK
        refine pm_ki d_X9_pauseOf_142 ?_
        refine pm_iadd d_X9_pauseOf_143 ?_
        refine ps_topI (fun v46 ev46 => ?_)
        replace hK := ps_ltE ev46 hK
        refine pm_ist15 d_X9_pauseOf_144 rfl (by decide) ?_
        refine pm_inc16 d_X9_pauseOf_146 rfl ?_
        obtain ⟨v47, ev47⟩ : ∃ y : Int32, y = x16 + 1 := ⟨_, rfl⟩
        rw [← ev47]
        replace hK := ps_ltE ev47 hK
        refine pm_goto d_X9_pauseOf_149 ?_
        exact ih _ _ _ hK
      · replace hK := ps_ifT c45 hK
        refine pm_ki d_X9_pauseOf_138 ?_
        refine pm_goto d_X9_pauseOf_139 ?_
        refine pm_iadd d_X9_pauseOf_143 ?_
        refine ps_topI (fun v48 ev48 => ?_)
        replace hK := ps_ltE ev48 hK
        refine pm_ist15 d_X9_pauseOf_144 rfl (by decide) ?_
        refine pm_inc16 d_X9_pauseOf_146 rfl ?_
        obtain ⟨v49, ev49⟩ : ∃ y : Int32, y = x16 + 1 := ⟨_, rfl⟩
        rw [← ev49]
        replace hK := ps_ltE ev49 hK
        refine pm_goto d_X9_pauseOf_149 ?_
        exact ih _ _ _ hK
def qX9_pauseOf (p1 : Int32) (p2 : Int32) (σ : ps_S) : Option (Int32 × ps_S) :=
  ps_bd (qX9_deviceOf p1 σ) (fun v1 σ2 =>
  ps_bd (qX9_freeNow σ2) (fun v3 σ4 =>
  ps_let (σ4.1 327 21) fun v5 =>
  if ps_nn (FP.ddiv ((FP.i2d ((v3 + v5)))) 4611686018427387904) = true then
  ps_let (FP.ddiv ((FP.i2d ((v3 + v5)))) 4611686018427387904) fun v6 =>
  ps_bd (qX9_allNow σ4) (fun v8 σ9 =>
  if ps_nn (FP.dsub v6 ((FP.i2d (v8)))) = true then
  ps_let (FP.dsub v6 ((FP.i2d (v8)))) fun v10 =>
  ps_let (σ9.1 327 21) fun v12 =>
  if ps_nn (FP.dsub ((FP.i2d (v12))) v6) = true then
  ps_let (FP.dsub ((FP.i2d (v12))) v6) fun v13 =>
  if ps_nn (FP.ddiv v10 v13) = true then
  ps_let (FP.ddiv v10 v13) fun v15 =>
  if ps_nn (FP.dmul v15 v15) = true then
  ps_let (FP.dmul v15 v15) fun v17 =>
  if ps_nn (FP.dmul v17 v15) = true then
  ps_let (FP.dmul v17 v15) fun v19 =>
  if ps_nn (FP.dadd FP.dconst1 v19) = true then
  ps_let (FP.dadd FP.dconst1 v19) fun v21 =>
  ps_bd (qX9_keptIn v21 FP.dconst0 4611686018427387904 σ9) (fun v23 σ24 =>
  ps_bd (qX9_shareOf v1 σ24) (fun v25 σ26 =>
  if ps_nn (FP.ddiv ((FP.i2d (v25))) 4611686018427387904) = true then
  ps_let (FP.ddiv ((FP.i2d (v25))) 4611686018427387904) fun v27 =>
  ps_bd (qX9_dirtyOn v1 σ26) (fun v29 σ30 =>
  if ps_in ((29 + v1)) 83 = true then
  ps_let (σ30.1 335 ((29 + v1)).toNatClampNeg) fun v31 =>
  ps_let ((v29 + v31)) fun v32 =>
  if ps_nn (FP.dsub v27 ((FP.i2d (v32)))) = true then
  ps_let (FP.dsub v27 ((FP.i2d (v32)))) fun v33 =>
  if ps_nn (FP.ddiv v33 v27) = true then
  ps_let (FP.ddiv v33 v27) fun v35 =>
  if ps_nn (FP.dadd FP.dconst1 v35) = true then
  ps_let (FP.dadd FP.dconst1 v35) fun v37 =>
  ps_bd (qX9_keptIn v37 FP.dconst0 4611686018427387904 σ30) (fun v39 σ40 =>
  ps_bd (qX9_pauseOf_115 p1 p2 v1 v6 v15 v23 v27 v32 v39 ps_N 0 0 σ40) (fun res σ50 => match res with
  | (v51, v52) =>
    if ps_in v1 4 = true then
    ps_let (σ50.2.2 336 (v1).toNatClampNeg) fun v53 =>
    if ps_nn (FP.ddiv v53 ((FP.i2d (v51)))) = true then
    ps_let (FP.ddiv v53 ((FP.i2d (v51)))) fun v54 =>
    if ps_nn (FP.dmul v54 v23) = true then
    ps_let (FP.dmul v54 v23) fun v56 =>
    if ps_nn (FP.dmul v56 v39) = true then
    ps_let (FP.dmul v56 v39) fun v58 =>
    if ps_nn (FP.dmul ((FP.i2d (p2))) 4636737291354636288) = true then
    ps_let (FP.dmul ((FP.i2d (p2))) 4636737291354636288) fun v60 =>
    if 0 ≤ ((Op.cmpValue (FP.dcmp v58 FP.dconst1) .g)) then
    if ps_nn (FP.ddiv v60 v58) = true then
    ps_let (FP.ddiv v60 v58) fun v63 =>
    ps_let (σ50.1 328 13) fun v65 =>
    if ((Op.cmpValue (FP.dcmp v63 ((FP.i2d (v65)))) .l)) ≤ 0 then
    some ((FP.d2i (v63)), σ50)
    else
    ps_let (σ50.1 328 13) fun v67 =>
    some (v67, σ50)
    else none
    else
    if ps_nn (FP.ddiv v60 FP.dconst1) = true then
    ps_let (FP.ddiv v60 FP.dconst1) fun v68 =>
    ps_let (σ50.1 328 13) fun v70 =>
    if ((Op.cmpValue (FP.dcmp v68 ((FP.i2d (v70)))) .l)) ≤ 0 then
    some ((FP.d2i (v68)), σ50)
    else
    ps_let (σ50.1 328 13) fun v72 =>
    some (v72, σ50)
    else none
    else none
    else none
    else none
    else none
    else none))
  else none
  else none
  else none
  else none)
  else none))
  else none
  else none
  else none
  else none
  else none
  else none)
  else none))
set_option maxRecDepth 100000 in
theorem C_X9_pauseOf {g : pm_G} (p1 : Int32) (p2 : Int32) (σ : ps_S) (P : Int32 → ps_S → Prop) (hK : ps_ok (qX9_pauseOf p1 p2 σ) P) : ps_C g mX9_pauseOf 3 [.ref (g.2.2.1 + 327), .int p1, .int p2] σ (ps_qI P) := by
  unfold qX9_pauseOf at hK
  refine ps_C.of (ls := [some (.ref (g.2.2.1 + 327)), some (.int p1), some (.int p2), none, none, none, none, none, none, none, none, none, none, none, none, none, none, none, none, none]) 17 (by decide) rfl (Nat.le_of_ble_eq_true rfl) rfl ?_
  refine pm_ald d_X9_pauseOf_0 rfl ?_
  refine pm_ild d_X9_pauseOf_1 rfl ?_
  refine ps_cVI d_X9_pauseOf_2 mv_X9_deviceOf at_327 ob_8_0 rfl (As := [.int p1]) rfl rfl (ps_room.of (by omega) (by decide)) (Nat.le_of_ble_eq_true rfl) (C_X9_deviceOf p1 σ _ (ps_bdE hK)) ?_
  intro v1 σ2 hT
  clear hK
  have hK := hT
  clear hT
  refine pm_ist3 d_X9_pauseOf_5 rfl (by decide) ?_
  refine pm_ald d_X9_pauseOf_6 rfl ?_
  refine ps_cVI d_X9_pauseOf_7 mv_X9_freeNow at_327 ob_8_0 rfl (As := []) rfl rfl (ps_room.of (by omega) (by decide)) (Nat.le_of_ble_eq_true rfl) (C_X9_freeNow σ2 _ (ps_bdE hK)) ?_
  intro v3 σ4 hT
  clear hK
  have hK := hT
  clear hT
  refine pm_ald d_X9_pauseOf_10 rfl ?_
  refine ps_getI d_X9_pauseOf_11 at_327 f_8_0_21 rfl ?_
  refine ps_topI (fun v5 ev5 => ?_)
  replace hK := ps_ltE ev5 hK
  refine pm_iadd d_X9_pauseOf_14 ?_
  refine pm_i2d d_X9_pauseOf_15 ?_
  refine pm_kd d_X9_pauseOf_16 ?_
  obtain ⟨b7, hT⟩ := ps_gd hK
  replace hK := hT
  clear hT
  refine pm_ddiv d_X9_pauseOf_19 (ps_nn_of b7) ?_
  refine ps_topD (fun v6 ev6 => ?_)
  replace hK := ps_ltE ev6 hK
  refine pm_dst4 d_X9_pauseOf_20 rfl (by decide) ?_
  refine pm_dld d_X9_pauseOf_22 rfl ?_
  refine pm_ald d_X9_pauseOf_24 rfl ?_
  refine ps_cVI d_X9_pauseOf_25 mv_X9_allNow at_327 ob_8_0 rfl (As := []) rfl rfl (ps_room.of (by omega) (by decide)) (Nat.le_of_ble_eq_true rfl) (C_X9_allNow σ4 _ (ps_bdE hK)) ?_
  intro v8 σ9 hT
  clear hK
  have hK := hT
  clear hT
  refine pm_i2d d_X9_pauseOf_28 ?_
  obtain ⟨b11, hT⟩ := ps_gd hK
  replace hK := hT
  clear hT
  refine pm_dsub d_X9_pauseOf_29 (ps_nn_of b11) ?_
  refine ps_topD (fun v10 ev10 => ?_)
  replace hK := ps_ltE ev10 hK
  refine pm_ald d_X9_pauseOf_30 rfl ?_
  refine ps_getI d_X9_pauseOf_31 at_327 f_8_0_21 rfl ?_
  refine ps_topI (fun v12 ev12 => ?_)
  replace hK := ps_ltE ev12 hK
  refine pm_i2d d_X9_pauseOf_34 ?_
  refine pm_dld d_X9_pauseOf_35 rfl ?_
  obtain ⟨b14, hT⟩ := ps_gd hK
  replace hK := hT
  clear hT
  refine pm_dsub d_X9_pauseOf_37 (ps_nn_of b14) ?_
  refine ps_topD (fun v13 ev13 => ?_)
  replace hK := ps_ltE ev13 hK
  obtain ⟨b16, hT⟩ := ps_gd hK
  replace hK := hT
  clear hT
  refine pm_ddiv d_X9_pauseOf_38 (ps_nn_of b16) ?_
  refine ps_topD (fun v15 ev15 => ?_)
  replace hK := ps_ltE ev15 hK
  refine pm_dst6 d_X9_pauseOf_39 rfl (by decide) ?_
  refine pm_kd d_X9_pauseOf_41 ?_
  refine pm_dld d_X9_pauseOf_42 rfl ?_
  refine pm_dld d_X9_pauseOf_44 rfl ?_
  obtain ⟨b18, hT⟩ := ps_gd hK
  replace hK := hT
  clear hT
  refine pm_dmul d_X9_pauseOf_46 (ps_nn_of b18) ?_
  refine ps_topD (fun v17 ev17 => ?_)
  replace hK := ps_ltE ev17 hK
  refine pm_dld d_X9_pauseOf_47 rfl ?_
  obtain ⟨b20, hT⟩ := ps_gd hK
  replace hK := hT
  clear hT
  refine pm_dmul d_X9_pauseOf_49 (ps_nn_of b20) ?_
  refine ps_topD (fun v19 ev19 => ?_)
  replace hK := ps_ltE ev19 hK
  obtain ⟨b22, hT⟩ := ps_gd hK
  replace hK := hT
  clear hT
  refine pm_dadd d_X9_pauseOf_50 (ps_nn_of b22) ?_
  refine ps_topD (fun v21 ev21 => ?_)
  replace hK := ps_ltE ev21 hK
  refine pm_kd d_X9_pauseOf_51 ?_
  refine pm_kd d_X9_pauseOf_52 ?_
  refine ps_cSD d_X9_pauseOf_55 ms_X9_keptIn (As := [.double v21, .double FP.dconst0, .double 4611686018427387904]) rfl rfl (ps_room.of (by omega) (by decide)) (Nat.le_of_ble_eq_true rfl) (C_X9_keptIn v21 FP.dconst0 4611686018427387904 σ9 _ (ps_bdE hK)) ?_
  intro v23 σ24 hT
  clear hK
  have hK := hT
  clear hT
  refine pm_dst8 d_X9_pauseOf_58 rfl (by decide) ?_
  refine pm_ald d_X9_pauseOf_60 rfl ?_
  refine pm_ild d_X9_pauseOf_61 rfl ?_
  refine ps_cVI d_X9_pauseOf_62 mv_X9_shareOf at_327 ob_8_0 rfl (As := [.int v1]) rfl rfl (ps_room.of (by omega) (by decide)) (Nat.le_of_ble_eq_true rfl) (C_X9_shareOf v1 σ24 _ (ps_bdE hK)) ?_
  intro v25 σ26 hT
  clear hK
  have hK := hT
  clear hT
  refine pm_i2d d_X9_pauseOf_65 ?_
  refine pm_kd d_X9_pauseOf_66 ?_
  obtain ⟨b28, hT⟩ := ps_gd hK
  replace hK := hT
  clear hT
  refine pm_ddiv d_X9_pauseOf_69 (ps_nn_of b28) ?_
  refine ps_topD (fun v27 ev27 => ?_)
  replace hK := ps_ltE ev27 hK
  refine pm_dst10 d_X9_pauseOf_70 rfl (by decide) ?_
  refine pm_ald d_X9_pauseOf_72 rfl ?_
  refine pm_ild d_X9_pauseOf_73 rfl ?_
  refine ps_cVI d_X9_pauseOf_74 mv_X9_dirtyOn at_327 ob_8_0 rfl (As := [.int v1]) rfl rfl (ps_room.of (by omega) (by decide)) (Nat.le_of_ble_eq_true rfl) (C_X9_dirtyOn v1 σ26 _ (ps_bdE hK)) ?_
  intro v29 σ30 hT
  clear hK
  have hK := hT
  clear hT
  refine pm_ald d_X9_pauseOf_77 rfl ?_
  refine ps_getR (q := 335) d_X9_pauseOf_78 at_327 f_8_0_19 rfl ?_
  refine pm_ki d_X9_pauseOf_81 ?_
  refine pm_ild d_X9_pauseOf_83 rfl ?_
  refine pm_iadd d_X9_pauseOf_84 ?_
  obtain ⟨b74, hT⟩ := ps_gd hK
  replace hK := hT
  clear hT
  refine ps_iald d_X9_pauseOf_85 at_335 a_8_8 (ps_in_of b74) rfl ?_
  refine ps_topI (fun v31 ev31 => ?_)
  replace hK := ps_ltE ev31 hK
  refine pm_iadd d_X9_pauseOf_86 ?_
  refine ps_topI (fun v32 ev32 => ?_)
  replace hK := ps_ltE ev32 hK
  refine pm_ist12 d_X9_pauseOf_87 rfl (by decide) ?_
  refine pm_kd d_X9_pauseOf_89 ?_
  refine pm_dld d_X9_pauseOf_90 rfl ?_
  refine pm_ild d_X9_pauseOf_92 rfl ?_
  refine pm_i2d d_X9_pauseOf_94 ?_
  obtain ⟨b34, hT⟩ := ps_gd hK
  replace hK := hT
  clear hT
  refine pm_dsub d_X9_pauseOf_95 (ps_nn_of b34) ?_
  refine ps_topD (fun v33 ev33 => ?_)
  replace hK := ps_ltE ev33 hK
  refine pm_dld d_X9_pauseOf_96 rfl ?_
  obtain ⟨b36, hT⟩ := ps_gd hK
  replace hK := hT
  clear hT
  refine pm_ddiv d_X9_pauseOf_98 (ps_nn_of b36) ?_
  refine ps_topD (fun v35 ev35 => ?_)
  replace hK := ps_ltE ev35 hK
  obtain ⟨b38, hT⟩ := ps_gd hK
  replace hK := hT
  clear hT
  refine pm_dadd d_X9_pauseOf_99 (ps_nn_of b38) ?_
  refine ps_topD (fun v37 ev37 => ?_)
  replace hK := ps_ltE ev37 hK
  refine pm_kd d_X9_pauseOf_100 ?_
  refine pm_kd d_X9_pauseOf_101 ?_
  refine ps_cSD d_X9_pauseOf_104 ms_X9_keptIn (As := [.double v37, .double FP.dconst0, .double 4611686018427387904]) rfl rfl (ps_room.of (by omega) (by decide)) (Nat.le_of_ble_eq_true rfl) (C_X9_keptIn v37 FP.dconst0 4611686018427387904 σ30 _ (ps_bdE hK)) ?_
  intro v39 σ40 hT
  clear hK
  have hK := hT
  clear hT
  refine pm_dst13 d_X9_pauseOf_107 rfl (by decide) ?_
  refine pm_ki d_X9_pauseOf_109 ?_
  refine pm_ist15 d_X9_pauseOf_110 rfl (by decide) ?_
  refine pm_ki d_X9_pauseOf_112 ?_
  refine pm_ist16 d_X9_pauseOf_113 rfl (by decide) ?_
  refine L_X9_pauseOf_115 _ (by decide) p1 p2 v1 v6 v15 v23 v27 v32 v39 _ _ _ _ (ps_ok.mono (ps_bdE hK) ?_)
  rintro ⟨v51, v52⟩ σ50 hT
  clear hK
  have hK := hT
  clear hT
  refine pm_ald d_X9_pauseOf_152 rfl ?_
  refine ps_getR (q := 336) d_X9_pauseOf_153 at_327 f_8_0_20 rfl ?_
  refine pm_ild d_X9_pauseOf_156 rfl ?_
  obtain ⟨b73, hT⟩ := ps_gd hK
  replace hK := hT
  clear hT
  refine ps_dald d_X9_pauseOf_157 at_336 a_8_9 (ps_in_of b73) rfl ?_
  refine ps_topD (fun v53 ev53 => ?_)
  replace hK := ps_ltE ev53 hK
  refine pm_ild d_X9_pauseOf_158 rfl ?_
  refine pm_i2d d_X9_pauseOf_160 ?_
  obtain ⟨b55, hT⟩ := ps_gd hK
  replace hK := hT
  clear hT
  refine pm_ddiv d_X9_pauseOf_161 (ps_nn_of b55) ?_
  refine ps_topD (fun v54 ev54 => ?_)
  replace hK := ps_ltE ev54 hK
  refine pm_dld d_X9_pauseOf_162 rfl ?_
  obtain ⟨b57, hT⟩ := ps_gd hK
  replace hK := hT
  clear hT
  refine pm_dmul d_X9_pauseOf_164 (ps_nn_of b57) ?_
  refine ps_topD (fun v56 ev56 => ?_)
  replace hK := ps_ltE ev56 hK
  refine pm_dld d_X9_pauseOf_165 rfl ?_
  obtain ⟨b59, hT⟩ := ps_gd hK
  replace hK := hT
  clear hT
  refine pm_dmul d_X9_pauseOf_167 (ps_nn_of b59) ?_
  refine ps_topD (fun v58 ev58 => ?_)
  replace hK := ps_ltE ev58 hK
  refine pm_dst16 d_X9_pauseOf_168 rfl (by decide) ?_
  refine pm_ild d_X9_pauseOf_170 rfl ?_
  refine pm_i2d d_X9_pauseOf_171 ?_
  refine pm_kd d_X9_pauseOf_172 ?_
  obtain ⟨b61, hT⟩ := ps_gd hK
  replace hK := hT
  clear hT
  refine pm_dmul d_X9_pauseOf_175 (ps_nn_of b61) ?_
  refine ps_topD (fun v60 ev60 => ?_)
  replace hK := ps_ltE ev60 hK
  refine pm_dld d_X9_pauseOf_176 rfl ?_
  refine pm_kd d_X9_pauseOf_178 ?_
  refine pm_dcmp d_X9_pauseOf_179 ?_
  refine pm_if_ge d_X9_pauseOf_180 (fun c62 => ?_) (fun c62 => ?_)
  · replace hK := ps_ifT c62 hK
    refine pm_dld d_X9_pauseOf_187 rfl ?_
    obtain ⟨b64, hT⟩ := ps_gd hK
    replace hK := hT
    clear hT
    refine pm_ddiv d_X9_pauseOf_189 (ps_nn_of b64) ?_
    refine ps_topD (fun v63 ev63 => ?_)
    replace hK := ps_ltE ev63 hK
    refine pm_dst18 d_X9_pauseOf_190 rfl (by decide) ?_
    refine pm_dld d_X9_pauseOf_192 rfl ?_
    refine pm_ald d_X9_pauseOf_194 rfl ?_
    refine ps_getR (q := 328) d_X9_pauseOf_195 at_327 f_8_0_1 rfl ?_
    refine pm_ki d_X9_pauseOf_198 ?_
    refine ps_iald (x := σ50.1 328 13) d_X9_pauseOf_200 at_328 a_8_1 (ps_in_of rfl) rfl ?_
    refine ps_topI (fun v65 ev65 => ?_)
    replace hK := ps_ltE ev65 hK
    refine pm_i2d d_X9_pauseOf_201 ?_
    refine pm_dcmp d_X9_pauseOf_202 ?_
    refine pm_if_le d_X9_pauseOf_203 (fun c66 => ?_) (fun c66 => ?_)
    · replace hK := ps_ifT c66 hK
      refine pm_dld d_X9_pauseOf_216 rfl ?_
      refine pm_d2i d_X9_pauseOf_218 ?_
      have hQ := ps_so hK
      exact ps_iret rfl d_X9_pauseOf_219 ⟨_, rfl, hQ⟩
    · replace hK := ps_ifF c66 hK
      refine pm_ald d_X9_pauseOf_206 rfl ?_
      refine ps_getR (q := 328) d_X9_pauseOf_207 at_327 f_8_0_1 rfl ?_
      refine pm_ki d_X9_pauseOf_210 ?_
      refine ps_iald (x := σ50.1 328 13) d_X9_pauseOf_212 at_328 a_8_1 (ps_in_of rfl) rfl ?_
      refine ps_topI (fun v67 ev67 => ?_)
      replace hK := ps_ltE ev67 hK
      refine pm_goto d_X9_pauseOf_213 ?_
      have hQ := ps_so hK
      exact ps_iret rfl d_X9_pauseOf_219 ⟨_, rfl, hQ⟩
  · replace hK := ps_ifF c62 hK
    refine pm_kd d_X9_pauseOf_183 ?_
    refine pm_goto d_X9_pauseOf_184 ?_
    obtain ⟨b69, hT⟩ := ps_gd hK
    replace hK := hT
    clear hT
    refine pm_ddiv d_X9_pauseOf_189 (ps_nn_of b69) ?_
    refine ps_topD (fun v68 ev68 => ?_)
    replace hK := ps_ltE ev68 hK
    refine pm_dst18 d_X9_pauseOf_190 rfl (by decide) ?_
    refine pm_dld d_X9_pauseOf_192 rfl ?_
    refine pm_ald d_X9_pauseOf_194 rfl ?_
    refine ps_getR (q := 328) d_X9_pauseOf_195 at_327 f_8_0_1 rfl ?_
    refine pm_ki d_X9_pauseOf_198 ?_
    refine ps_iald (x := σ50.1 328 13) d_X9_pauseOf_200 at_328 a_8_1 (ps_in_of rfl) rfl ?_
    refine ps_topI (fun v70 ev70 => ?_)
    replace hK := ps_ltE ev70 hK
    refine pm_i2d d_X9_pauseOf_201 ?_
    refine pm_dcmp d_X9_pauseOf_202 ?_
    refine pm_if_le d_X9_pauseOf_203 (fun c71 => ?_) (fun c71 => ?_)
    · replace hK := ps_ifT c71 hK
      refine pm_dld d_X9_pauseOf_216 rfl ?_
      refine pm_d2i d_X9_pauseOf_218 ?_
      have hQ := ps_so hK
      exact ps_iret rfl d_X9_pauseOf_219 ⟨_, rfl, hQ⟩
    · replace hK := ps_ifF c71 hK
      refine pm_ald d_X9_pauseOf_206 rfl ?_
      refine ps_getR (q := 328) d_X9_pauseOf_207 at_327 f_8_0_1 rfl ?_
      refine pm_ki d_X9_pauseOf_210 ?_
      refine ps_iald (x := σ50.1 328 13) d_X9_pauseOf_212 at_328 a_8_1 (ps_in_of rfl) rfl ?_
      refine ps_topI (fun v72 ev72 => ?_)
      replace hK := ps_ltE ev72 hK
      refine pm_goto d_X9_pauseOf_213 ?_
      have hQ := ps_so hK
      exact ps_iret rfl d_X9_pauseOf_219 ⟨_, rfl, hQ⟩
def qX9_kept (p1 : Int32) (p2 : Int32) (p3 : Int32) (σ : ps_S) : Option (Int32 × ps_S) :=
  if p2 ≤ p1 then
  if p1 ≤ p3 then
  some (p1, σ)
  else
  some (p3, σ)
  else
  some (p2, σ)
set_option maxRecDepth 100000 in
theorem C_X9_kept {g : pm_G} (p1 : Int32) (p2 : Int32) (p3 : Int32) (σ : ps_S) (P : Int32 → ps_S → Prop) (hK : ps_ok (qX9_kept p1 p2 p3 σ) P) : ps_C g mX9_kept 1 [.int p1, .int p2, .int p3] σ (ps_qI P) := by
  unfold qX9_kept at hK
  refine ps_C.of (ls := [some (.int p1), some (.int p2), some (.int p3)]) 0 (by decide) rfl (Nat.le_of_ble_eq_true rfl) rfl ?_
  refine pm_ild d_X9_kept_0 rfl ?_
  refine pm_ild d_X9_kept_1 rfl ?_
  refine pm_icmp_ge d_X9_kept_2 (fun c1 => ?_) (fun c1 => ?_)
  · replace hK := ps_ifT c1 hK
    refine pm_ild d_X9_kept_9 rfl ?_
    refine pm_ild d_X9_kept_10 rfl ?_
    refine pm_icmp_le d_X9_kept_11 (fun c2 => ?_) (fun c2 => ?_)
    · replace hK := ps_ifT c2 hK
      refine pm_ild d_X9_kept_18 rfl ?_
      have hQ := ps_so hK
      exact ps_iret rfl d_X9_kept_19 ⟨_, rfl, hQ⟩
    · replace hK := ps_ifF c2 hK
      refine pm_ild d_X9_kept_14 rfl ?_
      refine pm_goto d_X9_kept_15 ?_
      have hQ := ps_so hK
      exact ps_iret rfl d_X9_kept_19 ⟨_, rfl, hQ⟩
  · replace hK := ps_ifF c1 hK
    refine pm_ild d_X9_kept_5 rfl ?_
    refine pm_goto d_X9_kept_6 ?_
    have hQ := ps_so hK
    exact ps_iret rfl d_X9_kept_19 ⟨_, rfl, hQ⟩
def qX9_laysWords (p1 : Int32) (p2 : Int32) (p3 : Int32) (σ : ps_S) : Option (Unit × ps_S) :=
  ps_let (σ.1 335 0) fun v1 =>
  ps_let (ps_rI σ 334 (upd (σ.1 334) 0 ((v1 - v1 / 100 * 100)))) fun σ2 =>
  ps_let (ps_rI σ2 334 (upd (σ2.1 334) 1 p1)) fun σ3 =>
  ps_let (ps_rI σ3 334 (upd (σ3.1 334) 2 p2)) fun σ4 =>
  ps_let (ps_rI σ4 334 (upd (σ4.1 334) 3 p3)) fun σ5 =>
  some ((), σ5)
set_option maxRecDepth 100000 in
theorem C_X9_laysWords {g : pm_G} (p1 : Int32) (p2 : Int32) (p3 : Int32) (σ : ps_S) (P : Unit → ps_S → Prop) (hK : ps_ok (qX9_laysWords p1 p2 p3 σ) P) : ps_C g mX9_laysWords 1 [.ref (g.2.2.1 + 327), .int p1, .int p2, .int p3] σ (ps_qV P) := by
  unfold qX9_laysWords at hK
  refine ps_C.of (ls := [some (.ref (g.2.2.1 + 327)), some (.int p1), some (.int p2), some (.int p3)]) 0 (by decide) rfl (Nat.le_of_ble_eq_true rfl) rfl ?_
  refine pm_ald d_X9_laysWords_0 rfl ?_
  refine ps_getR (q := 334) d_X9_laysWords_1 at_327 f_8_0_18 rfl ?_
  refine pm_ki d_X9_laysWords_4 ?_
  refine pm_ald d_X9_laysWords_5 rfl ?_
  refine ps_getR (q := 335) d_X9_laysWords_6 at_327 f_8_0_19 rfl ?_
  refine pm_ki d_X9_laysWords_9 ?_
  refine ps_iald (x := σ.1 335 0) d_X9_laysWords_10 at_335 a_8_8 (ps_in_of rfl) rfl ?_
  refine ps_topI (fun v1 ev1 => ?_)
  replace hK := ps_ltE ev1 hK
  refine pm_ki d_X9_laysWords_11 ?_
  refine pm_irem d_X9_laysWords_13 (by decide) ?_
  refine ps_iast d_X9_laysWords_14 at_334 a_8_7 (ps_in_of rfl) ?_
  refine ps_nmS (fun σ2 eσ2 => ?_)
  replace hK := ps_ltE eσ2 hK
  refine pm_ald d_X9_laysWords_15 rfl ?_
  refine ps_getR (q := 334) d_X9_laysWords_16 at_327 f_8_0_18 rfl ?_
  refine pm_ki d_X9_laysWords_19 ?_
  refine pm_ild d_X9_laysWords_20 rfl ?_
  refine ps_iast d_X9_laysWords_21 at_334 a_8_7 (ps_in_of rfl) ?_
  refine ps_nmS (fun σ3 eσ3 => ?_)
  replace hK := ps_ltE eσ3 hK
  refine pm_ald d_X9_laysWords_22 rfl ?_
  refine ps_getR (q := 334) d_X9_laysWords_23 at_327 f_8_0_18 rfl ?_
  refine pm_ki d_X9_laysWords_26 ?_
  refine pm_ild d_X9_laysWords_27 rfl ?_
  refine ps_iast d_X9_laysWords_28 at_334 a_8_7 (ps_in_of rfl) ?_
  refine ps_nmS (fun σ4 eσ4 => ?_)
  replace hK := ps_ltE eσ4 hK
  refine pm_ald d_X9_laysWords_29 rfl ?_
  refine ps_getR (q := 334) d_X9_laysWords_30 at_327 f_8_0_18 rfl ?_
  refine pm_ki d_X9_laysWords_33 ?_
  refine pm_ild d_X9_laysWords_34 rfl ?_
  refine ps_iast d_X9_laysWords_35 at_334 a_8_7 (ps_in_of rfl) ?_
  refine ps_nmS (fun σ5 eσ5 => ?_)
  replace hK := ps_ltE eσ5 hK
  have hQ := ps_so hK
  exact ps_vret rfl d_X9_laysWords_36 ⟨rfl, hQ⟩
def qX9_between (p1 : Int32) (p2 : Int32) (p3 : Int32) (σ : ps_S) : Option (Int32 × ps_S) :=
  if p1 = 3003 then
  if p2 = p3 then
  some (1, σ)
  else
  some (0, σ)
  else
  if p1 = 3004 then
  if p3 ≤ p2 then
  some (0, σ)
  else
  some (1, σ)
  else
  if p1 = 3005 then
  if p2 ≤ p3 then
  some (0, σ)
  else
  some (1, σ)
  else
  if p1 = 3006 then
  if p1 = 3000 then
  ps_let (((((p2).toInt64)) + (((p3).toInt64)))) fun v16 =>
  if ((lg_cmp v16 1000000)) ≤ 0 then
  if 0 ≤ ((lg_cmp v16 ((-1000000)))) then
  some (((v16).toInt32), σ)
  else
  some ((((-1000000)).toInt32), σ)
  else
  some (((1000000).toInt32), σ)
  else
  if p1 = 3001 then
  ps_let (((((p2).toInt64)) - (((p3).toInt64)))) fun v13 =>
  if ((lg_cmp v13 1000000)) ≤ 0 then
  if 0 ≤ ((lg_cmp v13 ((-1000000)))) then
  some (((v13).toInt32), σ)
  else
  some ((((-1000000)).toInt32), σ)
  else
  some (((1000000).toInt32), σ)
  else
  ps_let (((((p2).toInt64)) * (((p3).toInt64)))) fun v10 =>
  if ((lg_cmp v10 1000000)) ≤ 0 then
  if 0 ≤ ((lg_cmp v10 ((-1000000)))) then
  some (((v10).toInt32), σ)
  else
  some ((((-1000000)).toInt32), σ)
  else
  some (((1000000).toInt32), σ)
  else
  if p1 = 3007 then
  some ((p2 &&& p3), σ)
  else
  if p1 = 3008 then
  some ((p2 ||| p3), σ)
  else
  if p1 = 3000 then
  ps_let (((((p2).toInt64)) + (((p3).toInt64)))) fun v29 =>
  if ((lg_cmp v29 1000000)) ≤ 0 then
  if 0 ≤ ((lg_cmp v29 ((-1000000)))) then
  some (((v29).toInt32), σ)
  else
  some ((((-1000000)).toInt32), σ)
  else
  some (((1000000).toInt32), σ)
  else
  if p1 = 3001 then
  ps_let (((((p2).toInt64)) - (((p3).toInt64)))) fun v26 =>
  if ((lg_cmp v26 1000000)) ≤ 0 then
  if 0 ≤ ((lg_cmp v26 ((-1000000)))) then
  some (((v26).toInt32), σ)
  else
  some ((((-1000000)).toInt32), σ)
  else
  some (((1000000).toInt32), σ)
  else
  ps_let (((((p2).toInt64)) * (((p3).toInt64)))) fun v23 =>
  if ((lg_cmp v23 1000000)) ≤ 0 then
  if 0 ≤ ((lg_cmp v23 ((-1000000)))) then
  some (((v23).toInt32), σ)
  else
  some ((((-1000000)).toInt32), σ)
  else
  some (((1000000).toInt32), σ)
set_option maxRecDepth 100000 in
theorem C_X9_between {g : pm_G} (p1 : Int32) (p2 : Int32) (p3 : Int32) (σ : ps_S) (P : Int32 → ps_S → Prop) (hK : ps_ok (qX9_between p1 p2 p3 σ) P) : ps_C g mX9_between 1 [.int p1, .int p2, .int p3] σ (ps_qI P) := by
  unfold qX9_between at hK
  refine ps_C.of (ls := [some (.int p1), some (.int p2), some (.int p3), none, none]) 2 (by decide) rfl (Nat.le_of_ble_eq_true rfl) rfl ?_
  refine pm_ild d_X9_between_0 rfl ?_
  by_cases c1 : p1 = 3003
  · replace hK := ps_ifT c1 hK
    refine pm_tabIn (tgt := 40) (off := 39) d_X9_between_1 (by rw [c1]; decide) (by rw [c1]; decide) (by rw [c1]; rfl) (by decide) ?_
    refine pm_ild d_X9_between_40 rfl ?_
    refine pm_ild d_X9_between_41 rfl ?_
    refine pm_icmp_ne d_X9_between_42 (fun c2 => ?_) (fun c2 => ?_)
    · replace hK := ps_ifF c2 hK
      refine pm_ki d_X9_between_49 ?_
      have hQ := ps_so hK
      exact ps_iret rfl d_X9_between_50 ⟨_, rfl, hQ⟩
    · replace hK := ps_ifT c2 hK
      refine pm_ki d_X9_between_45 ?_
      refine pm_goto d_X9_between_46 ?_
      have hQ := ps_so hK
      exact ps_iret rfl d_X9_between_50 ⟨_, rfl, hQ⟩
  replace hK := ps_ifF c1 hK
  by_cases c3 : p1 = 3004
  · replace hK := ps_ifT c3 hK
    refine pm_tabIn (tgt := 51) (off := 50) d_X9_between_1 (by rw [c3]; decide) (by rw [c3]; decide) (by rw [c3]; rfl) (by decide) ?_
    refine pm_ild d_X9_between_51 rfl ?_
    refine pm_ild d_X9_between_52 rfl ?_
    refine pm_icmp_ge d_X9_between_53 (fun c4 => ?_) (fun c4 => ?_)
    · replace hK := ps_ifT c4 hK
      refine pm_ki d_X9_between_60 ?_
      have hQ := ps_so hK
      exact ps_iret rfl d_X9_between_61 ⟨_, rfl, hQ⟩
    · replace hK := ps_ifF c4 hK
      refine pm_ki d_X9_between_56 ?_
      refine pm_goto d_X9_between_57 ?_
      have hQ := ps_so hK
      exact ps_iret rfl d_X9_between_61 ⟨_, rfl, hQ⟩
  replace hK := ps_ifF c3 hK
  by_cases c5 : p1 = 3005
  · replace hK := ps_ifT c5 hK
    refine pm_tabIn (tgt := 62) (off := 61) d_X9_between_1 (by rw [c5]; decide) (by rw [c5]; decide) (by rw [c5]; rfl) (by decide) ?_
    refine pm_ild d_X9_between_62 rfl ?_
    refine pm_ild d_X9_between_63 rfl ?_
    refine pm_icmp_le d_X9_between_64 (fun c6 => ?_) (fun c6 => ?_)
    · replace hK := ps_ifT c6 hK
      refine pm_ki d_X9_between_71 ?_
      have hQ := ps_so hK
      exact ps_iret rfl d_X9_between_72 ⟨_, rfl, hQ⟩
    · replace hK := ps_ifF c6 hK
      refine pm_ki d_X9_between_67 ?_
      refine pm_goto d_X9_between_68 ?_
      have hQ := ps_so hK
      exact ps_iret rfl d_X9_between_72 ⟨_, rfl, hQ⟩
  replace hK := ps_ifF c5 hK
  by_cases c7 : p1 = 3006
  · replace hK := ps_ifT c7 hK
    refine pm_tabIn (tgt := 81) (off := 80) d_X9_between_1 (by rw [c7]; decide) (by rw [c7]; decide) (by rw [c7]; rfl) (by decide) ?_
    refine pm_ild d_X9_between_81 rfl ?_
    refine pm_ki d_X9_between_82 ?_
    refine pm_icmp_ne d_X9_between_85 (fun c8 => ?_) (fun c8 => ?_)
    · replace hK := ps_ifF c8 hK
      refine pm_ild d_X9_between_96 rfl ?_
      refine pm_ki d_X9_between_97 ?_
      refine pm_icmp_ne d_X9_between_100 (fun c9 => ?_) (fun c9 => ?_)
      · replace hK := ps_ifF c9 hK
        refine pm_ild d_X9_between_111 rfl ?_
        refine pm_i2l d_X9_between_112 ?_
        refine pm_ild d_X9_between_113 rfl ?_
        refine pm_i2l d_X9_between_114 ?_
        refine pm_lmul d_X9_between_115 ?_
        refine ps_topL (fun v10 ev10 => ?_)
        replace hK := ps_ltE ev10 hK
        refine pm_lst3 d_X9_between_116 rfl (by decide) ?_
        refine pm_lld d_X9_between_117 rfl ?_
        refine pm_kl d_X9_between_118 ?_
        refine pm_lcmp d_X9_between_121 ?_
        refine pm_if_le d_X9_between_122 (fun c11 => ?_) (fun c11 => ?_)
        · replace hK := ps_ifT c11 hK
          refine pm_lld d_X9_between_131 rfl ?_
          refine pm_kl d_X9_between_132 ?_
          refine pm_lcmp d_X9_between_135 ?_
          refine pm_if_ge d_X9_between_136 (fun c12 => ?_) (fun c12 => ?_)
          · replace hK := ps_ifT c12 hK
            refine pm_lld d_X9_between_145 rfl ?_
            refine pm_l2i d_X9_between_146 ?_
            have hQ := ps_so hK
            exact ps_iret rfl d_X9_between_147 ⟨_, rfl, hQ⟩
          · replace hK := ps_ifF c12 hK
            refine pm_kl d_X9_between_139 ?_
            refine pm_goto d_X9_between_142 ?_
            refine pm_l2i d_X9_between_146 ?_
            have hQ := ps_so hK
            exact ps_iret rfl d_X9_between_147 ⟨_, rfl, hQ⟩
        · replace hK := ps_ifF c11 hK
          refine pm_kl d_X9_between_125 ?_
          refine pm_goto d_X9_between_128 ?_
          refine pm_l2i d_X9_between_146 ?_
          have hQ := ps_so hK
          exact ps_iret rfl d_X9_between_147 ⟨_, rfl, hQ⟩
      · replace hK := ps_ifT c9 hK
        refine pm_ild d_X9_between_103 rfl ?_
        refine pm_i2l d_X9_between_104 ?_
        refine pm_ild d_X9_between_105 rfl ?_
        refine pm_i2l d_X9_between_106 ?_
        refine pm_lsub d_X9_between_107 ?_
        refine pm_goto d_X9_between_108 ?_
        refine ps_topL (fun v13 ev13 => ?_)
        replace hK := ps_ltE ev13 hK
        refine pm_lst3 d_X9_between_116 rfl (by decide) ?_
        refine pm_lld d_X9_between_117 rfl ?_
        refine pm_kl d_X9_between_118 ?_
        refine pm_lcmp d_X9_between_121 ?_
        refine pm_if_le d_X9_between_122 (fun c14 => ?_) (fun c14 => ?_)
        · replace hK := ps_ifT c14 hK
          refine pm_lld d_X9_between_131 rfl ?_
          refine pm_kl d_X9_between_132 ?_
          refine pm_lcmp d_X9_between_135 ?_
          refine pm_if_ge d_X9_between_136 (fun c15 => ?_) (fun c15 => ?_)
          · replace hK := ps_ifT c15 hK
            refine pm_lld d_X9_between_145 rfl ?_
            refine pm_l2i d_X9_between_146 ?_
            have hQ := ps_so hK
            exact ps_iret rfl d_X9_between_147 ⟨_, rfl, hQ⟩
          · replace hK := ps_ifF c15 hK
            refine pm_kl d_X9_between_139 ?_
            refine pm_goto d_X9_between_142 ?_
            refine pm_l2i d_X9_between_146 ?_
            have hQ := ps_so hK
            exact ps_iret rfl d_X9_between_147 ⟨_, rfl, hQ⟩
        · replace hK := ps_ifF c14 hK
          refine pm_kl d_X9_between_125 ?_
          refine pm_goto d_X9_between_128 ?_
          refine pm_l2i d_X9_between_146 ?_
          have hQ := ps_so hK
          exact ps_iret rfl d_X9_between_147 ⟨_, rfl, hQ⟩
    · replace hK := ps_ifT c8 hK
      refine pm_ild d_X9_between_88 rfl ?_
      refine pm_i2l d_X9_between_89 ?_
      refine pm_ild d_X9_between_90 rfl ?_
      refine pm_i2l d_X9_between_91 ?_
      refine pm_ladd d_X9_between_92 ?_
      refine pm_goto d_X9_between_93 ?_
      refine ps_topL (fun v16 ev16 => ?_)
      replace hK := ps_ltE ev16 hK
      refine pm_lst3 d_X9_between_116 rfl (by decide) ?_
      refine pm_lld d_X9_between_117 rfl ?_
      refine pm_kl d_X9_between_118 ?_
      refine pm_lcmp d_X9_between_121 ?_
      refine pm_if_le d_X9_between_122 (fun c17 => ?_) (fun c17 => ?_)
      · replace hK := ps_ifT c17 hK
        refine pm_lld d_X9_between_131 rfl ?_
        refine pm_kl d_X9_between_132 ?_
        refine pm_lcmp d_X9_between_135 ?_
        refine pm_if_ge d_X9_between_136 (fun c18 => ?_) (fun c18 => ?_)
        · replace hK := ps_ifT c18 hK
          refine pm_lld d_X9_between_145 rfl ?_
          refine pm_l2i d_X9_between_146 ?_
          have hQ := ps_so hK
          exact ps_iret rfl d_X9_between_147 ⟨_, rfl, hQ⟩
        · replace hK := ps_ifF c18 hK
          refine pm_kl d_X9_between_139 ?_
          refine pm_goto d_X9_between_142 ?_
          refine pm_l2i d_X9_between_146 ?_
          have hQ := ps_so hK
          exact ps_iret rfl d_X9_between_147 ⟨_, rfl, hQ⟩
      · replace hK := ps_ifF c17 hK
        refine pm_kl d_X9_between_125 ?_
        refine pm_goto d_X9_between_128 ?_
        refine pm_l2i d_X9_between_146 ?_
        have hQ := ps_so hK
        exact ps_iret rfl d_X9_between_147 ⟨_, rfl, hQ⟩
  replace hK := ps_ifF c7 hK
  by_cases c19 : p1 = 3007
  · replace hK := ps_ifT c19 hK
    refine pm_tabIn (tgt := 73) (off := 72) d_X9_between_1 (by rw [c19]; decide) (by rw [c19]; decide) (by rw [c19]; rfl) (by decide) ?_
    refine pm_ild d_X9_between_73 rfl ?_
    refine pm_ild d_X9_between_74 rfl ?_
    refine pm_iand d_X9_between_75 ?_
    have hQ := ps_so hK
    exact ps_iret rfl d_X9_between_76 ⟨_, rfl, hQ⟩
  replace hK := ps_ifF c19 hK
  by_cases c20 : p1 = 3008
  · replace hK := ps_ifT c20 hK
    refine pm_tabIn (tgt := 77) (off := 76) d_X9_between_1 (by rw [c20]; decide) (by rw [c20]; decide) (by rw [c20]; rfl) (by decide) ?_
    refine pm_ild d_X9_between_77 rfl ?_
    refine pm_ild d_X9_between_78 rfl ?_
    refine pm_ior d_X9_between_79 ?_
    have hQ := ps_so hK
    exact ps_iret rfl d_X9_between_80 ⟨_, rfl, hQ⟩
  replace hK := ps_ifF c20 hK
  refine pm_tabOut (tgt := 81) d_X9_between_1 (by decide) (ps_swout (lo := 3003) (n := 6) (by decide) (by decide) (fun k hk => match k, hk with | 0, _ => c1 | 1, _ => c3 | 2, _ => c5 | 3, _ => c7 | 4, _ => c19 | 5, _ => c20 | k + 6, hk => absurd hk (by omega))) ?_
  refine pm_ild d_X9_between_81 rfl ?_
  refine pm_ki d_X9_between_82 ?_
  refine pm_icmp_ne d_X9_between_85 (fun c21 => ?_) (fun c21 => ?_)
  · replace hK := ps_ifF c21 hK
    refine pm_ild d_X9_between_96 rfl ?_
    refine pm_ki d_X9_between_97 ?_
    refine pm_icmp_ne d_X9_between_100 (fun c22 => ?_) (fun c22 => ?_)
    · replace hK := ps_ifF c22 hK
      refine pm_ild d_X9_between_111 rfl ?_
      refine pm_i2l d_X9_between_112 ?_
      refine pm_ild d_X9_between_113 rfl ?_
      refine pm_i2l d_X9_between_114 ?_
      refine pm_lmul d_X9_between_115 ?_
      refine ps_topL (fun v23 ev23 => ?_)
      replace hK := ps_ltE ev23 hK
      refine pm_lst3 d_X9_between_116 rfl (by decide) ?_
      refine pm_lld d_X9_between_117 rfl ?_
      refine pm_kl d_X9_between_118 ?_
      refine pm_lcmp d_X9_between_121 ?_
      refine pm_if_le d_X9_between_122 (fun c24 => ?_) (fun c24 => ?_)
      · replace hK := ps_ifT c24 hK
        refine pm_lld d_X9_between_131 rfl ?_
        refine pm_kl d_X9_between_132 ?_
        refine pm_lcmp d_X9_between_135 ?_
        refine pm_if_ge d_X9_between_136 (fun c25 => ?_) (fun c25 => ?_)
        · replace hK := ps_ifT c25 hK
          refine pm_lld d_X9_between_145 rfl ?_
          refine pm_l2i d_X9_between_146 ?_
          have hQ := ps_so hK
          exact ps_iret rfl d_X9_between_147 ⟨_, rfl, hQ⟩
        · replace hK := ps_ifF c25 hK
          refine pm_kl d_X9_between_139 ?_
          refine pm_goto d_X9_between_142 ?_
          refine pm_l2i d_X9_between_146 ?_
          have hQ := ps_so hK
          exact ps_iret rfl d_X9_between_147 ⟨_, rfl, hQ⟩
      · replace hK := ps_ifF c24 hK
        refine pm_kl d_X9_between_125 ?_
        refine pm_goto d_X9_between_128 ?_
        refine pm_l2i d_X9_between_146 ?_
        have hQ := ps_so hK
        exact ps_iret rfl d_X9_between_147 ⟨_, rfl, hQ⟩
    · replace hK := ps_ifT c22 hK
      refine pm_ild d_X9_between_103 rfl ?_
      refine pm_i2l d_X9_between_104 ?_
      refine pm_ild d_X9_between_105 rfl ?_
      refine pm_i2l d_X9_between_106 ?_
      refine pm_lsub d_X9_between_107 ?_
      refine pm_goto d_X9_between_108 ?_
      refine ps_topL (fun v26 ev26 => ?_)
      replace hK := ps_ltE ev26 hK
      refine pm_lst3 d_X9_between_116 rfl (by decide) ?_
      refine pm_lld d_X9_between_117 rfl ?_
      refine pm_kl d_X9_between_118 ?_
      refine pm_lcmp d_X9_between_121 ?_
      refine pm_if_le d_X9_between_122 (fun c27 => ?_) (fun c27 => ?_)
      · replace hK := ps_ifT c27 hK
        refine pm_lld d_X9_between_131 rfl ?_
        refine pm_kl d_X9_between_132 ?_
        refine pm_lcmp d_X9_between_135 ?_
        refine pm_if_ge d_X9_between_136 (fun c28 => ?_) (fun c28 => ?_)
        · replace hK := ps_ifT c28 hK
          refine pm_lld d_X9_between_145 rfl ?_
          refine pm_l2i d_X9_between_146 ?_
          have hQ := ps_so hK
          exact ps_iret rfl d_X9_between_147 ⟨_, rfl, hQ⟩
        · replace hK := ps_ifF c28 hK
          refine pm_kl d_X9_between_139 ?_
          refine pm_goto d_X9_between_142 ?_
          refine pm_l2i d_X9_between_146 ?_
          have hQ := ps_so hK
          exact ps_iret rfl d_X9_between_147 ⟨_, rfl, hQ⟩
      · replace hK := ps_ifF c27 hK
        refine pm_kl d_X9_between_125 ?_
        refine pm_goto d_X9_between_128 ?_
        refine pm_l2i d_X9_between_146 ?_
        have hQ := ps_so hK
        exact ps_iret rfl d_X9_between_147 ⟨_, rfl, hQ⟩
  · replace hK := ps_ifT c21 hK
    refine pm_ild d_X9_between_88 rfl ?_
    refine pm_i2l d_X9_between_89 ?_
    refine pm_ild d_X9_between_90 rfl ?_
    refine pm_i2l d_X9_between_91 ?_
    refine pm_ladd d_X9_between_92 ?_
    refine pm_goto d_X9_between_93 ?_
    refine ps_topL (fun v29 ev29 => ?_)
    replace hK := ps_ltE ev29 hK
    refine pm_lst3 d_X9_between_116 rfl (by decide) ?_
    refine pm_lld d_X9_between_117 rfl ?_
    refine pm_kl d_X9_between_118 ?_
    refine pm_lcmp d_X9_between_121 ?_
    refine pm_if_le d_X9_between_122 (fun c30 => ?_) (fun c30 => ?_)
    · replace hK := ps_ifT c30 hK
      refine pm_lld d_X9_between_131 rfl ?_
      refine pm_kl d_X9_between_132 ?_
      refine pm_lcmp d_X9_between_135 ?_
      refine pm_if_ge d_X9_between_136 (fun c31 => ?_) (fun c31 => ?_)
      · replace hK := ps_ifT c31 hK
        refine pm_lld d_X9_between_145 rfl ?_
        refine pm_l2i d_X9_between_146 ?_
        have hQ := ps_so hK
        exact ps_iret rfl d_X9_between_147 ⟨_, rfl, hQ⟩
      · replace hK := ps_ifF c31 hK
        refine pm_kl d_X9_between_139 ?_
        refine pm_goto d_X9_between_142 ?_
        refine pm_l2i d_X9_between_146 ?_
        have hQ := ps_so hK
        exact ps_iret rfl d_X9_between_147 ⟨_, rfl, hQ⟩
    · replace hK := ps_ifF c30 hK
      refine pm_kl d_X9_between_125 ?_
      refine pm_goto d_X9_between_128 ?_
      refine pm_l2i d_X9_between_146 ?_
      have hQ := ps_so hK
      exact ps_iret rfl d_X9_between_147 ⟨_, rfl, hQ⟩
def qX9_reckons_4  (y1 : Int32) : Nat → Int32 → Int32 → ps_S → Option (((Int32 × Int32)) × ps_S)
  | 0, _, _, _ => none
  | n + 1, x2, x3, σ =>
    if ps_in ((8 + y1)) 5550 = true then
    ps_let (σ.1 328 ((8 + y1)).toNatClampNeg) fun v1 =>
    if v1 ≤ x3 then
    some ((x2, x3), σ)
    else
    if ps_in ((6 + y1)) 5550 = true then
    ps_let (σ.1 328 ((6 + y1)).toNatClampNeg) fun v3 =>
    if ps_in ((((950 + v3)) + x3)) 5550 = true then
    ps_let (σ.1 328 ((((950 + v3)) + x3)).toNatClampNeg) fun v4 =>
    if 3000 ≤ v4 then
    if v4 = 3006 then
    if ps_in ((x2 - 1)) 900 = true then
    ps_let (σ.1 333 ((x2 - 1)).toNatClampNeg) fun v32 =>
    if ps_in ((x2 - 1)) 900 = true then
    ps_let (ps_rI σ 333 (upd (σ.1 333) ((x2 - 1)).toNatClampNeg ((1 - v32)))) fun σ33 =>
    ps_let (x3 + 1) fun v34 =>
    qX9_reckons_4 y1 n x2 v34 σ33
    else none
    else none
    else
    if v4 = 3009 then
    ps_let (x2 + (-2)) fun v18 =>
    if ps_in ((v18 - 1)) 900 = true then
    ps_let (σ.1 333 ((v18 - 1)).toNatClampNeg) fun v19 =>
    if v19 = 1 then
    if ps_in v18 900 = true then
    ps_let (σ.1 333 (v18).toNatClampNeg) fun v26 =>
    if ps_in ((v18 - 1)) 900 = true then
    ps_let (ps_rI σ 333 (upd (σ.1 333) ((v18 - 1)).toNatClampNeg v26)) fun σ27 =>
    ps_let (x3 + 1) fun v28 =>
    qX9_reckons_4 y1 n v18 v28 σ27
    else none
    else none
    else
    if ps_in ((v18 + 1)) 900 = true then
    ps_let (σ.1 333 ((v18 + 1)).toNatClampNeg) fun v21 =>
    if ps_in ((v18 - 1)) 900 = true then
    ps_let (ps_rI σ 333 (upd (σ.1 333) ((v18 - 1)).toNatClampNeg v21)) fun σ22 =>
    ps_let (x3 + 1) fun v23 =>
    qX9_reckons_4 y1 n v18 v23 σ22
    else none
    else none
    else none
    else
    ps_let (x2 + (-1)) fun v8 =>
    if ps_in ((v8 - 1)) 900 = true then
    ps_let (σ.1 333 ((v8 - 1)).toNatClampNeg) fun v9 =>
    if ps_in v8 900 = true then
    ps_let (σ.1 333 (v8).toNatClampNeg) fun v10 =>
    ps_bd (qX9_between v4 v9 v10 σ) (fun v11 σ12 =>
    if ps_in ((v8 - 1)) 900 = true then
    ps_let (ps_rI σ12 333 (upd (σ12.1 333) ((v8 - 1)).toNatClampNeg v11)) fun σ13 =>
    ps_let (x3 + 1) fun v14 =>
    qX9_reckons_4 y1 n v8 v14 σ13
    else none)
    else none
    else none
    else
    if 1000 ≤ v4 then
    if ps_in ((v4 - 1000)) 4 = true then
    ps_let (σ.1 334 ((v4 - 1000)).toNatClampNeg) fun v38 =>
    if ps_in x2 900 = true then
    ps_let (ps_rI σ 333 (upd (σ.1 333) (x2).toNatClampNeg v38)) fun σ39 =>
    ps_let (x2 + 1) fun v40 =>
    ps_let (x3 + 1) fun v41 =>
    qX9_reckons_4 y1 n v40 v41 σ39
    else none
    else none
    else
    if ps_in x2 900 = true then
    ps_let (ps_rI σ 333 (upd (σ.1 333) (x2).toNatClampNeg v4)) fun σ44 =>
    ps_let (x2 + 1) fun v45 =>
    ps_let (x3 + 1) fun v46 =>
    qX9_reckons_4 y1 n v45 v46 σ44
    else none
    else none
    else none
    else none
set_option maxRecDepth 100000 in
theorem L_X9_reckons_4 {g : pm_G} (D : Nat) (hD : 2 ≤ D) {P : Int32 → ps_S → Prop}  (y1 : Int32) : ∀ (n : Nat) (x2 : Int32) (x3 : Int32) (σ : ps_S), ps_ok (qX9_reckons_4 y1 n x2 x3 σ) (fun res σ => match res with | (x2, x3) => pm_W g mX9_reckons (ps_F g D (ps_qI P)) 0 0 199 [some (.ref (g.2.2.1 + 327)), some (.int y1), some (.int x2), some (.int x3), none] [] 345 (ps_E g σ)) → pm_W g mX9_reckons (ps_F g D (ps_qI P)) 0 0 4 [some (.ref (g.2.2.1 + 327)), some (.int y1), some (.int x2), some (.int x3), none] [] 345 (ps_E g σ) := by
  intro n
  induction n with
  | zero => intro x2 x3 σ hK; exact (ps_no hK).elim
  | succ n ih =>
    intro x2 x3 σ hK
    rw [qX9_reckons_4] at hK
    refine pm_ild d_X9_reckons_4 rfl ?_
    refine pm_ald d_X9_reckons_5 rfl ?_
    refine ps_getR (q := 328) d_X9_reckons_6 at_327 f_8_0_1 rfl ?_
    refine pm_ki d_X9_reckons_9 ?_
    refine pm_ild d_X9_reckons_11 rfl ?_
    refine pm_iadd d_X9_reckons_12 ?_
    obtain ⟨b50, hT⟩ := ps_gd hK
    replace hK := hT
    clear hT
    refine ps_iald d_X9_reckons_13 at_328 a_8_1 (ps_in_of b50) rfl ?_
    refine ps_topI (fun v1 ev1 => ?_)
    replace hK := ps_ltE ev1 hK
    refine pm_icmp_ge d_X9_reckons_14 (fun c2 => ?_) (fun c2 => ?_)
    · replace hK := ps_ifT c2 hK
      exact ps_so hK
    · replace hK := ps_ifF c2 hK
      refine pm_ald d_X9_reckons_17 rfl ?_
      refine ps_getR (q := 328) d_X9_reckons_18 at_327 f_8_0_1 rfl ?_
      refine pm_ki d_X9_reckons_21 ?_
      refine pm_ald d_X9_reckons_24 rfl ?_
      refine ps_getR (q := 328) d_X9_reckons_25 at_327 f_8_0_1 rfl ?_
      refine pm_ki d_X9_reckons_28 ?_
      refine pm_ild d_X9_reckons_30 rfl ?_
      refine pm_iadd d_X9_reckons_31 ?_
      obtain ⟨b49, hT⟩ := ps_gd hK
      replace hK := hT
      clear hT
      refine ps_iald d_X9_reckons_32 at_328 a_8_1 (ps_in_of b49) rfl ?_
      refine ps_topI (fun v3 ev3 => ?_)
      replace hK := ps_ltE ev3 hK
      refine pm_iadd d_X9_reckons_33 ?_
      refine pm_ild d_X9_reckons_34 rfl ?_
      refine pm_iadd d_X9_reckons_35 ?_
      obtain ⟨b48, hT⟩ := ps_gd hK
      replace hK := hT
      clear hT
      refine ps_iald d_X9_reckons_36 at_328 a_8_1 (ps_in_of b48) rfl ?_
      refine ps_topI (fun v4 ev4 => ?_)
      replace hK := ps_ltE ev4 hK
      refine pm_ist4 d_X9_reckons_37 rfl (by decide) ?_
      refine pm_ild d_X9_reckons_39 rfl ?_
      refine pm_ki d_X9_reckons_41 ?_
      refine pm_icmp_ge d_X9_reckons_44 (fun c5 => ?_) (fun c5 => ?_)
      · replace hK := ps_ifT c5 hK
        refine pm_ild d_X9_reckons_83 rfl ?_
        refine pm_ki d_X9_reckons_85 ?_
        refine pm_icmp_ne d_X9_reckons_88 (fun c6 => ?_) (fun c6 => ?_)
        · replace hK := ps_ifF c6 hK
          refine pm_ild d_X9_reckons_112 rfl ?_
          refine pm_ki d_X9_reckons_114 ?_
          refine pm_icmp_ne d_X9_reckons_117 (fun c7 => ?_) (fun c7 => ?_)
          · replace hK := ps_ifF c7 hK
            refine pm_inc2 d_X9_reckons_163 rfl ?_
            obtain ⟨v8, ev8⟩ : ∃ y : Int32, y = x2 + (-1) := ⟨_, rfl⟩
            rw [← ev8]
            replace hK := ps_ltE ev8 hK
            refine pm_ald d_X9_reckons_166 rfl ?_
            refine ps_getR (q := 333) d_X9_reckons_167 at_327 f_8_0_17 rfl ?_
            refine pm_ild d_X9_reckons_170 rfl ?_
            refine pm_ki d_X9_reckons_171 ?_
            refine pm_isub d_X9_reckons_172 ?_
            refine pm_ild d_X9_reckons_173 rfl ?_
            refine pm_ald d_X9_reckons_175 rfl ?_
            refine ps_getR (q := 333) d_X9_reckons_176 at_327 f_8_0_17 rfl ?_
            refine pm_ild d_X9_reckons_179 rfl ?_
            refine pm_ki d_X9_reckons_180 ?_
            refine pm_isub d_X9_reckons_181 ?_
            obtain ⟨b17, hT⟩ := ps_gd hK
            replace hK := hT
            clear hT
            refine ps_iald d_X9_reckons_182 at_333 a_8_6 (ps_in_of b17) rfl ?_
            refine ps_topI (fun v9 ev9 => ?_)
            replace hK := ps_ltE ev9 hK
            refine pm_ald d_X9_reckons_183 rfl ?_
            refine ps_getR (q := 333) d_X9_reckons_184 at_327 f_8_0_17 rfl ?_
            refine pm_ild d_X9_reckons_187 rfl ?_
            obtain ⟨b16, hT⟩ := ps_gd hK
            replace hK := hT
            clear hT
            refine ps_iald d_X9_reckons_188 at_333 a_8_6 (ps_in_of b16) rfl ?_
            refine ps_topI (fun v10 ev10 => ?_)
            replace hK := ps_ltE ev10 hK
            refine ps_cSI d_X9_reckons_189 ms_X9_between (As := [.int v4, .int v9, .int v10]) rfl rfl (ps_room.of (by omega) (by decide)) (Nat.le_of_ble_eq_true rfl) (C_X9_between v4 v9 v10 σ _ (ps_bdE hK)) ?_
            intro v11 σ12 hT
            clear hK
            have hK := hT
            clear hT
            obtain ⟨b15, hT⟩ := ps_gd hK
            replace hK := hT
            clear hT
            refine ps_iast d_X9_reckons_192 at_333 a_8_6 (ps_in_of b15) ?_
            refine ps_nmS (fun σ13 eσ13 => ?_)
            replace hK := ps_ltE eσ13 hK
            refine pm_inc3 d_X9_reckons_193 rfl ?_
            obtain ⟨v14, ev14⟩ : ∃ y : Int32, y = x3 + 1 := ⟨_, rfl⟩
            rw [← ev14]
            replace hK := ps_ltE ev14 hK
            refine pm_goto d_X9_reckons_196 ?_
            refine pm_wk (ls' := [some (.ref (g.2.2.1 + 327)), some (.int y1), some (.int v8), some (.int v14), none]) ⟨rfl, ⟨rfl, ⟨rfl, ⟨rfl, trivial⟩⟩⟩⟩ ?_
            exact ih _ _ _ hK
          · replace hK := ps_ifT c7 hK
            refine pm_inc2 d_X9_reckons_120 rfl ?_
            obtain ⟨v18, ev18⟩ : ∃ y : Int32, y = x2 + (-2) := ⟨_, rfl⟩
            rw [← ev18]
            replace hK := ps_ltE ev18 hK
            refine pm_ald d_X9_reckons_123 rfl ?_
            refine ps_getR (q := 333) d_X9_reckons_124 at_327 f_8_0_17 rfl ?_
            refine pm_ild d_X9_reckons_127 rfl ?_
            refine pm_ki d_X9_reckons_128 ?_
            refine pm_isub d_X9_reckons_129 ?_
            refine pm_ald d_X9_reckons_130 rfl ?_
            refine ps_getR (q := 333) d_X9_reckons_131 at_327 f_8_0_17 rfl ?_
            refine pm_ild d_X9_reckons_134 rfl ?_
            refine pm_ki d_X9_reckons_135 ?_
            refine pm_isub d_X9_reckons_136 ?_
            obtain ⟨b31, hT⟩ := ps_gd hK
            replace hK := hT
            clear hT
            refine ps_iald d_X9_reckons_137 at_333 a_8_6 (ps_in_of b31) rfl ?_
            refine ps_topI (fun v19 ev19 => ?_)
            replace hK := ps_ltE ev19 hK
            refine pm_ki d_X9_reckons_138 ?_
            refine pm_icmp_ne d_X9_reckons_139 (fun c20 => ?_) (fun c20 => ?_)
            · replace hK := ps_ifF c20 hK
              refine pm_ald d_X9_reckons_151 rfl ?_
              refine ps_getR (q := 333) d_X9_reckons_152 at_327 f_8_0_17 rfl ?_
              refine pm_ild d_X9_reckons_155 rfl ?_
              refine pm_ki d_X9_reckons_156 ?_
              refine pm_iadd d_X9_reckons_157 ?_
              obtain ⟨b25, hT⟩ := ps_gd hK
              replace hK := hT
              clear hT
              refine ps_iald d_X9_reckons_158 at_333 a_8_6 (ps_in_of b25) rfl ?_
              refine ps_topI (fun v21 ev21 => ?_)
              replace hK := ps_ltE ev21 hK
              obtain ⟨b24, hT⟩ := ps_gd hK
              replace hK := hT
              clear hT
              refine ps_iast d_X9_reckons_159 at_333 a_8_6 (ps_in_of b24) ?_
              refine ps_nmS (fun σ22 eσ22 => ?_)
              replace hK := ps_ltE eσ22 hK
              refine pm_goto d_X9_reckons_160 ?_
              refine pm_inc3 d_X9_reckons_193 rfl ?_
              obtain ⟨v23, ev23⟩ : ∃ y : Int32, y = x3 + 1 := ⟨_, rfl⟩
              rw [← ev23]
              replace hK := ps_ltE ev23 hK
              refine pm_goto d_X9_reckons_196 ?_
              refine pm_wk (ls' := [some (.ref (g.2.2.1 + 327)), some (.int y1), some (.int v18), some (.int v23), none]) ⟨rfl, ⟨rfl, ⟨rfl, ⟨rfl, trivial⟩⟩⟩⟩ ?_
              exact ih _ _ _ hK
            · replace hK := ps_ifT c20 hK
              refine pm_ald d_X9_reckons_142 rfl ?_
              refine ps_getR (q := 333) d_X9_reckons_143 at_327 f_8_0_17 rfl ?_
              refine pm_ild d_X9_reckons_146 rfl ?_
              obtain ⟨b30, hT⟩ := ps_gd hK
              replace hK := hT
              clear hT
              refine ps_iald d_X9_reckons_147 at_333 a_8_6 (ps_in_of b30) rfl ?_
              refine ps_topI (fun v26 ev26 => ?_)
              replace hK := ps_ltE ev26 hK
              refine pm_goto d_X9_reckons_148 ?_
              obtain ⟨b29, hT⟩ := ps_gd hK
              replace hK := hT
              clear hT
              refine ps_iast d_X9_reckons_159 at_333 a_8_6 (ps_in_of b29) ?_
              refine ps_nmS (fun σ27 eσ27 => ?_)
              replace hK := ps_ltE eσ27 hK
              refine pm_goto d_X9_reckons_160 ?_
              refine pm_inc3 d_X9_reckons_193 rfl ?_
              obtain ⟨v28, ev28⟩ : ∃ y : Int32, y = x3 + 1 := ⟨_, rfl⟩
              rw [← ev28]
              replace hK := ps_ltE ev28 hK
              refine pm_goto d_X9_reckons_196 ?_
              refine pm_wk (ls' := [some (.ref (g.2.2.1 + 327)), some (.int y1), some (.int v18), some (.int v28), none]) ⟨rfl, ⟨rfl, ⟨rfl, ⟨rfl, trivial⟩⟩⟩⟩ ?_
              exact ih _ _ _ hK
        · replace hK := ps_ifT c6 hK
          refine pm_ald d_X9_reckons_91 rfl ?_
          refine ps_getR (q := 333) d_X9_reckons_92 at_327 f_8_0_17 rfl ?_
          refine pm_ild d_X9_reckons_95 rfl ?_
          refine pm_ki d_X9_reckons_96 ?_
          refine pm_isub d_X9_reckons_97 ?_
          refine pm_ki d_X9_reckons_98 ?_
          refine pm_ald d_X9_reckons_99 rfl ?_
          refine ps_getR (q := 333) d_X9_reckons_100 at_327 f_8_0_17 rfl ?_
          refine pm_ild d_X9_reckons_103 rfl ?_
          refine pm_ki d_X9_reckons_104 ?_
          refine pm_isub d_X9_reckons_105 ?_
          obtain ⟨b36, hT⟩ := ps_gd hK
          replace hK := hT
          clear hT
          refine ps_iald d_X9_reckons_106 at_333 a_8_6 (ps_in_of b36) rfl ?_
          refine ps_topI (fun v32 ev32 => ?_)
          replace hK := ps_ltE ev32 hK
          refine pm_isub d_X9_reckons_107 ?_
          obtain ⟨b35, hT⟩ := ps_gd hK
          replace hK := hT
          clear hT
          refine ps_iast d_X9_reckons_108 at_333 a_8_6 (ps_in_of b35) ?_
          refine ps_nmS (fun σ33 eσ33 => ?_)
          replace hK := ps_ltE eσ33 hK
          refine pm_goto d_X9_reckons_109 ?_
          refine pm_inc3 d_X9_reckons_193 rfl ?_
          obtain ⟨v34, ev34⟩ : ∃ y : Int32, y = x3 + 1 := ⟨_, rfl⟩
          rw [← ev34]
          replace hK := ps_ltE ev34 hK
          refine pm_goto d_X9_reckons_196 ?_
          refine pm_wk (ls' := [some (.ref (g.2.2.1 + 327)), some (.int y1), some (.int x2), some (.int v34), none]) ⟨rfl, ⟨rfl, ⟨rfl, ⟨rfl, trivial⟩⟩⟩⟩ ?_
          exact ih _ _ _ hK
      · replace hK := ps_ifF c5 hK
        refine pm_ald d_X9_reckons_47 rfl ?_
        refine ps_getR (q := 333) d_X9_reckons_48 at_327 f_8_0_17 rfl ?_
        refine pm_ild d_X9_reckons_51 rfl ?_
        refine pm_ild d_X9_reckons_52 rfl ?_
        refine pm_ki d_X9_reckons_54 ?_
        refine pm_icmp_ge d_X9_reckons_57 (fun c37 => ?_) (fun c37 => ?_)
        · replace hK := ps_ifT c37 hK
          refine pm_ald d_X9_reckons_65 rfl ?_
          refine ps_getR (q := 334) d_X9_reckons_66 at_327 f_8_0_18 rfl ?_
          refine pm_ild d_X9_reckons_69 rfl ?_
          refine pm_ki d_X9_reckons_71 ?_
          refine pm_isub d_X9_reckons_74 ?_
          obtain ⟨b43, hT⟩ := ps_gd hK
          replace hK := hT
          clear hT
          refine ps_iald d_X9_reckons_75 at_334 a_8_7 (ps_in_of b43) rfl ?_
          refine ps_topI (fun v38 ev38 => ?_)
          replace hK := ps_ltE ev38 hK
          obtain ⟨b42, hT⟩ := ps_gd hK
          replace hK := hT
          clear hT
          refine ps_iast d_X9_reckons_76 at_333 a_8_6 (ps_in_of b42) ?_
          refine ps_nmS (fun σ39 eσ39 => ?_)
          replace hK := ps_ltE eσ39 hK
          refine pm_inc2 d_X9_reckons_77 rfl ?_
          obtain ⟨v40, ev40⟩ : ∃ y : Int32, y = x2 + 1 := ⟨_, rfl⟩
          rw [← ev40]
          replace hK := ps_ltE ev40 hK
          refine pm_goto d_X9_reckons_80 ?_
          refine pm_inc3 d_X9_reckons_193 rfl ?_
          obtain ⟨v41, ev41⟩ : ∃ y : Int32, y = x3 + 1 := ⟨_, rfl⟩
          rw [← ev41]
          replace hK := ps_ltE ev41 hK
          refine pm_goto d_X9_reckons_196 ?_
          refine pm_wk (ls' := [some (.ref (g.2.2.1 + 327)), some (.int y1), some (.int v40), some (.int v41), none]) ⟨rfl, ⟨rfl, ⟨rfl, ⟨rfl, trivial⟩⟩⟩⟩ ?_
          exact ih _ _ _ hK
        · replace hK := ps_ifF c37 hK
          refine pm_ild d_X9_reckons_60 rfl ?_
          refine pm_goto d_X9_reckons_62 ?_
          obtain ⟨b47, hT⟩ := ps_gd hK
          replace hK := hT
          clear hT
          refine ps_iast d_X9_reckons_76 at_333 a_8_6 (ps_in_of b47) ?_
          refine ps_nmS (fun σ44 eσ44 => ?_)
          replace hK := ps_ltE eσ44 hK
          refine pm_inc2 d_X9_reckons_77 rfl ?_
          obtain ⟨v45, ev45⟩ : ∃ y : Int32, y = x2 + 1 := ⟨_, rfl⟩
          rw [← ev45]
          replace hK := ps_ltE ev45 hK
          refine pm_goto d_X9_reckons_80 ?_
          refine pm_inc3 d_X9_reckons_193 rfl ?_
          obtain ⟨v46, ev46⟩ : ∃ y : Int32, y = x3 + 1 := ⟨_, rfl⟩
          rw [← ev46]
          replace hK := ps_ltE ev46 hK
          refine pm_goto d_X9_reckons_196 ?_
          refine pm_wk (ls' := [some (.ref (g.2.2.1 + 327)), some (.int y1), some (.int v45), some (.int v46), none]) ⟨rfl, ⟨rfl, ⟨rfl, ⟨rfl, trivial⟩⟩⟩⟩ ?_
          exact ih _ _ _ hK
def qX9_reckons (p1 : Int32) (σ : ps_S) : Option (Int32 × ps_S) :=
  ps_bd (qX9_reckons_4 p1 ps_N 0 0 σ) (fun res σ51 => match res with
  | (v52, v53) =>
    ps_let (σ51.1 333 0) fun v54 =>
    some (v54, σ51))
set_option maxRecDepth 100000 in
theorem C_X9_reckons {g : pm_G} (p1 : Int32) (σ : ps_S) (P : Int32 → ps_S → Prop) (hK : ps_ok (qX9_reckons p1 σ) P) : ps_C g mX9_reckons 2 [.ref (g.2.2.1 + 327), .int p1] σ (ps_qI P) := by
  unfold qX9_reckons at hK
  refine ps_C.of (ls := [some (.ref (g.2.2.1 + 327)), some (.int p1), none, none, none]) 3 (by decide) rfl (Nat.le_of_ble_eq_true rfl) rfl ?_
  refine pm_ki d_X9_reckons_0 ?_
  refine pm_ist2 d_X9_reckons_1 rfl (by decide) ?_
  refine pm_ki d_X9_reckons_2 ?_
  refine pm_ist3 d_X9_reckons_3 rfl (by decide) ?_
  refine L_X9_reckons_4 _ (by decide) p1 _ _ _ _ (ps_ok.mono (ps_bdE hK) ?_)
  rintro ⟨v52, v53⟩ σ51 hT
  clear hK
  have hK := hT
  clear hT
  refine pm_ald d_X9_reckons_199 rfl ?_
  refine ps_getR (q := 333) d_X9_reckons_200 at_327 f_8_0_17 rfl ?_
  refine pm_ki d_X9_reckons_203 ?_
  refine ps_iald (x := σ51.1 333 0) d_X9_reckons_204 at_333 a_8_6 (ps_in_of rfl) rfl ?_
  refine ps_topI (fun v54 ev54 => ?_)
  replace hK := ps_ltE ev54 hK
  have hQ := ps_so hK
  exact ps_iret rfl d_X9_reckons_205 ⟨_, rfl, hQ⟩
def qX9_wantsNow (p1 : Int32) (σ : ps_S) : Option (Int32 × ps_S) :=
  if ps_in ((53 + p1)) 83 = true then
  ps_let (σ.1 335 ((53 + p1)).toNatClampNeg) fun v1 =>
  ps_bd (qX9_deviceOf p1 σ) (fun v2 σ3 =>
  ps_bd (qX9_laysWords v1 v2 p1 σ3) (fun _ σ5 =>
  ps_let (σ5.1 328 4) fun v6 =>
  if v6 = 1 then
  ps_bd (qX9_reckons 0 σ5) (fun v10 σ11 =>
  ps_bd (qX9_kept v10 0 99 σ11) (fun v12 σ13 =>
  some (v12, σ13)))
  else
  ps_bd (qX9_kept v1 0 99 σ5) (fun v8 σ9 =>
  some (v8, σ9))))
  else none
set_option maxRecDepth 100000 in
theorem C_X9_wantsNow {g : pm_G} (p1 : Int32) (σ : ps_S) (P : Int32 → ps_S → Prop) (hK : ps_ok (qX9_wantsNow p1 σ) P) : ps_C g mX9_wantsNow 3 [.ref (g.2.2.1 + 327), .int p1] σ (ps_qI P) := by
  unfold qX9_wantsNow at hK
  refine ps_C.of (ls := [some (.ref (g.2.2.1 + 327)), some (.int p1), none]) 1 (by decide) rfl (Nat.le_of_ble_eq_true rfl) rfl ?_
  refine pm_ald d_X9_wantsNow_0 rfl ?_
  refine ps_getR (q := 335) d_X9_wantsNow_1 at_327 f_8_0_19 rfl ?_
  refine pm_ki d_X9_wantsNow_4 ?_
  refine pm_ild d_X9_wantsNow_6 rfl ?_
  refine pm_iadd d_X9_wantsNow_7 ?_
  obtain ⟨b14, hT⟩ := ps_gd hK
  replace hK := hT
  clear hT
  refine ps_iald d_X9_wantsNow_8 at_335 a_8_8 (ps_in_of b14) rfl ?_
  refine ps_topI (fun v1 ev1 => ?_)
  replace hK := ps_ltE ev1 hK
  refine pm_ist2 d_X9_wantsNow_9 rfl (by decide) ?_
  refine pm_ald d_X9_wantsNow_10 rfl ?_
  refine pm_ild d_X9_wantsNow_11 rfl ?_
  refine pm_ald d_X9_wantsNow_12 rfl ?_
  refine pm_ild d_X9_wantsNow_13 rfl ?_
  refine ps_cVI d_X9_wantsNow_14 mv_X9_deviceOf at_327 ob_8_0 rfl (As := [.int p1]) rfl rfl (ps_room.of (by omega) (by decide)) (Nat.le_of_ble_eq_true rfl) (C_X9_deviceOf p1 σ _ (ps_bdE hK)) ?_
  intro v2 σ3 hT
  clear hK
  have hK := hT
  clear hT
  refine pm_ild d_X9_wantsNow_17 rfl ?_
  refine ps_cVV d_X9_wantsNow_18 mv_X9_laysWords at_327 ob_8_0 rfl (As := [.int v1, .int v2, .int p1]) rfl rfl (ps_room.of (by omega) (by decide)) (Nat.le_of_ble_eq_true rfl) (C_X9_laysWords v1 v2 p1 σ3 _ (ps_bdE hK)) ?_
  intro σ5 hT
  clear hK
  have hK := hT
  clear hT
  refine pm_ald d_X9_wantsNow_21 rfl ?_
  refine ps_getR (q := 328) d_X9_wantsNow_22 at_327 f_8_0_1 rfl ?_
  refine pm_ki d_X9_wantsNow_25 ?_
  refine ps_iald (x := σ5.1 328 4) d_X9_wantsNow_26 at_328 a_8_1 (ps_in_of rfl) rfl ?_
  refine ps_topI (fun v6 ev6 => ?_)
  replace hK := ps_ltE ev6 hK
  refine pm_ki d_X9_wantsNow_27 ?_
  refine pm_icmp_ne d_X9_wantsNow_28 (fun c7 => ?_) (fun c7 => ?_)
  · replace hK := ps_ifF c7 hK
    refine pm_ild d_X9_wantsNow_39 rfl ?_
    refine pm_ki d_X9_wantsNow_40 ?_
    refine pm_ki d_X9_wantsNow_41 ?_
    refine ps_cSI d_X9_wantsNow_43 ms_X9_kept (As := [.int v1, .int 0, .int 99]) rfl rfl (ps_room.of (by omega) (by decide)) (Nat.le_of_ble_eq_true rfl) (C_X9_kept v1 0 99 σ5 _ (ps_bdE hK)) ?_
    intro v8 σ9 hT
    clear hK
    have hK := hT
    clear hT
    have hQ := ps_so hK
    exact ps_iret rfl d_X9_wantsNow_46 ⟨_, rfl, hQ⟩
  · replace hK := ps_ifT c7 hK
    refine pm_ald d_X9_wantsNow_31 rfl ?_
    refine pm_ki d_X9_wantsNow_32 ?_
    refine ps_cVI d_X9_wantsNow_33 mv_X9_reckons at_327 ob_8_0 rfl (As := [.int 0]) rfl rfl (ps_room.of (by omega) (by decide)) (Nat.le_of_ble_eq_true rfl) (C_X9_reckons 0 σ5 _ (ps_bdE hK)) ?_
    intro v10 σ11 hT
    clear hK
    have hK := hT
    clear hT
    refine pm_goto d_X9_wantsNow_36 ?_
    refine pm_ki d_X9_wantsNow_40 ?_
    refine pm_ki d_X9_wantsNow_41 ?_
    refine ps_cSI d_X9_wantsNow_43 ms_X9_kept (As := [.int v10, .int 0, .int 99]) rfl rfl (ps_room.of (by omega) (by decide)) (Nat.le_of_ble_eq_true rfl) (C_X9_kept v10 0 99 σ11 _ (ps_bdE hK)) ?_
    intro v12 σ13 hT
    clear hK
    have hK := hT
    clear hT
    have hQ := ps_so hK
    exact ps_iret rfl d_X9_wantsNow_46 ⟨_, rfl, hQ⟩
def qX9_writes (p1 : Int32) (σ : ps_S) : Option (Unit × ps_S) :=
  if ps_in ((59 + p1)) 83 = true then
  ps_let (σ.1 335 ((59 + p1)).toNatClampNeg) fun v1 =>
  if v1 ≤ 0 then
  ps_bd (qX9_wantsNow p1 σ) (fun v3 σ4 =>
  ps_let (σ4.1 327 21) fun v5 =>
  ps_bd (qX9_allNow σ4) (fun v6 σ7 =>
  ps_let ((v5 - v6)) fun v8 =>
  if 0 ≤ v8 then
  if v8 ≤ v3 then
  if v3 ≤ v8 then
  if v8 = 0 then
  some ((), σ7)
  else
  if ps_in ((29 + p1)) 5550 = true then
  ps_let (σ7.1 328 ((29 + p1)).toNatClampNeg) fun v13 =>
  if ps_in ((1 + v13)) 83 = true then
  ps_let (σ7.1 335 ((1 + v13)).toNatClampNeg) fun v14 =>
  if v14 = 0 then
  ps_let (σ7.1 335 0) fun v39 =>
  if ps_in ((13 + v13)) 83 = true then
  ps_let (ps_rI σ7 335 (upd (σ7.1 335) ((13 + v13)).toNatClampNeg v39)) fun σ40 =>
  if ps_in ((1 + v13)) 83 = true then
  ps_let (σ40.1 335 ((1 + v13)).toNatClampNeg) fun v41 =>
  if ps_in ((1 + v13)) 83 = true then
  ps_let (ps_rI σ40 335 (upd (σ40.1 335) ((1 + v13)).toNatClampNeg ((v41 + v8)))) fun σ42 =>
  if ps_in ((71 + p1)) 83 = true then
  ps_let (σ42.1 335 ((71 + p1)).toNatClampNeg) fun v43 =>
  if ps_in ((71 + p1)) 83 = true then
  ps_let (ps_rI σ42 335 (upd (σ42.1 335) ((71 + p1)).toNatClampNeg ((v43 + v8)))) fun σ44 =>
  ps_bd (qX9_allNow σ44) (fun v45 σ46 =>
  ps_bd (qX9_freeNow σ46) (fun v47 σ48 =>
  if v47 < v45 then
  if ps_in ((65 + p1)) 83 = true then
  ps_let (σ48.1 335 ((65 + p1)).toNatClampNeg) fun v50 =>
  ps_bd (qX9_pauseOf p1 v8 σ48) (fun v51 σ52 =>
  if ps_in ((65 + p1)) 83 = true then
  ps_let (ps_rI σ52 335 (upd (σ52.1 335) ((65 + p1)).toNatClampNeg ((((((3 * v50)) + v51)) / 4)))) fun σ53 =>
  if ps_in ((65 + p1)) 83 = true then
  ps_let (σ53.1 335 ((65 + p1)).toNatClampNeg) fun v54 =>
  if ps_in ((59 + p1)) 83 = true then
  ps_let (ps_rI σ53 335 (upd (σ53.1 335) ((59 + p1)).toNatClampNeg v54)) fun σ55 =>
  some ((), σ55)
  else none
  else none
  else none)
  else none
  else
  some ((), σ48)))
  else none
  else none
  else none
  else none
  else none
  else
  if ps_in ((1 + v13)) 83 = true then
  ps_let (σ7.1 335 ((1 + v13)).toNatClampNeg) fun v16 =>
  if ps_in ((1 + v13)) 83 = true then
  ps_let (ps_rI σ7 335 (upd (σ7.1 335) ((1 + v13)).toNatClampNeg ((v16 + v8)))) fun σ17 =>
  if ps_in ((71 + p1)) 83 = true then
  ps_let (σ17.1 335 ((71 + p1)).toNatClampNeg) fun v18 =>
  if ps_in ((71 + p1)) 83 = true then
  ps_let (ps_rI σ17 335 (upd (σ17.1 335) ((71 + p1)).toNatClampNeg ((v18 + v8)))) fun σ19 =>
  ps_bd (qX9_allNow σ19) (fun v20 σ21 =>
  ps_bd (qX9_freeNow σ21) (fun v22 σ23 =>
  if v22 < v20 then
  if ps_in ((65 + p1)) 83 = true then
  ps_let (σ23.1 335 ((65 + p1)).toNatClampNeg) fun v25 =>
  ps_bd (qX9_pauseOf p1 v8 σ23) (fun v26 σ27 =>
  if ps_in ((65 + p1)) 83 = true then
  ps_let (ps_rI σ27 335 (upd (σ27.1 335) ((65 + p1)).toNatClampNeg ((((((3 * v25)) + v26)) / 4)))) fun σ28 =>
  if ps_in ((65 + p1)) 83 = true then
  ps_let (σ28.1 335 ((65 + p1)).toNatClampNeg) fun v29 =>
  if ps_in ((59 + p1)) 83 = true then
  ps_let (ps_rI σ28 335 (upd (σ28.1 335) ((59 + p1)).toNatClampNeg v29)) fun σ30 =>
  some ((), σ30)
  else none
  else none
  else none)
  else none
  else
  some ((), σ23)))
  else none
  else none
  else none
  else none
  else none
  else none
  else
  if ps_in ((77 + p1)) 83 = true then
  ps_let (σ7.1 335 ((77 + p1)).toNatClampNeg) fun v67 =>
  if ps_in ((77 + p1)) 83 = true then
  ps_let (ps_rI σ7 335 (upd (σ7.1 335) ((77 + p1)).toNatClampNeg ((v67 + 1)))) fun σ68 =>
  if v8 = 0 then
  some ((), σ68)
  else
  if ps_in ((29 + p1)) 5550 = true then
  ps_let (σ68.1 328 ((29 + p1)).toNatClampNeg) fun v70 =>
  if ps_in ((1 + v70)) 83 = true then
  ps_let (σ68.1 335 ((1 + v70)).toNatClampNeg) fun v71 =>
  if v71 = 0 then
  ps_let (σ68.1 335 0) fun v96 =>
  if ps_in ((13 + v70)) 83 = true then
  ps_let (ps_rI σ68 335 (upd (σ68.1 335) ((13 + v70)).toNatClampNeg v96)) fun σ97 =>
  if ps_in ((1 + v70)) 83 = true then
  ps_let (σ97.1 335 ((1 + v70)).toNatClampNeg) fun v98 =>
  if ps_in ((1 + v70)) 83 = true then
  ps_let (ps_rI σ97 335 (upd (σ97.1 335) ((1 + v70)).toNatClampNeg ((v98 + v8)))) fun σ99 =>
  if ps_in ((71 + p1)) 83 = true then
  ps_let (σ99.1 335 ((71 + p1)).toNatClampNeg) fun v100 =>
  if ps_in ((71 + p1)) 83 = true then
  ps_let (ps_rI σ99 335 (upd (σ99.1 335) ((71 + p1)).toNatClampNeg ((v100 + v8)))) fun σ101 =>
  ps_bd (qX9_allNow σ101) (fun v102 σ103 =>
  ps_bd (qX9_freeNow σ103) (fun v104 σ105 =>
  if v104 < v102 then
  if ps_in ((65 + p1)) 83 = true then
  ps_let (σ105.1 335 ((65 + p1)).toNatClampNeg) fun v107 =>
  ps_bd (qX9_pauseOf p1 v8 σ105) (fun v108 σ109 =>
  if ps_in ((65 + p1)) 83 = true then
  ps_let (ps_rI σ109 335 (upd (σ109.1 335) ((65 + p1)).toNatClampNeg ((((((3 * v107)) + v108)) / 4)))) fun σ110 =>
  if ps_in ((65 + p1)) 83 = true then
  ps_let (σ110.1 335 ((65 + p1)).toNatClampNeg) fun v111 =>
  if ps_in ((59 + p1)) 83 = true then
  ps_let (ps_rI σ110 335 (upd (σ110.1 335) ((59 + p1)).toNatClampNeg v111)) fun σ112 =>
  some ((), σ112)
  else none
  else none
  else none)
  else none
  else
  some ((), σ105)))
  else none
  else none
  else none
  else none
  else none
  else
  if ps_in ((1 + v70)) 83 = true then
  ps_let (σ68.1 335 ((1 + v70)).toNatClampNeg) fun v73 =>
  if ps_in ((1 + v70)) 83 = true then
  ps_let (ps_rI σ68 335 (upd (σ68.1 335) ((1 + v70)).toNatClampNeg ((v73 + v8)))) fun σ74 =>
  if ps_in ((71 + p1)) 83 = true then
  ps_let (σ74.1 335 ((71 + p1)).toNatClampNeg) fun v75 =>
  if ps_in ((71 + p1)) 83 = true then
  ps_let (ps_rI σ74 335 (upd (σ74.1 335) ((71 + p1)).toNatClampNeg ((v75 + v8)))) fun σ76 =>
  ps_bd (qX9_allNow σ76) (fun v77 σ78 =>
  ps_bd (qX9_freeNow σ78) (fun v79 σ80 =>
  if v79 < v77 then
  if ps_in ((65 + p1)) 83 = true then
  ps_let (σ80.1 335 ((65 + p1)).toNatClampNeg) fun v82 =>
  ps_bd (qX9_pauseOf p1 v8 σ80) (fun v83 σ84 =>
  if ps_in ((65 + p1)) 83 = true then
  ps_let (ps_rI σ84 335 (upd (σ84.1 335) ((65 + p1)).toNatClampNeg ((((((3 * v82)) + v83)) / 4)))) fun σ85 =>
  if ps_in ((65 + p1)) 83 = true then
  ps_let (σ85.1 335 ((65 + p1)).toNatClampNeg) fun v86 =>
  if ps_in ((59 + p1)) 83 = true then
  ps_let (ps_rI σ85 335 (upd (σ85.1 335) ((59 + p1)).toNatClampNeg v86)) fun σ87 =>
  some ((), σ87)
  else none
  else none
  else none)
  else none
  else
  some ((), σ80)))
  else none
  else none
  else none
  else none
  else none
  else none
  else none
  else none
  else
  if v3 ≤ v3 then
  if v3 = 0 then
  some ((), σ7)
  else
  if ps_in ((29 + p1)) 5550 = true then
  ps_let (σ7.1 328 ((29 + p1)).toNatClampNeg) fun v128 =>
  if ps_in ((1 + v128)) 83 = true then
  ps_let (σ7.1 335 ((1 + v128)).toNatClampNeg) fun v129 =>
  if v129 = 0 then
  ps_let (σ7.1 335 0) fun v154 =>
  if ps_in ((13 + v128)) 83 = true then
  ps_let (ps_rI σ7 335 (upd (σ7.1 335) ((13 + v128)).toNatClampNeg v154)) fun σ155 =>
  if ps_in ((1 + v128)) 83 = true then
  ps_let (σ155.1 335 ((1 + v128)).toNatClampNeg) fun v156 =>
  if ps_in ((1 + v128)) 83 = true then
  ps_let (ps_rI σ155 335 (upd (σ155.1 335) ((1 + v128)).toNatClampNeg ((v156 + v3)))) fun σ157 =>
  if ps_in ((71 + p1)) 83 = true then
  ps_let (σ157.1 335 ((71 + p1)).toNatClampNeg) fun v158 =>
  if ps_in ((71 + p1)) 83 = true then
  ps_let (ps_rI σ157 335 (upd (σ157.1 335) ((71 + p1)).toNatClampNeg ((v158 + v3)))) fun σ159 =>
  ps_bd (qX9_allNow σ159) (fun v160 σ161 =>
  ps_bd (qX9_freeNow σ161) (fun v162 σ163 =>
  if v162 < v160 then
  if ps_in ((65 + p1)) 83 = true then
  ps_let (σ163.1 335 ((65 + p1)).toNatClampNeg) fun v165 =>
  ps_bd (qX9_pauseOf p1 v3 σ163) (fun v166 σ167 =>
  if ps_in ((65 + p1)) 83 = true then
  ps_let (ps_rI σ167 335 (upd (σ167.1 335) ((65 + p1)).toNatClampNeg ((((((3 * v165)) + v166)) / 4)))) fun σ168 =>
  if ps_in ((65 + p1)) 83 = true then
  ps_let (σ168.1 335 ((65 + p1)).toNatClampNeg) fun v169 =>
  if ps_in ((59 + p1)) 83 = true then
  ps_let (ps_rI σ168 335 (upd (σ168.1 335) ((59 + p1)).toNatClampNeg v169)) fun σ170 =>
  some ((), σ170)
  else none
  else none
  else none)
  else none
  else
  some ((), σ163)))
  else none
  else none
  else none
  else none
  else none
  else
  if ps_in ((1 + v128)) 83 = true then
  ps_let (σ7.1 335 ((1 + v128)).toNatClampNeg) fun v131 =>
  if ps_in ((1 + v128)) 83 = true then
  ps_let (ps_rI σ7 335 (upd (σ7.1 335) ((1 + v128)).toNatClampNeg ((v131 + v3)))) fun σ132 =>
  if ps_in ((71 + p1)) 83 = true then
  ps_let (σ132.1 335 ((71 + p1)).toNatClampNeg) fun v133 =>
  if ps_in ((71 + p1)) 83 = true then
  ps_let (ps_rI σ132 335 (upd (σ132.1 335) ((71 + p1)).toNatClampNeg ((v133 + v3)))) fun σ134 =>
  ps_bd (qX9_allNow σ134) (fun v135 σ136 =>
  ps_bd (qX9_freeNow σ136) (fun v137 σ138 =>
  if v137 < v135 then
  if ps_in ((65 + p1)) 83 = true then
  ps_let (σ138.1 335 ((65 + p1)).toNatClampNeg) fun v140 =>
  ps_bd (qX9_pauseOf p1 v3 σ138) (fun v141 σ142 =>
  if ps_in ((65 + p1)) 83 = true then
  ps_let (ps_rI σ142 335 (upd (σ142.1 335) ((65 + p1)).toNatClampNeg ((((((3 * v140)) + v141)) / 4)))) fun σ143 =>
  if ps_in ((65 + p1)) 83 = true then
  ps_let (σ143.1 335 ((65 + p1)).toNatClampNeg) fun v144 =>
  if ps_in ((59 + p1)) 83 = true then
  ps_let (ps_rI σ143 335 (upd (σ143.1 335) ((59 + p1)).toNatClampNeg v144)) fun σ145 =>
  some ((), σ145)
  else none
  else none
  else none)
  else none
  else
  some ((), σ138)))
  else none
  else none
  else none
  else none
  else none
  else none
  else
  if ps_in ((77 + p1)) 83 = true then
  ps_let (σ7.1 335 ((77 + p1)).toNatClampNeg) fun v182 =>
  if ps_in ((77 + p1)) 83 = true then
  ps_let (ps_rI σ7 335 (upd (σ7.1 335) ((77 + p1)).toNatClampNeg ((v182 + 1)))) fun σ183 =>
  if v3 = 0 then
  some ((), σ183)
  else
  if ps_in ((29 + p1)) 5550 = true then
  ps_let (σ183.1 328 ((29 + p1)).toNatClampNeg) fun v185 =>
  if ps_in ((1 + v185)) 83 = true then
  ps_let (σ183.1 335 ((1 + v185)).toNatClampNeg) fun v186 =>
  if v186 = 0 then
  ps_let (σ183.1 335 0) fun v211 =>
  if ps_in ((13 + v185)) 83 = true then
  ps_let (ps_rI σ183 335 (upd (σ183.1 335) ((13 + v185)).toNatClampNeg v211)) fun σ212 =>
  if ps_in ((1 + v185)) 83 = true then
  ps_let (σ212.1 335 ((1 + v185)).toNatClampNeg) fun v213 =>
  if ps_in ((1 + v185)) 83 = true then
  ps_let (ps_rI σ212 335 (upd (σ212.1 335) ((1 + v185)).toNatClampNeg ((v213 + v3)))) fun σ214 =>
  if ps_in ((71 + p1)) 83 = true then
  ps_let (σ214.1 335 ((71 + p1)).toNatClampNeg) fun v215 =>
  if ps_in ((71 + p1)) 83 = true then
  ps_let (ps_rI σ214 335 (upd (σ214.1 335) ((71 + p1)).toNatClampNeg ((v215 + v3)))) fun σ216 =>
  ps_bd (qX9_allNow σ216) (fun v217 σ218 =>
  ps_bd (qX9_freeNow σ218) (fun v219 σ220 =>
  if v219 < v217 then
  if ps_in ((65 + p1)) 83 = true then
  ps_let (σ220.1 335 ((65 + p1)).toNatClampNeg) fun v222 =>
  ps_bd (qX9_pauseOf p1 v3 σ220) (fun v223 σ224 =>
  if ps_in ((65 + p1)) 83 = true then
  ps_let (ps_rI σ224 335 (upd (σ224.1 335) ((65 + p1)).toNatClampNeg ((((((3 * v222)) + v223)) / 4)))) fun σ225 =>
  if ps_in ((65 + p1)) 83 = true then
  ps_let (σ225.1 335 ((65 + p1)).toNatClampNeg) fun v226 =>
  if ps_in ((59 + p1)) 83 = true then
  ps_let (ps_rI σ225 335 (upd (σ225.1 335) ((59 + p1)).toNatClampNeg v226)) fun σ227 =>
  some ((), σ227)
  else none
  else none
  else none)
  else none
  else
  some ((), σ220)))
  else none
  else none
  else none
  else none
  else none
  else
  if ps_in ((1 + v185)) 83 = true then
  ps_let (σ183.1 335 ((1 + v185)).toNatClampNeg) fun v188 =>
  if ps_in ((1 + v185)) 83 = true then
  ps_let (ps_rI σ183 335 (upd (σ183.1 335) ((1 + v185)).toNatClampNeg ((v188 + v3)))) fun σ189 =>
  if ps_in ((71 + p1)) 83 = true then
  ps_let (σ189.1 335 ((71 + p1)).toNatClampNeg) fun v190 =>
  if ps_in ((71 + p1)) 83 = true then
  ps_let (ps_rI σ189 335 (upd (σ189.1 335) ((71 + p1)).toNatClampNeg ((v190 + v3)))) fun σ191 =>
  ps_bd (qX9_allNow σ191) (fun v192 σ193 =>
  ps_bd (qX9_freeNow σ193) (fun v194 σ195 =>
  if v194 < v192 then
  if ps_in ((65 + p1)) 83 = true then
  ps_let (σ195.1 335 ((65 + p1)).toNatClampNeg) fun v197 =>
  ps_bd (qX9_pauseOf p1 v3 σ195) (fun v198 σ199 =>
  if ps_in ((65 + p1)) 83 = true then
  ps_let (ps_rI σ199 335 (upd (σ199.1 335) ((65 + p1)).toNatClampNeg ((((((3 * v197)) + v198)) / 4)))) fun σ200 =>
  if ps_in ((65 + p1)) 83 = true then
  ps_let (σ200.1 335 ((65 + p1)).toNatClampNeg) fun v201 =>
  if ps_in ((59 + p1)) 83 = true then
  ps_let (ps_rI σ200 335 (upd (σ200.1 335) ((59 + p1)).toNatClampNeg v201)) fun σ202 =>
  some ((), σ202)
  else none
  else none
  else none)
  else none
  else
  some ((), σ195)))
  else none
  else none
  else none
  else none
  else none
  else none
  else none
  else none
  else
  if v3 ≤ 0 then
  some ((), σ7)
  else
  if ps_in ((77 + p1)) 83 = true then
  ps_let (σ7.1 335 ((77 + p1)).toNatClampNeg) fun v243 =>
  if ps_in ((77 + p1)) 83 = true then
  ps_let (ps_rI σ7 335 (upd (σ7.1 335) ((77 + p1)).toNatClampNeg ((v243 + 1)))) fun σ244 =>
  some ((), σ244)
  else none
  else none))
  else
  if ps_in ((59 + p1)) 83 = true then
  ps_let (σ.1 335 ((59 + p1)).toNatClampNeg) fun v248 =>
  if ps_in ((59 + p1)) 83 = true then
  ps_let (ps_rI σ 335 (upd (σ.1 335) ((59 + p1)).toNatClampNeg ((v248 - 1)))) fun σ249 =>
  some ((), σ249)
  else none
  else none
  else none
set_option maxRecDepth 100000 in
theorem C_X9_writes {g : pm_G} (p1 : Int32) (σ : ps_S) (P : Unit → ps_S → Prop) (hK : ps_ok (qX9_writes p1 σ) P) : ps_C g mX9_writes 4 [.ref (g.2.2.1 + 327), .int p1] σ (ps_qV P) := by
  unfold qX9_writes at hK
  refine ps_C.of (ls := [some (.ref (g.2.2.1 + 327)), some (.int p1), none, none, none, none]) 4 (by decide) rfl (Nat.le_of_ble_eq_true rfl) rfl ?_
  refine pm_ald d_X9_writes_0 rfl ?_
  refine ps_getR (q := 335) d_X9_writes_1 at_327 f_8_0_19 rfl ?_
  refine pm_ki d_X9_writes_4 ?_
  refine pm_ild d_X9_writes_6 rfl ?_
  refine pm_iadd d_X9_writes_7 ?_
  obtain ⟨b252, hT⟩ := ps_gd hK
  replace hK := hT
  clear hT
  refine ps_iald d_X9_writes_8 at_335 a_8_8 (ps_in_of b252) rfl ?_
  refine ps_topI (fun v1 ev1 => ?_)
  replace hK := ps_ltE ev1 hK
  refine pm_if_le d_X9_writes_9 (fun c2 => ?_) (fun c2 => ?_)
  · replace hK := ps_ifT c2 hK
    refine pm_ald d_X9_writes_26 rfl ?_
    refine pm_ild d_X9_writes_27 rfl ?_
    refine ps_cVI d_X9_writes_28 mv_X9_wantsNow at_327 ob_8_0 rfl (As := [.int p1]) rfl rfl (ps_room.of (by omega) (by decide)) (Nat.le_of_ble_eq_true rfl) (C_X9_wantsNow p1 σ _ (ps_bdE hK)) ?_
    intro v3 σ4 hT
    clear hK
    have hK := hT
    clear hT
    refine pm_ist2 d_X9_writes_31 rfl (by decide) ?_
    refine pm_ald d_X9_writes_32 rfl ?_
    refine ps_getI d_X9_writes_33 at_327 f_8_0_21 rfl ?_
    refine ps_topI (fun v5 ev5 => ?_)
    replace hK := ps_ltE ev5 hK
    refine pm_ald d_X9_writes_36 rfl ?_
    refine ps_cVI d_X9_writes_37 mv_X9_allNow at_327 ob_8_0 rfl (As := []) rfl rfl (ps_room.of (by omega) (by decide)) (Nat.le_of_ble_eq_true rfl) (C_X9_allNow σ4 _ (ps_bdE hK)) ?_
    intro v6 σ7 hT
    clear hK
    have hK := hT
    clear hT
    refine pm_isub d_X9_writes_40 ?_
    refine ps_topI (fun v8 ev8 => ?_)
    replace hK := ps_ltE ev8 hK
    refine pm_ist3 d_X9_writes_41 rfl (by decide) ?_
    refine pm_ild d_X9_writes_42 rfl ?_
    refine pm_if_ge d_X9_writes_43 (fun c9 => ?_) (fun c9 => ?_)
    · replace hK := ps_ifT c9 hK
      refine pm_ild d_X9_writes_50 rfl ?_
      refine pm_ild d_X9_writes_51 rfl ?_
      refine pm_icmp_ge d_X9_writes_52 (fun c10 => ?_) (fun c10 => ?_)
      · replace hK := ps_ifT c10 hK
        refine pm_ild d_X9_writes_59 rfl ?_
        refine pm_ist4 d_X9_writes_60 rfl (by decide) ?_
        refine pm_ild d_X9_writes_62 rfl ?_
        refine pm_ild d_X9_writes_63 rfl ?_
        refine pm_icmp_le d_X9_writes_65 (fun c11 => ?_) (fun c11 => ?_)
        · replace hK := ps_ifT c11 hK
          refine pm_ild d_X9_writes_81 rfl ?_
          refine pm_if_ne d_X9_writes_83 (fun c12 => ?_) (fun c12 => ?_)
          · replace hK := ps_ifF c12 hK
            refine pm_ald d_X9_writes_87 rfl ?_
            refine ps_getR (q := 328) d_X9_writes_88 at_327 f_8_0_1 rfl ?_
            refine pm_ki d_X9_writes_91 ?_
            refine pm_ild d_X9_writes_93 rfl ?_
            refine pm_iadd d_X9_writes_94 ?_
            obtain ⟨b66, hT⟩ := ps_gd hK
            replace hK := hT
            clear hT
            refine ps_iald d_X9_writes_95 at_328 a_8_1 (ps_in_of b66) rfl ?_
            refine ps_topI (fun v13 ev13 => ?_)
            replace hK := ps_ltE ev13 hK
            refine pm_ist5 d_X9_writes_96 rfl (by decide) ?_
            refine pm_ald d_X9_writes_98 rfl ?_
            refine ps_getR (q := 335) d_X9_writes_99 at_327 f_8_0_19 rfl ?_
            refine pm_ki d_X9_writes_102 ?_
            refine pm_ild d_X9_writes_103 rfl ?_
            refine pm_iadd d_X9_writes_105 ?_
            obtain ⟨b65, hT⟩ := ps_gd hK
            replace hK := hT
            clear hT
            refine ps_iald d_X9_writes_106 at_335 a_8_8 (ps_in_of b65) rfl ?_
            refine ps_topI (fun v14 ev14 => ?_)
            replace hK := ps_ltE ev14 hK
            refine pm_if_ne d_X9_writes_107 (fun c15 => ?_) (fun c15 => ?_)
            · replace hK := ps_ifF c15 hK
              refine pm_ald d_X9_writes_126 rfl ?_
              refine ps_getR (q := 335) d_X9_writes_127 at_327 f_8_0_19 rfl ?_
              refine pm_ki d_X9_writes_130 ?_
              refine pm_ild d_X9_writes_131 rfl ?_
              refine pm_iadd d_X9_writes_133 ?_
              refine pm_dup2 d_X9_writes_134 rfl rfl ?_
              obtain ⟨b38, hT⟩ := ps_gd hK
              replace hK := hT
              clear hT
              refine ps_iald d_X9_writes_135 at_335 a_8_8 (ps_in_of b38) rfl ?_
              refine ps_topI (fun v16 ev16 => ?_)
              replace hK := ps_ltE ev16 hK
              refine pm_ild d_X9_writes_136 rfl ?_
              refine pm_iadd d_X9_writes_138 ?_
              obtain ⟨b37, hT⟩ := ps_gd hK
              replace hK := hT
              clear hT
              refine ps_iast d_X9_writes_139 at_335 a_8_8 (ps_in_of b37) ?_
              refine ps_nmS (fun σ17 eσ17 => ?_)
              replace hK := ps_ltE eσ17 hK
              refine pm_ald d_X9_writes_140 rfl ?_
              refine ps_getR (q := 335) d_X9_writes_141 at_327 f_8_0_19 rfl ?_
              refine pm_ki d_X9_writes_144 ?_
              refine pm_ild d_X9_writes_146 rfl ?_
              refine pm_iadd d_X9_writes_147 ?_
              refine pm_dup2 d_X9_writes_148 rfl rfl ?_
              obtain ⟨b36, hT⟩ := ps_gd hK
              replace hK := hT
              clear hT
              refine ps_iald d_X9_writes_149 at_335 a_8_8 (ps_in_of b36) rfl ?_
              refine ps_topI (fun v18 ev18 => ?_)
              replace hK := ps_ltE ev18 hK
              refine pm_ild d_X9_writes_150 rfl ?_
              refine pm_iadd d_X9_writes_152 ?_
              obtain ⟨b35, hT⟩ := ps_gd hK
              replace hK := hT
              clear hT
              refine ps_iast d_X9_writes_153 at_335 a_8_8 (ps_in_of b35) ?_
              refine ps_nmS (fun σ19 eσ19 => ?_)
              replace hK := ps_ltE eσ19 hK
              refine pm_ald d_X9_writes_154 rfl ?_
              refine ps_cVI d_X9_writes_155 mv_X9_allNow at_327 ob_8_0 rfl (As := []) rfl rfl (ps_room.of (by omega) (by decide)) (Nat.le_of_ble_eq_true rfl) (C_X9_allNow σ19 _ (ps_bdE hK)) ?_
              intro v20 σ21 hT
              clear hK
              have hK := hT
              clear hT
              refine pm_ald d_X9_writes_158 rfl ?_
              refine ps_cVI d_X9_writes_159 mv_X9_freeNow at_327 ob_8_0 rfl (As := []) rfl rfl (ps_room.of (by omega) (by decide)) (Nat.le_of_ble_eq_true rfl) (C_X9_freeNow σ21 _ (ps_bdE hK)) ?_
              intro v22 σ23 hT
              clear hK
              have hK := hT
              clear hT
              refine pm_icmp_gt d_X9_writes_162 (fun c24 => ?_) (fun c24 => ?_)
              · replace hK := ps_ifT c24 hK
                refine pm_ald d_X9_writes_166 rfl ?_
                refine ps_getR (q := 335) d_X9_writes_167 at_327 f_8_0_19 rfl ?_
                refine pm_ki d_X9_writes_170 ?_
                refine pm_ild d_X9_writes_172 rfl ?_
                refine pm_iadd d_X9_writes_173 ?_
                refine pm_ki d_X9_writes_174 ?_
                refine pm_ald d_X9_writes_175 rfl ?_
                refine ps_getR (q := 335) d_X9_writes_176 at_327 f_8_0_19 rfl ?_
                refine pm_ki d_X9_writes_179 ?_
                refine pm_ild d_X9_writes_181 rfl ?_
                refine pm_iadd d_X9_writes_182 ?_
                obtain ⟨b34, hT⟩ := ps_gd hK
                replace hK := hT
                clear hT
                refine ps_iald d_X9_writes_183 at_335 a_8_8 (ps_in_of b34) rfl ?_
                refine ps_topI (fun v25 ev25 => ?_)
                replace hK := ps_ltE ev25 hK
                refine pm_imul d_X9_writes_184 ?_
                refine pm_ald d_X9_writes_185 rfl ?_
                refine pm_ild d_X9_writes_186 rfl ?_
                refine pm_ild d_X9_writes_187 rfl ?_
                refine ps_cVI d_X9_writes_189 mv_X9_pauseOf at_327 ob_8_0 rfl (As := [.int p1, .int v8]) rfl rfl (ps_room.of (by omega) (by decide)) (Nat.le_of_ble_eq_true rfl) (C_X9_pauseOf p1 v8 σ23 _ (ps_bdE hK)) ?_
                intro v26 σ27 hT
                clear hK
                have hK := hT
                clear hT
                refine pm_iadd d_X9_writes_192 ?_
                refine pm_ki d_X9_writes_193 ?_
                refine pm_idiv d_X9_writes_194 (by decide) ?_
                obtain ⟨b33, hT⟩ := ps_gd hK
                replace hK := hT
                clear hT
                refine ps_iast d_X9_writes_195 at_335 a_8_8 (ps_in_of b33) ?_
                refine ps_nmS (fun σ28 eσ28 => ?_)
                replace hK := ps_ltE eσ28 hK
                refine pm_ald d_X9_writes_196 rfl ?_
                refine ps_getR (q := 335) d_X9_writes_197 at_327 f_8_0_19 rfl ?_
                refine pm_ki d_X9_writes_200 ?_
                refine pm_ild d_X9_writes_202 rfl ?_
                refine pm_iadd d_X9_writes_203 ?_
                refine pm_ald d_X9_writes_204 rfl ?_
                refine ps_getR (q := 335) d_X9_writes_205 at_327 f_8_0_19 rfl ?_
                refine pm_ki d_X9_writes_208 ?_
                refine pm_ild d_X9_writes_210 rfl ?_
                refine pm_iadd d_X9_writes_211 ?_
                obtain ⟨b32, hT⟩ := ps_gd hK
                replace hK := hT
                clear hT
                refine ps_iald d_X9_writes_212 at_335 a_8_8 (ps_in_of b32) rfl ?_
                refine ps_topI (fun v29 ev29 => ?_)
                replace hK := ps_ltE ev29 hK
                obtain ⟨b31, hT⟩ := ps_gd hK
                replace hK := hT
                clear hT
                refine ps_iast d_X9_writes_213 at_335 a_8_8 (ps_in_of b31) ?_
                refine ps_nmS (fun σ30 eσ30 => ?_)
                replace hK := ps_ltE eσ30 hK
                have hQ := ps_so hK
                exact ps_vret rfl d_X9_writes_214 ⟨rfl, hQ⟩
              · replace hK := ps_ifF c24 hK
                have hQ := ps_so hK
                exact ps_vret rfl d_X9_writes_165 ⟨rfl, hQ⟩
            · replace hK := ps_ifT c15 hK
              refine pm_ald d_X9_writes_110 rfl ?_
              refine ps_getR (q := 335) d_X9_writes_111 at_327 f_8_0_19 rfl ?_
              refine pm_ki d_X9_writes_114 ?_
              refine pm_ild d_X9_writes_116 rfl ?_
              refine pm_iadd d_X9_writes_118 ?_
              refine pm_ald d_X9_writes_119 rfl ?_
              refine ps_getR (q := 335) d_X9_writes_120 at_327 f_8_0_19 rfl ?_
              refine pm_ki d_X9_writes_123 ?_
              refine ps_iald (x := σ7.1 335 0) d_X9_writes_124 at_335 a_8_8 (ps_in_of rfl) rfl ?_
              refine ps_topI (fun v39 ev39 => ?_)
              replace hK := ps_ltE ev39 hK
              obtain ⟨b64, hT⟩ := ps_gd hK
              replace hK := hT
              clear hT
              refine ps_iast d_X9_writes_125 at_335 a_8_8 (ps_in_of b64) ?_
              refine ps_nmS (fun σ40 eσ40 => ?_)
              replace hK := ps_ltE eσ40 hK
              refine pm_ald d_X9_writes_126 rfl ?_
              refine ps_getR (q := 335) d_X9_writes_127 at_327 f_8_0_19 rfl ?_
              refine pm_ki d_X9_writes_130 ?_
              refine pm_ild d_X9_writes_131 rfl ?_
              refine pm_iadd d_X9_writes_133 ?_
              refine pm_dup2 d_X9_writes_134 rfl rfl ?_
              obtain ⟨b63, hT⟩ := ps_gd hK
              replace hK := hT
              clear hT
              refine ps_iald d_X9_writes_135 at_335 a_8_8 (ps_in_of b63) rfl ?_
              refine ps_topI (fun v41 ev41 => ?_)
              replace hK := ps_ltE ev41 hK
              refine pm_ild d_X9_writes_136 rfl ?_
              refine pm_iadd d_X9_writes_138 ?_
              obtain ⟨b62, hT⟩ := ps_gd hK
              replace hK := hT
              clear hT
              refine ps_iast d_X9_writes_139 at_335 a_8_8 (ps_in_of b62) ?_
              refine ps_nmS (fun σ42 eσ42 => ?_)
              replace hK := ps_ltE eσ42 hK
              refine pm_ald d_X9_writes_140 rfl ?_
              refine ps_getR (q := 335) d_X9_writes_141 at_327 f_8_0_19 rfl ?_
              refine pm_ki d_X9_writes_144 ?_
              refine pm_ild d_X9_writes_146 rfl ?_
              refine pm_iadd d_X9_writes_147 ?_
              refine pm_dup2 d_X9_writes_148 rfl rfl ?_
              obtain ⟨b61, hT⟩ := ps_gd hK
              replace hK := hT
              clear hT
              refine ps_iald d_X9_writes_149 at_335 a_8_8 (ps_in_of b61) rfl ?_
              refine ps_topI (fun v43 ev43 => ?_)
              replace hK := ps_ltE ev43 hK
              refine pm_ild d_X9_writes_150 rfl ?_
              refine pm_iadd d_X9_writes_152 ?_
              obtain ⟨b60, hT⟩ := ps_gd hK
              replace hK := hT
              clear hT
              refine ps_iast d_X9_writes_153 at_335 a_8_8 (ps_in_of b60) ?_
              refine ps_nmS (fun σ44 eσ44 => ?_)
              replace hK := ps_ltE eσ44 hK
              refine pm_ald d_X9_writes_154 rfl ?_
              refine ps_cVI d_X9_writes_155 mv_X9_allNow at_327 ob_8_0 rfl (As := []) rfl rfl (ps_room.of (by omega) (by decide)) (Nat.le_of_ble_eq_true rfl) (C_X9_allNow σ44 _ (ps_bdE hK)) ?_
              intro v45 σ46 hT
              clear hK
              have hK := hT
              clear hT
              refine pm_ald d_X9_writes_158 rfl ?_
              refine ps_cVI d_X9_writes_159 mv_X9_freeNow at_327 ob_8_0 rfl (As := []) rfl rfl (ps_room.of (by omega) (by decide)) (Nat.le_of_ble_eq_true rfl) (C_X9_freeNow σ46 _ (ps_bdE hK)) ?_
              intro v47 σ48 hT
              clear hK
              have hK := hT
              clear hT
              refine pm_icmp_gt d_X9_writes_162 (fun c49 => ?_) (fun c49 => ?_)
              · replace hK := ps_ifT c49 hK
                refine pm_ald d_X9_writes_166 rfl ?_
                refine ps_getR (q := 335) d_X9_writes_167 at_327 f_8_0_19 rfl ?_
                refine pm_ki d_X9_writes_170 ?_
                refine pm_ild d_X9_writes_172 rfl ?_
                refine pm_iadd d_X9_writes_173 ?_
                refine pm_ki d_X9_writes_174 ?_
                refine pm_ald d_X9_writes_175 rfl ?_
                refine ps_getR (q := 335) d_X9_writes_176 at_327 f_8_0_19 rfl ?_
                refine pm_ki d_X9_writes_179 ?_
                refine pm_ild d_X9_writes_181 rfl ?_
                refine pm_iadd d_X9_writes_182 ?_
                obtain ⟨b59, hT⟩ := ps_gd hK
                replace hK := hT
                clear hT
                refine ps_iald d_X9_writes_183 at_335 a_8_8 (ps_in_of b59) rfl ?_
                refine ps_topI (fun v50 ev50 => ?_)
                replace hK := ps_ltE ev50 hK
                refine pm_imul d_X9_writes_184 ?_
                refine pm_ald d_X9_writes_185 rfl ?_
                refine pm_ild d_X9_writes_186 rfl ?_
                refine pm_ild d_X9_writes_187 rfl ?_
                refine ps_cVI d_X9_writes_189 mv_X9_pauseOf at_327 ob_8_0 rfl (As := [.int p1, .int v8]) rfl rfl (ps_room.of (by omega) (by decide)) (Nat.le_of_ble_eq_true rfl) (C_X9_pauseOf p1 v8 σ48 _ (ps_bdE hK)) ?_
                intro v51 σ52 hT
                clear hK
                have hK := hT
                clear hT
                refine pm_iadd d_X9_writes_192 ?_
                refine pm_ki d_X9_writes_193 ?_
                refine pm_idiv d_X9_writes_194 (by decide) ?_
                obtain ⟨b58, hT⟩ := ps_gd hK
                replace hK := hT
                clear hT
                refine ps_iast d_X9_writes_195 at_335 a_8_8 (ps_in_of b58) ?_
                refine ps_nmS (fun σ53 eσ53 => ?_)
                replace hK := ps_ltE eσ53 hK
                refine pm_ald d_X9_writes_196 rfl ?_
                refine ps_getR (q := 335) d_X9_writes_197 at_327 f_8_0_19 rfl ?_
                refine pm_ki d_X9_writes_200 ?_
                refine pm_ild d_X9_writes_202 rfl ?_
                refine pm_iadd d_X9_writes_203 ?_
                refine pm_ald d_X9_writes_204 rfl ?_
                refine ps_getR (q := 335) d_X9_writes_205 at_327 f_8_0_19 rfl ?_
                refine pm_ki d_X9_writes_208 ?_
                refine pm_ild d_X9_writes_210 rfl ?_
                refine pm_iadd d_X9_writes_211 ?_
                obtain ⟨b57, hT⟩ := ps_gd hK
                replace hK := hT
                clear hT
                refine ps_iald d_X9_writes_212 at_335 a_8_8 (ps_in_of b57) rfl ?_
                refine ps_topI (fun v54 ev54 => ?_)
                replace hK := ps_ltE ev54 hK
                obtain ⟨b56, hT⟩ := ps_gd hK
                replace hK := hT
                clear hT
                refine ps_iast d_X9_writes_213 at_335 a_8_8 (ps_in_of b56) ?_
                refine ps_nmS (fun σ55 eσ55 => ?_)
                replace hK := ps_ltE eσ55 hK
                have hQ := ps_so hK
                exact ps_vret rfl d_X9_writes_214 ⟨rfl, hQ⟩
              · replace hK := ps_ifF c49 hK
                have hQ := ps_so hK
                exact ps_vret rfl d_X9_writes_165 ⟨rfl, hQ⟩
          · replace hK := ps_ifT c12 hK
            have hQ := ps_so hK
            exact ps_vret rfl d_X9_writes_86 ⟨rfl, hQ⟩
        · replace hK := ps_ifF c11 hK
          refine pm_ald d_X9_writes_68 rfl ?_
          refine ps_getR (q := 335) d_X9_writes_69 at_327 f_8_0_19 rfl ?_
          refine pm_ki d_X9_writes_72 ?_
          refine pm_ild d_X9_writes_74 rfl ?_
          refine pm_iadd d_X9_writes_75 ?_
          refine pm_dup2 d_X9_writes_76 rfl rfl ?_
          obtain ⟨b125, hT⟩ := ps_gd hK
          replace hK := hT
          clear hT
          refine ps_iald d_X9_writes_77 at_335 a_8_8 (ps_in_of b125) rfl ?_
          refine ps_topI (fun v67 ev67 => ?_)
          replace hK := ps_ltE ev67 hK
          refine pm_ki d_X9_writes_78 ?_
          refine pm_iadd d_X9_writes_79 ?_
          obtain ⟨b124, hT⟩ := ps_gd hK
          replace hK := hT
          clear hT
          refine ps_iast d_X9_writes_80 at_335 a_8_8 (ps_in_of b124) ?_
          refine ps_nmS (fun σ68 eσ68 => ?_)
          replace hK := ps_ltE eσ68 hK
          refine pm_ild d_X9_writes_81 rfl ?_
          refine pm_if_ne d_X9_writes_83 (fun c69 => ?_) (fun c69 => ?_)
          · replace hK := ps_ifF c69 hK
            refine pm_ald d_X9_writes_87 rfl ?_
            refine ps_getR (q := 328) d_X9_writes_88 at_327 f_8_0_1 rfl ?_
            refine pm_ki d_X9_writes_91 ?_
            refine pm_ild d_X9_writes_93 rfl ?_
            refine pm_iadd d_X9_writes_94 ?_
            obtain ⟨b123, hT⟩ := ps_gd hK
            replace hK := hT
            clear hT
            refine ps_iald d_X9_writes_95 at_328 a_8_1 (ps_in_of b123) rfl ?_
            refine ps_topI (fun v70 ev70 => ?_)
            replace hK := ps_ltE ev70 hK
            refine pm_ist5 d_X9_writes_96 rfl (by decide) ?_
            refine pm_ald d_X9_writes_98 rfl ?_
            refine ps_getR (q := 335) d_X9_writes_99 at_327 f_8_0_19 rfl ?_
            refine pm_ki d_X9_writes_102 ?_
            refine pm_ild d_X9_writes_103 rfl ?_
            refine pm_iadd d_X9_writes_105 ?_
            obtain ⟨b122, hT⟩ := ps_gd hK
            replace hK := hT
            clear hT
            refine ps_iald d_X9_writes_106 at_335 a_8_8 (ps_in_of b122) rfl ?_
            refine ps_topI (fun v71 ev71 => ?_)
            replace hK := ps_ltE ev71 hK
            refine pm_if_ne d_X9_writes_107 (fun c72 => ?_) (fun c72 => ?_)
            · replace hK := ps_ifF c72 hK
              refine pm_ald d_X9_writes_126 rfl ?_
              refine ps_getR (q := 335) d_X9_writes_127 at_327 f_8_0_19 rfl ?_
              refine pm_ki d_X9_writes_130 ?_
              refine pm_ild d_X9_writes_131 rfl ?_
              refine pm_iadd d_X9_writes_133 ?_
              refine pm_dup2 d_X9_writes_134 rfl rfl ?_
              obtain ⟨b95, hT⟩ := ps_gd hK
              replace hK := hT
              clear hT
              refine ps_iald d_X9_writes_135 at_335 a_8_8 (ps_in_of b95) rfl ?_
              refine ps_topI (fun v73 ev73 => ?_)
              replace hK := ps_ltE ev73 hK
              refine pm_ild d_X9_writes_136 rfl ?_
              refine pm_iadd d_X9_writes_138 ?_
              obtain ⟨b94, hT⟩ := ps_gd hK
              replace hK := hT
              clear hT
              refine ps_iast d_X9_writes_139 at_335 a_8_8 (ps_in_of b94) ?_
              refine ps_nmS (fun σ74 eσ74 => ?_)
              replace hK := ps_ltE eσ74 hK
              refine pm_ald d_X9_writes_140 rfl ?_
              refine ps_getR (q := 335) d_X9_writes_141 at_327 f_8_0_19 rfl ?_
              refine pm_ki d_X9_writes_144 ?_
              refine pm_ild d_X9_writes_146 rfl ?_
              refine pm_iadd d_X9_writes_147 ?_
              refine pm_dup2 d_X9_writes_148 rfl rfl ?_
              obtain ⟨b93, hT⟩ := ps_gd hK
              replace hK := hT
              clear hT
              refine ps_iald d_X9_writes_149 at_335 a_8_8 (ps_in_of b93) rfl ?_
              refine ps_topI (fun v75 ev75 => ?_)
              replace hK := ps_ltE ev75 hK
              refine pm_ild d_X9_writes_150 rfl ?_
              refine pm_iadd d_X9_writes_152 ?_
              obtain ⟨b92, hT⟩ := ps_gd hK
              replace hK := hT
              clear hT
              refine ps_iast d_X9_writes_153 at_335 a_8_8 (ps_in_of b92) ?_
              refine ps_nmS (fun σ76 eσ76 => ?_)
              replace hK := ps_ltE eσ76 hK
              refine pm_ald d_X9_writes_154 rfl ?_
              refine ps_cVI d_X9_writes_155 mv_X9_allNow at_327 ob_8_0 rfl (As := []) rfl rfl (ps_room.of (by omega) (by decide)) (Nat.le_of_ble_eq_true rfl) (C_X9_allNow σ76 _ (ps_bdE hK)) ?_
              intro v77 σ78 hT
              clear hK
              have hK := hT
              clear hT
              refine pm_ald d_X9_writes_158 rfl ?_
              refine ps_cVI d_X9_writes_159 mv_X9_freeNow at_327 ob_8_0 rfl (As := []) rfl rfl (ps_room.of (by omega) (by decide)) (Nat.le_of_ble_eq_true rfl) (C_X9_freeNow σ78 _ (ps_bdE hK)) ?_
              intro v79 σ80 hT
              clear hK
              have hK := hT
              clear hT
              refine pm_icmp_gt d_X9_writes_162 (fun c81 => ?_) (fun c81 => ?_)
              · replace hK := ps_ifT c81 hK
                refine pm_ald d_X9_writes_166 rfl ?_
                refine ps_getR (q := 335) d_X9_writes_167 at_327 f_8_0_19 rfl ?_
                refine pm_ki d_X9_writes_170 ?_
                refine pm_ild d_X9_writes_172 rfl ?_
                refine pm_iadd d_X9_writes_173 ?_
                refine pm_ki d_X9_writes_174 ?_
                refine pm_ald d_X9_writes_175 rfl ?_
                refine ps_getR (q := 335) d_X9_writes_176 at_327 f_8_0_19 rfl ?_
                refine pm_ki d_X9_writes_179 ?_
                refine pm_ild d_X9_writes_181 rfl ?_
                refine pm_iadd d_X9_writes_182 ?_
                obtain ⟨b91, hT⟩ := ps_gd hK
                replace hK := hT
                clear hT
                refine ps_iald d_X9_writes_183 at_335 a_8_8 (ps_in_of b91) rfl ?_
                refine ps_topI (fun v82 ev82 => ?_)
                replace hK := ps_ltE ev82 hK
                refine pm_imul d_X9_writes_184 ?_
                refine pm_ald d_X9_writes_185 rfl ?_
                refine pm_ild d_X9_writes_186 rfl ?_
                refine pm_ild d_X9_writes_187 rfl ?_
                refine ps_cVI d_X9_writes_189 mv_X9_pauseOf at_327 ob_8_0 rfl (As := [.int p1, .int v8]) rfl rfl (ps_room.of (by omega) (by decide)) (Nat.le_of_ble_eq_true rfl) (C_X9_pauseOf p1 v8 σ80 _ (ps_bdE hK)) ?_
                intro v83 σ84 hT
                clear hK
                have hK := hT
                clear hT
                refine pm_iadd d_X9_writes_192 ?_
                refine pm_ki d_X9_writes_193 ?_
                refine pm_idiv d_X9_writes_194 (by decide) ?_
                obtain ⟨b90, hT⟩ := ps_gd hK
                replace hK := hT
                clear hT
                refine ps_iast d_X9_writes_195 at_335 a_8_8 (ps_in_of b90) ?_
                refine ps_nmS (fun σ85 eσ85 => ?_)
                replace hK := ps_ltE eσ85 hK
                refine pm_ald d_X9_writes_196 rfl ?_
                refine ps_getR (q := 335) d_X9_writes_197 at_327 f_8_0_19 rfl ?_
                refine pm_ki d_X9_writes_200 ?_
                refine pm_ild d_X9_writes_202 rfl ?_
                refine pm_iadd d_X9_writes_203 ?_
                refine pm_ald d_X9_writes_204 rfl ?_
                refine ps_getR (q := 335) d_X9_writes_205 at_327 f_8_0_19 rfl ?_
                refine pm_ki d_X9_writes_208 ?_
                refine pm_ild d_X9_writes_210 rfl ?_
                refine pm_iadd d_X9_writes_211 ?_
                obtain ⟨b89, hT⟩ := ps_gd hK
                replace hK := hT
                clear hT
                refine ps_iald d_X9_writes_212 at_335 a_8_8 (ps_in_of b89) rfl ?_
                refine ps_topI (fun v86 ev86 => ?_)
                replace hK := ps_ltE ev86 hK
                obtain ⟨b88, hT⟩ := ps_gd hK
                replace hK := hT
                clear hT
                refine ps_iast d_X9_writes_213 at_335 a_8_8 (ps_in_of b88) ?_
                refine ps_nmS (fun σ87 eσ87 => ?_)
                replace hK := ps_ltE eσ87 hK
                have hQ := ps_so hK
                exact ps_vret rfl d_X9_writes_214 ⟨rfl, hQ⟩
              · replace hK := ps_ifF c81 hK
                have hQ := ps_so hK
                exact ps_vret rfl d_X9_writes_165 ⟨rfl, hQ⟩
            · replace hK := ps_ifT c72 hK
              refine pm_ald d_X9_writes_110 rfl ?_
              refine ps_getR (q := 335) d_X9_writes_111 at_327 f_8_0_19 rfl ?_
              refine pm_ki d_X9_writes_114 ?_
              refine pm_ild d_X9_writes_116 rfl ?_
              refine pm_iadd d_X9_writes_118 ?_
              refine pm_ald d_X9_writes_119 rfl ?_
              refine ps_getR (q := 335) d_X9_writes_120 at_327 f_8_0_19 rfl ?_
              refine pm_ki d_X9_writes_123 ?_
              refine ps_iald (x := σ68.1 335 0) d_X9_writes_124 at_335 a_8_8 (ps_in_of rfl) rfl ?_
              refine ps_topI (fun v96 ev96 => ?_)
              replace hK := ps_ltE ev96 hK
              obtain ⟨b121, hT⟩ := ps_gd hK
              replace hK := hT
              clear hT
              refine ps_iast d_X9_writes_125 at_335 a_8_8 (ps_in_of b121) ?_
              refine ps_nmS (fun σ97 eσ97 => ?_)
              replace hK := ps_ltE eσ97 hK
              refine pm_ald d_X9_writes_126 rfl ?_
              refine ps_getR (q := 335) d_X9_writes_127 at_327 f_8_0_19 rfl ?_
              refine pm_ki d_X9_writes_130 ?_
              refine pm_ild d_X9_writes_131 rfl ?_
              refine pm_iadd d_X9_writes_133 ?_
              refine pm_dup2 d_X9_writes_134 rfl rfl ?_
              obtain ⟨b120, hT⟩ := ps_gd hK
              replace hK := hT
              clear hT
              refine ps_iald d_X9_writes_135 at_335 a_8_8 (ps_in_of b120) rfl ?_
              refine ps_topI (fun v98 ev98 => ?_)
              replace hK := ps_ltE ev98 hK
              refine pm_ild d_X9_writes_136 rfl ?_
              refine pm_iadd d_X9_writes_138 ?_
              obtain ⟨b119, hT⟩ := ps_gd hK
              replace hK := hT
              clear hT
              refine ps_iast d_X9_writes_139 at_335 a_8_8 (ps_in_of b119) ?_
              refine ps_nmS (fun σ99 eσ99 => ?_)
              replace hK := ps_ltE eσ99 hK
              refine pm_ald d_X9_writes_140 rfl ?_
              refine ps_getR (q := 335) d_X9_writes_141 at_327 f_8_0_19 rfl ?_
              refine pm_ki d_X9_writes_144 ?_
              refine pm_ild d_X9_writes_146 rfl ?_
              refine pm_iadd d_X9_writes_147 ?_
              refine pm_dup2 d_X9_writes_148 rfl rfl ?_
              obtain ⟨b118, hT⟩ := ps_gd hK
              replace hK := hT
              clear hT
              refine ps_iald d_X9_writes_149 at_335 a_8_8 (ps_in_of b118) rfl ?_
              refine ps_topI (fun v100 ev100 => ?_)
              replace hK := ps_ltE ev100 hK
              refine pm_ild d_X9_writes_150 rfl ?_
              refine pm_iadd d_X9_writes_152 ?_
              obtain ⟨b117, hT⟩ := ps_gd hK
              replace hK := hT
              clear hT
              refine ps_iast d_X9_writes_153 at_335 a_8_8 (ps_in_of b117) ?_
              refine ps_nmS (fun σ101 eσ101 => ?_)
              replace hK := ps_ltE eσ101 hK
              refine pm_ald d_X9_writes_154 rfl ?_
              refine ps_cVI d_X9_writes_155 mv_X9_allNow at_327 ob_8_0 rfl (As := []) rfl rfl (ps_room.of (by omega) (by decide)) (Nat.le_of_ble_eq_true rfl) (C_X9_allNow σ101 _ (ps_bdE hK)) ?_
              intro v102 σ103 hT
              clear hK
              have hK := hT
              clear hT
              refine pm_ald d_X9_writes_158 rfl ?_
              refine ps_cVI d_X9_writes_159 mv_X9_freeNow at_327 ob_8_0 rfl (As := []) rfl rfl (ps_room.of (by omega) (by decide)) (Nat.le_of_ble_eq_true rfl) (C_X9_freeNow σ103 _ (ps_bdE hK)) ?_
              intro v104 σ105 hT
              clear hK
              have hK := hT
              clear hT
              refine pm_icmp_gt d_X9_writes_162 (fun c106 => ?_) (fun c106 => ?_)
              · replace hK := ps_ifT c106 hK
                refine pm_ald d_X9_writes_166 rfl ?_
                refine ps_getR (q := 335) d_X9_writes_167 at_327 f_8_0_19 rfl ?_
                refine pm_ki d_X9_writes_170 ?_
                refine pm_ild d_X9_writes_172 rfl ?_
                refine pm_iadd d_X9_writes_173 ?_
                refine pm_ki d_X9_writes_174 ?_
                refine pm_ald d_X9_writes_175 rfl ?_
                refine ps_getR (q := 335) d_X9_writes_176 at_327 f_8_0_19 rfl ?_
                refine pm_ki d_X9_writes_179 ?_
                refine pm_ild d_X9_writes_181 rfl ?_
                refine pm_iadd d_X9_writes_182 ?_
                obtain ⟨b116, hT⟩ := ps_gd hK
                replace hK := hT
                clear hT
                refine ps_iald d_X9_writes_183 at_335 a_8_8 (ps_in_of b116) rfl ?_
                refine ps_topI (fun v107 ev107 => ?_)
                replace hK := ps_ltE ev107 hK
                refine pm_imul d_X9_writes_184 ?_
                refine pm_ald d_X9_writes_185 rfl ?_
                refine pm_ild d_X9_writes_186 rfl ?_
                refine pm_ild d_X9_writes_187 rfl ?_
                refine ps_cVI d_X9_writes_189 mv_X9_pauseOf at_327 ob_8_0 rfl (As := [.int p1, .int v8]) rfl rfl (ps_room.of (by omega) (by decide)) (Nat.le_of_ble_eq_true rfl) (C_X9_pauseOf p1 v8 σ105 _ (ps_bdE hK)) ?_
                intro v108 σ109 hT
                clear hK
                have hK := hT
                clear hT
                refine pm_iadd d_X9_writes_192 ?_
                refine pm_ki d_X9_writes_193 ?_
                refine pm_idiv d_X9_writes_194 (by decide) ?_
                obtain ⟨b115, hT⟩ := ps_gd hK
                replace hK := hT
                clear hT
                refine ps_iast d_X9_writes_195 at_335 a_8_8 (ps_in_of b115) ?_
                refine ps_nmS (fun σ110 eσ110 => ?_)
                replace hK := ps_ltE eσ110 hK
                refine pm_ald d_X9_writes_196 rfl ?_
                refine ps_getR (q := 335) d_X9_writes_197 at_327 f_8_0_19 rfl ?_
                refine pm_ki d_X9_writes_200 ?_
                refine pm_ild d_X9_writes_202 rfl ?_
                refine pm_iadd d_X9_writes_203 ?_
                refine pm_ald d_X9_writes_204 rfl ?_
                refine ps_getR (q := 335) d_X9_writes_205 at_327 f_8_0_19 rfl ?_
                refine pm_ki d_X9_writes_208 ?_
                refine pm_ild d_X9_writes_210 rfl ?_
                refine pm_iadd d_X9_writes_211 ?_
                obtain ⟨b114, hT⟩ := ps_gd hK
                replace hK := hT
                clear hT
                refine ps_iald d_X9_writes_212 at_335 a_8_8 (ps_in_of b114) rfl ?_
                refine ps_topI (fun v111 ev111 => ?_)
                replace hK := ps_ltE ev111 hK
                obtain ⟨b113, hT⟩ := ps_gd hK
                replace hK := hT
                clear hT
                refine ps_iast d_X9_writes_213 at_335 a_8_8 (ps_in_of b113) ?_
                refine ps_nmS (fun σ112 eσ112 => ?_)
                replace hK := ps_ltE eσ112 hK
                have hQ := ps_so hK
                exact ps_vret rfl d_X9_writes_214 ⟨rfl, hQ⟩
              · replace hK := ps_ifF c106 hK
                have hQ := ps_so hK
                exact ps_vret rfl d_X9_writes_165 ⟨rfl, hQ⟩
          · replace hK := ps_ifT c69 hK
            have hQ := ps_so hK
            exact ps_vret rfl d_X9_writes_86 ⟨rfl, hQ⟩
      · replace hK := ps_ifF c10 hK
        refine pm_ild d_X9_writes_55 rfl ?_
        refine pm_goto d_X9_writes_56 ?_
        refine pm_ist4 d_X9_writes_60 rfl (by decide) ?_
        refine pm_ild d_X9_writes_62 rfl ?_
        refine pm_ild d_X9_writes_63 rfl ?_
        refine pm_icmp_le d_X9_writes_65 (fun c126 => ?_) (fun c126 => ?_)
        · replace hK := ps_ifT c126 hK
          refine pm_ild d_X9_writes_81 rfl ?_
          refine pm_if_ne d_X9_writes_83 (fun c127 => ?_) (fun c127 => ?_)
          · replace hK := ps_ifF c127 hK
            refine pm_ald d_X9_writes_87 rfl ?_
            refine ps_getR (q := 328) d_X9_writes_88 at_327 f_8_0_1 rfl ?_
            refine pm_ki d_X9_writes_91 ?_
            refine pm_ild d_X9_writes_93 rfl ?_
            refine pm_iadd d_X9_writes_94 ?_
            obtain ⟨b181, hT⟩ := ps_gd hK
            replace hK := hT
            clear hT
            refine ps_iald d_X9_writes_95 at_328 a_8_1 (ps_in_of b181) rfl ?_
            refine ps_topI (fun v128 ev128 => ?_)
            replace hK := ps_ltE ev128 hK
            refine pm_ist5 d_X9_writes_96 rfl (by decide) ?_
            refine pm_ald d_X9_writes_98 rfl ?_
            refine ps_getR (q := 335) d_X9_writes_99 at_327 f_8_0_19 rfl ?_
            refine pm_ki d_X9_writes_102 ?_
            refine pm_ild d_X9_writes_103 rfl ?_
            refine pm_iadd d_X9_writes_105 ?_
            obtain ⟨b180, hT⟩ := ps_gd hK
            replace hK := hT
            clear hT
            refine ps_iald d_X9_writes_106 at_335 a_8_8 (ps_in_of b180) rfl ?_
            refine ps_topI (fun v129 ev129 => ?_)
            replace hK := ps_ltE ev129 hK
            refine pm_if_ne d_X9_writes_107 (fun c130 => ?_) (fun c130 => ?_)
            · replace hK := ps_ifF c130 hK
              refine pm_ald d_X9_writes_126 rfl ?_
              refine ps_getR (q := 335) d_X9_writes_127 at_327 f_8_0_19 rfl ?_
              refine pm_ki d_X9_writes_130 ?_
              refine pm_ild d_X9_writes_131 rfl ?_
              refine pm_iadd d_X9_writes_133 ?_
              refine pm_dup2 d_X9_writes_134 rfl rfl ?_
              obtain ⟨b153, hT⟩ := ps_gd hK
              replace hK := hT
              clear hT
              refine ps_iald d_X9_writes_135 at_335 a_8_8 (ps_in_of b153) rfl ?_
              refine ps_topI (fun v131 ev131 => ?_)
              replace hK := ps_ltE ev131 hK
              refine pm_ild d_X9_writes_136 rfl ?_
              refine pm_iadd d_X9_writes_138 ?_
              obtain ⟨b152, hT⟩ := ps_gd hK
              replace hK := hT
              clear hT
              refine ps_iast d_X9_writes_139 at_335 a_8_8 (ps_in_of b152) ?_
              refine ps_nmS (fun σ132 eσ132 => ?_)
              replace hK := ps_ltE eσ132 hK
              refine pm_ald d_X9_writes_140 rfl ?_
              refine ps_getR (q := 335) d_X9_writes_141 at_327 f_8_0_19 rfl ?_
              refine pm_ki d_X9_writes_144 ?_
              refine pm_ild d_X9_writes_146 rfl ?_
              refine pm_iadd d_X9_writes_147 ?_
              refine pm_dup2 d_X9_writes_148 rfl rfl ?_
              obtain ⟨b151, hT⟩ := ps_gd hK
              replace hK := hT
              clear hT
              refine ps_iald d_X9_writes_149 at_335 a_8_8 (ps_in_of b151) rfl ?_
              refine ps_topI (fun v133 ev133 => ?_)
              replace hK := ps_ltE ev133 hK
              refine pm_ild d_X9_writes_150 rfl ?_
              refine pm_iadd d_X9_writes_152 ?_
              obtain ⟨b150, hT⟩ := ps_gd hK
              replace hK := hT
              clear hT
              refine ps_iast d_X9_writes_153 at_335 a_8_8 (ps_in_of b150) ?_
              refine ps_nmS (fun σ134 eσ134 => ?_)
              replace hK := ps_ltE eσ134 hK
              refine pm_ald d_X9_writes_154 rfl ?_
              refine ps_cVI d_X9_writes_155 mv_X9_allNow at_327 ob_8_0 rfl (As := []) rfl rfl (ps_room.of (by omega) (by decide)) (Nat.le_of_ble_eq_true rfl) (C_X9_allNow σ134 _ (ps_bdE hK)) ?_
              intro v135 σ136 hT
              clear hK
              have hK := hT
              clear hT
              refine pm_ald d_X9_writes_158 rfl ?_
              refine ps_cVI d_X9_writes_159 mv_X9_freeNow at_327 ob_8_0 rfl (As := []) rfl rfl (ps_room.of (by omega) (by decide)) (Nat.le_of_ble_eq_true rfl) (C_X9_freeNow σ136 _ (ps_bdE hK)) ?_
              intro v137 σ138 hT
              clear hK
              have hK := hT
              clear hT
              refine pm_icmp_gt d_X9_writes_162 (fun c139 => ?_) (fun c139 => ?_)
              · replace hK := ps_ifT c139 hK
                refine pm_ald d_X9_writes_166 rfl ?_
                refine ps_getR (q := 335) d_X9_writes_167 at_327 f_8_0_19 rfl ?_
                refine pm_ki d_X9_writes_170 ?_
                refine pm_ild d_X9_writes_172 rfl ?_
                refine pm_iadd d_X9_writes_173 ?_
                refine pm_ki d_X9_writes_174 ?_
                refine pm_ald d_X9_writes_175 rfl ?_
                refine ps_getR (q := 335) d_X9_writes_176 at_327 f_8_0_19 rfl ?_
                refine pm_ki d_X9_writes_179 ?_
                refine pm_ild d_X9_writes_181 rfl ?_
                refine pm_iadd d_X9_writes_182 ?_
                obtain ⟨b149, hT⟩ := ps_gd hK
                replace hK := hT
                clear hT
                refine ps_iald d_X9_writes_183 at_335 a_8_8 (ps_in_of b149) rfl ?_
                refine ps_topI (fun v140 ev140 => ?_)
                replace hK := ps_ltE ev140 hK
                refine pm_imul d_X9_writes_184 ?_
                refine pm_ald d_X9_writes_185 rfl ?_
                refine pm_ild d_X9_writes_186 rfl ?_
                refine pm_ild d_X9_writes_187 rfl ?_
                refine ps_cVI d_X9_writes_189 mv_X9_pauseOf at_327 ob_8_0 rfl (As := [.int p1, .int v3]) rfl rfl (ps_room.of (by omega) (by decide)) (Nat.le_of_ble_eq_true rfl) (C_X9_pauseOf p1 v3 σ138 _ (ps_bdE hK)) ?_
                intro v141 σ142 hT
                clear hK
                have hK := hT
                clear hT
                refine pm_iadd d_X9_writes_192 ?_
                refine pm_ki d_X9_writes_193 ?_
                refine pm_idiv d_X9_writes_194 (by decide) ?_
                obtain ⟨b148, hT⟩ := ps_gd hK
                replace hK := hT
                clear hT
                refine ps_iast d_X9_writes_195 at_335 a_8_8 (ps_in_of b148) ?_
                refine ps_nmS (fun σ143 eσ143 => ?_)
                replace hK := ps_ltE eσ143 hK
                refine pm_ald d_X9_writes_196 rfl ?_
                refine ps_getR (q := 335) d_X9_writes_197 at_327 f_8_0_19 rfl ?_
                refine pm_ki d_X9_writes_200 ?_
                refine pm_ild d_X9_writes_202 rfl ?_
                refine pm_iadd d_X9_writes_203 ?_
                refine pm_ald d_X9_writes_204 rfl ?_
                refine ps_getR (q := 335) d_X9_writes_205 at_327 f_8_0_19 rfl ?_
                refine pm_ki d_X9_writes_208 ?_
                refine pm_ild d_X9_writes_210 rfl ?_
                refine pm_iadd d_X9_writes_211 ?_
                obtain ⟨b147, hT⟩ := ps_gd hK
                replace hK := hT
                clear hT
                refine ps_iald d_X9_writes_212 at_335 a_8_8 (ps_in_of b147) rfl ?_
                refine ps_topI (fun v144 ev144 => ?_)
                replace hK := ps_ltE ev144 hK
                obtain ⟨b146, hT⟩ := ps_gd hK
                replace hK := hT
                clear hT
                refine ps_iast d_X9_writes_213 at_335 a_8_8 (ps_in_of b146) ?_
                refine ps_nmS (fun σ145 eσ145 => ?_)
                replace hK := ps_ltE eσ145 hK
                have hQ := ps_so hK
                exact ps_vret rfl d_X9_writes_214 ⟨rfl, hQ⟩
              · replace hK := ps_ifF c139 hK
                have hQ := ps_so hK
                exact ps_vret rfl d_X9_writes_165 ⟨rfl, hQ⟩
            · replace hK := ps_ifT c130 hK
              refine pm_ald d_X9_writes_110 rfl ?_
              refine ps_getR (q := 335) d_X9_writes_111 at_327 f_8_0_19 rfl ?_
              refine pm_ki d_X9_writes_114 ?_
              refine pm_ild d_X9_writes_116 rfl ?_
              refine pm_iadd d_X9_writes_118 ?_
              refine pm_ald d_X9_writes_119 rfl ?_
              refine ps_getR (q := 335) d_X9_writes_120 at_327 f_8_0_19 rfl ?_
              refine pm_ki d_X9_writes_123 ?_
              refine ps_iald (x := σ7.1 335 0) d_X9_writes_124 at_335 a_8_8 (ps_in_of rfl) rfl ?_
              refine ps_topI (fun v154 ev154 => ?_)
              replace hK := ps_ltE ev154 hK
              obtain ⟨b179, hT⟩ := ps_gd hK
              replace hK := hT
              clear hT
              refine ps_iast d_X9_writes_125 at_335 a_8_8 (ps_in_of b179) ?_
              refine ps_nmS (fun σ155 eσ155 => ?_)
              replace hK := ps_ltE eσ155 hK
              refine pm_ald d_X9_writes_126 rfl ?_
              refine ps_getR (q := 335) d_X9_writes_127 at_327 f_8_0_19 rfl ?_
              refine pm_ki d_X9_writes_130 ?_
              refine pm_ild d_X9_writes_131 rfl ?_
              refine pm_iadd d_X9_writes_133 ?_
              refine pm_dup2 d_X9_writes_134 rfl rfl ?_
              obtain ⟨b178, hT⟩ := ps_gd hK
              replace hK := hT
              clear hT
              refine ps_iald d_X9_writes_135 at_335 a_8_8 (ps_in_of b178) rfl ?_
              refine ps_topI (fun v156 ev156 => ?_)
              replace hK := ps_ltE ev156 hK
              refine pm_ild d_X9_writes_136 rfl ?_
              refine pm_iadd d_X9_writes_138 ?_
              obtain ⟨b177, hT⟩ := ps_gd hK
              replace hK := hT
              clear hT
              refine ps_iast d_X9_writes_139 at_335 a_8_8 (ps_in_of b177) ?_
              refine ps_nmS (fun σ157 eσ157 => ?_)
              replace hK := ps_ltE eσ157 hK
              refine pm_ald d_X9_writes_140 rfl ?_
              refine ps_getR (q := 335) d_X9_writes_141 at_327 f_8_0_19 rfl ?_
              refine pm_ki d_X9_writes_144 ?_
              refine pm_ild d_X9_writes_146 rfl ?_
              refine pm_iadd d_X9_writes_147 ?_
              refine pm_dup2 d_X9_writes_148 rfl rfl ?_
              obtain ⟨b176, hT⟩ := ps_gd hK
              replace hK := hT
              clear hT
              refine ps_iald d_X9_writes_149 at_335 a_8_8 (ps_in_of b176) rfl ?_
              refine ps_topI (fun v158 ev158 => ?_)
              replace hK := ps_ltE ev158 hK
              refine pm_ild d_X9_writes_150 rfl ?_
              refine pm_iadd d_X9_writes_152 ?_
              obtain ⟨b175, hT⟩ := ps_gd hK
              replace hK := hT
              clear hT
              refine ps_iast d_X9_writes_153 at_335 a_8_8 (ps_in_of b175) ?_
              refine ps_nmS (fun σ159 eσ159 => ?_)
              replace hK := ps_ltE eσ159 hK
              refine pm_ald d_X9_writes_154 rfl ?_
              refine ps_cVI d_X9_writes_155 mv_X9_allNow at_327 ob_8_0 rfl (As := []) rfl rfl (ps_room.of (by omega) (by decide)) (Nat.le_of_ble_eq_true rfl) (C_X9_allNow σ159 _ (ps_bdE hK)) ?_
              intro v160 σ161 hT
              clear hK
              have hK := hT
              clear hT
              refine pm_ald d_X9_writes_158 rfl ?_
              refine ps_cVI d_X9_writes_159 mv_X9_freeNow at_327 ob_8_0 rfl (As := []) rfl rfl (ps_room.of (by omega) (by decide)) (Nat.le_of_ble_eq_true rfl) (C_X9_freeNow σ161 _ (ps_bdE hK)) ?_
              intro v162 σ163 hT
              clear hK
              have hK := hT
              clear hT
              refine pm_icmp_gt d_X9_writes_162 (fun c164 => ?_) (fun c164 => ?_)
              · replace hK := ps_ifT c164 hK
                refine pm_ald d_X9_writes_166 rfl ?_
                refine ps_getR (q := 335) d_X9_writes_167 at_327 f_8_0_19 rfl ?_
                refine pm_ki d_X9_writes_170 ?_
                refine pm_ild d_X9_writes_172 rfl ?_
                refine pm_iadd d_X9_writes_173 ?_
                refine pm_ki d_X9_writes_174 ?_
                refine pm_ald d_X9_writes_175 rfl ?_
                refine ps_getR (q := 335) d_X9_writes_176 at_327 f_8_0_19 rfl ?_
                refine pm_ki d_X9_writes_179 ?_
                refine pm_ild d_X9_writes_181 rfl ?_
                refine pm_iadd d_X9_writes_182 ?_
                obtain ⟨b174, hT⟩ := ps_gd hK
                replace hK := hT
                clear hT
                refine ps_iald d_X9_writes_183 at_335 a_8_8 (ps_in_of b174) rfl ?_
                refine ps_topI (fun v165 ev165 => ?_)
                replace hK := ps_ltE ev165 hK
                refine pm_imul d_X9_writes_184 ?_
                refine pm_ald d_X9_writes_185 rfl ?_
                refine pm_ild d_X9_writes_186 rfl ?_
                refine pm_ild d_X9_writes_187 rfl ?_
                refine ps_cVI d_X9_writes_189 mv_X9_pauseOf at_327 ob_8_0 rfl (As := [.int p1, .int v3]) rfl rfl (ps_room.of (by omega) (by decide)) (Nat.le_of_ble_eq_true rfl) (C_X9_pauseOf p1 v3 σ163 _ (ps_bdE hK)) ?_
                intro v166 σ167 hT
                clear hK
                have hK := hT
                clear hT
                refine pm_iadd d_X9_writes_192 ?_
                refine pm_ki d_X9_writes_193 ?_
                refine pm_idiv d_X9_writes_194 (by decide) ?_
                obtain ⟨b173, hT⟩ := ps_gd hK
                replace hK := hT
                clear hT
                refine ps_iast d_X9_writes_195 at_335 a_8_8 (ps_in_of b173) ?_
                refine ps_nmS (fun σ168 eσ168 => ?_)
                replace hK := ps_ltE eσ168 hK
                refine pm_ald d_X9_writes_196 rfl ?_
                refine ps_getR (q := 335) d_X9_writes_197 at_327 f_8_0_19 rfl ?_
                refine pm_ki d_X9_writes_200 ?_
                refine pm_ild d_X9_writes_202 rfl ?_
                refine pm_iadd d_X9_writes_203 ?_
                refine pm_ald d_X9_writes_204 rfl ?_
                refine ps_getR (q := 335) d_X9_writes_205 at_327 f_8_0_19 rfl ?_
                refine pm_ki d_X9_writes_208 ?_
                refine pm_ild d_X9_writes_210 rfl ?_
                refine pm_iadd d_X9_writes_211 ?_
                obtain ⟨b172, hT⟩ := ps_gd hK
                replace hK := hT
                clear hT
                refine ps_iald d_X9_writes_212 at_335 a_8_8 (ps_in_of b172) rfl ?_
                refine ps_topI (fun v169 ev169 => ?_)
                replace hK := ps_ltE ev169 hK
                obtain ⟨b171, hT⟩ := ps_gd hK
                replace hK := hT
                clear hT
                refine ps_iast d_X9_writes_213 at_335 a_8_8 (ps_in_of b171) ?_
                refine ps_nmS (fun σ170 eσ170 => ?_)
                replace hK := ps_ltE eσ170 hK
                have hQ := ps_so hK
                exact ps_vret rfl d_X9_writes_214 ⟨rfl, hQ⟩
              · replace hK := ps_ifF c164 hK
                have hQ := ps_so hK
                exact ps_vret rfl d_X9_writes_165 ⟨rfl, hQ⟩
          · replace hK := ps_ifT c127 hK
            have hQ := ps_so hK
            exact ps_vret rfl d_X9_writes_86 ⟨rfl, hQ⟩
        · replace hK := ps_ifF c126 hK
          refine pm_ald d_X9_writes_68 rfl ?_
          refine ps_getR (q := 335) d_X9_writes_69 at_327 f_8_0_19 rfl ?_
          refine pm_ki d_X9_writes_72 ?_
          refine pm_ild d_X9_writes_74 rfl ?_
          refine pm_iadd d_X9_writes_75 ?_
          refine pm_dup2 d_X9_writes_76 rfl rfl ?_
          obtain ⟨b240, hT⟩ := ps_gd hK
          replace hK := hT
          clear hT
          refine ps_iald d_X9_writes_77 at_335 a_8_8 (ps_in_of b240) rfl ?_
          refine ps_topI (fun v182 ev182 => ?_)
          replace hK := ps_ltE ev182 hK
          refine pm_ki d_X9_writes_78 ?_
          refine pm_iadd d_X9_writes_79 ?_
          obtain ⟨b239, hT⟩ := ps_gd hK
          replace hK := hT
          clear hT
          refine ps_iast d_X9_writes_80 at_335 a_8_8 (ps_in_of b239) ?_
          refine ps_nmS (fun σ183 eσ183 => ?_)
          replace hK := ps_ltE eσ183 hK
          refine pm_ild d_X9_writes_81 rfl ?_
          refine pm_if_ne d_X9_writes_83 (fun c184 => ?_) (fun c184 => ?_)
          · replace hK := ps_ifF c184 hK
            refine pm_ald d_X9_writes_87 rfl ?_
            refine ps_getR (q := 328) d_X9_writes_88 at_327 f_8_0_1 rfl ?_
            refine pm_ki d_X9_writes_91 ?_
            refine pm_ild d_X9_writes_93 rfl ?_
            refine pm_iadd d_X9_writes_94 ?_
            obtain ⟨b238, hT⟩ := ps_gd hK
            replace hK := hT
            clear hT
            refine ps_iald d_X9_writes_95 at_328 a_8_1 (ps_in_of b238) rfl ?_
            refine ps_topI (fun v185 ev185 => ?_)
            replace hK := ps_ltE ev185 hK
            refine pm_ist5 d_X9_writes_96 rfl (by decide) ?_
            refine pm_ald d_X9_writes_98 rfl ?_
            refine ps_getR (q := 335) d_X9_writes_99 at_327 f_8_0_19 rfl ?_
            refine pm_ki d_X9_writes_102 ?_
            refine pm_ild d_X9_writes_103 rfl ?_
            refine pm_iadd d_X9_writes_105 ?_
            obtain ⟨b237, hT⟩ := ps_gd hK
            replace hK := hT
            clear hT
            refine ps_iald d_X9_writes_106 at_335 a_8_8 (ps_in_of b237) rfl ?_
            refine ps_topI (fun v186 ev186 => ?_)
            replace hK := ps_ltE ev186 hK
            refine pm_if_ne d_X9_writes_107 (fun c187 => ?_) (fun c187 => ?_)
            · replace hK := ps_ifF c187 hK
              refine pm_ald d_X9_writes_126 rfl ?_
              refine ps_getR (q := 335) d_X9_writes_127 at_327 f_8_0_19 rfl ?_
              refine pm_ki d_X9_writes_130 ?_
              refine pm_ild d_X9_writes_131 rfl ?_
              refine pm_iadd d_X9_writes_133 ?_
              refine pm_dup2 d_X9_writes_134 rfl rfl ?_
              obtain ⟨b210, hT⟩ := ps_gd hK
              replace hK := hT
              clear hT
              refine ps_iald d_X9_writes_135 at_335 a_8_8 (ps_in_of b210) rfl ?_
              refine ps_topI (fun v188 ev188 => ?_)
              replace hK := ps_ltE ev188 hK
              refine pm_ild d_X9_writes_136 rfl ?_
              refine pm_iadd d_X9_writes_138 ?_
              obtain ⟨b209, hT⟩ := ps_gd hK
              replace hK := hT
              clear hT
              refine ps_iast d_X9_writes_139 at_335 a_8_8 (ps_in_of b209) ?_
              refine ps_nmS (fun σ189 eσ189 => ?_)
              replace hK := ps_ltE eσ189 hK
              refine pm_ald d_X9_writes_140 rfl ?_
              refine ps_getR (q := 335) d_X9_writes_141 at_327 f_8_0_19 rfl ?_
              refine pm_ki d_X9_writes_144 ?_
              refine pm_ild d_X9_writes_146 rfl ?_
              refine pm_iadd d_X9_writes_147 ?_
              refine pm_dup2 d_X9_writes_148 rfl rfl ?_
              obtain ⟨b208, hT⟩ := ps_gd hK
              replace hK := hT
              clear hT
              refine ps_iald d_X9_writes_149 at_335 a_8_8 (ps_in_of b208) rfl ?_
              refine ps_topI (fun v190 ev190 => ?_)
              replace hK := ps_ltE ev190 hK
              refine pm_ild d_X9_writes_150 rfl ?_
              refine pm_iadd d_X9_writes_152 ?_
              obtain ⟨b207, hT⟩ := ps_gd hK
              replace hK := hT
              clear hT
              refine ps_iast d_X9_writes_153 at_335 a_8_8 (ps_in_of b207) ?_
              refine ps_nmS (fun σ191 eσ191 => ?_)
              replace hK := ps_ltE eσ191 hK
              refine pm_ald d_X9_writes_154 rfl ?_
              refine ps_cVI d_X9_writes_155 mv_X9_allNow at_327 ob_8_0 rfl (As := []) rfl rfl (ps_room.of (by omega) (by decide)) (Nat.le_of_ble_eq_true rfl) (C_X9_allNow σ191 _ (ps_bdE hK)) ?_
              intro v192 σ193 hT
              clear hK
              have hK := hT
              clear hT
              refine pm_ald d_X9_writes_158 rfl ?_
              refine ps_cVI d_X9_writes_159 mv_X9_freeNow at_327 ob_8_0 rfl (As := []) rfl rfl (ps_room.of (by omega) (by decide)) (Nat.le_of_ble_eq_true rfl) (C_X9_freeNow σ193 _ (ps_bdE hK)) ?_
              intro v194 σ195 hT
              clear hK
              have hK := hT
              clear hT
              refine pm_icmp_gt d_X9_writes_162 (fun c196 => ?_) (fun c196 => ?_)
              · replace hK := ps_ifT c196 hK
                refine pm_ald d_X9_writes_166 rfl ?_
                refine ps_getR (q := 335) d_X9_writes_167 at_327 f_8_0_19 rfl ?_
                refine pm_ki d_X9_writes_170 ?_
                refine pm_ild d_X9_writes_172 rfl ?_
                refine pm_iadd d_X9_writes_173 ?_
                refine pm_ki d_X9_writes_174 ?_
                refine pm_ald d_X9_writes_175 rfl ?_
                refine ps_getR (q := 335) d_X9_writes_176 at_327 f_8_0_19 rfl ?_
                refine pm_ki d_X9_writes_179 ?_
                refine pm_ild d_X9_writes_181 rfl ?_
                refine pm_iadd d_X9_writes_182 ?_
                obtain ⟨b206, hT⟩ := ps_gd hK
                replace hK := hT
                clear hT
                refine ps_iald d_X9_writes_183 at_335 a_8_8 (ps_in_of b206) rfl ?_
                refine ps_topI (fun v197 ev197 => ?_)
                replace hK := ps_ltE ev197 hK
                refine pm_imul d_X9_writes_184 ?_
                refine pm_ald d_X9_writes_185 rfl ?_
                refine pm_ild d_X9_writes_186 rfl ?_
                refine pm_ild d_X9_writes_187 rfl ?_
                refine ps_cVI d_X9_writes_189 mv_X9_pauseOf at_327 ob_8_0 rfl (As := [.int p1, .int v3]) rfl rfl (ps_room.of (by omega) (by decide)) (Nat.le_of_ble_eq_true rfl) (C_X9_pauseOf p1 v3 σ195 _ (ps_bdE hK)) ?_
                intro v198 σ199 hT
                clear hK
                have hK := hT
                clear hT
                refine pm_iadd d_X9_writes_192 ?_
                refine pm_ki d_X9_writes_193 ?_
                refine pm_idiv d_X9_writes_194 (by decide) ?_
                obtain ⟨b205, hT⟩ := ps_gd hK
                replace hK := hT
                clear hT
                refine ps_iast d_X9_writes_195 at_335 a_8_8 (ps_in_of b205) ?_
                refine ps_nmS (fun σ200 eσ200 => ?_)
                replace hK := ps_ltE eσ200 hK
                refine pm_ald d_X9_writes_196 rfl ?_
                refine ps_getR (q := 335) d_X9_writes_197 at_327 f_8_0_19 rfl ?_
                refine pm_ki d_X9_writes_200 ?_
                refine pm_ild d_X9_writes_202 rfl ?_
                refine pm_iadd d_X9_writes_203 ?_
                refine pm_ald d_X9_writes_204 rfl ?_
                refine ps_getR (q := 335) d_X9_writes_205 at_327 f_8_0_19 rfl ?_
                refine pm_ki d_X9_writes_208 ?_
                refine pm_ild d_X9_writes_210 rfl ?_
                refine pm_iadd d_X9_writes_211 ?_
                obtain ⟨b204, hT⟩ := ps_gd hK
                replace hK := hT
                clear hT
                refine ps_iald d_X9_writes_212 at_335 a_8_8 (ps_in_of b204) rfl ?_
                refine ps_topI (fun v201 ev201 => ?_)
                replace hK := ps_ltE ev201 hK
                obtain ⟨b203, hT⟩ := ps_gd hK
                replace hK := hT
                clear hT
                refine ps_iast d_X9_writes_213 at_335 a_8_8 (ps_in_of b203) ?_
                refine ps_nmS (fun σ202 eσ202 => ?_)
                replace hK := ps_ltE eσ202 hK
                have hQ := ps_so hK
                exact ps_vret rfl d_X9_writes_214 ⟨rfl, hQ⟩
              · replace hK := ps_ifF c196 hK
                have hQ := ps_so hK
                exact ps_vret rfl d_X9_writes_165 ⟨rfl, hQ⟩
            · replace hK := ps_ifT c187 hK
              refine pm_ald d_X9_writes_110 rfl ?_
              refine ps_getR (q := 335) d_X9_writes_111 at_327 f_8_0_19 rfl ?_
              refine pm_ki d_X9_writes_114 ?_
              refine pm_ild d_X9_writes_116 rfl ?_
              refine pm_iadd d_X9_writes_118 ?_
              refine pm_ald d_X9_writes_119 rfl ?_
              refine ps_getR (q := 335) d_X9_writes_120 at_327 f_8_0_19 rfl ?_
              refine pm_ki d_X9_writes_123 ?_
              refine ps_iald (x := σ183.1 335 0) d_X9_writes_124 at_335 a_8_8 (ps_in_of rfl) rfl ?_
              refine ps_topI (fun v211 ev211 => ?_)
              replace hK := ps_ltE ev211 hK
              obtain ⟨b236, hT⟩ := ps_gd hK
              replace hK := hT
              clear hT
              refine ps_iast d_X9_writes_125 at_335 a_8_8 (ps_in_of b236) ?_
              refine ps_nmS (fun σ212 eσ212 => ?_)
              replace hK := ps_ltE eσ212 hK
              refine pm_ald d_X9_writes_126 rfl ?_
              refine ps_getR (q := 335) d_X9_writes_127 at_327 f_8_0_19 rfl ?_
              refine pm_ki d_X9_writes_130 ?_
              refine pm_ild d_X9_writes_131 rfl ?_
              refine pm_iadd d_X9_writes_133 ?_
              refine pm_dup2 d_X9_writes_134 rfl rfl ?_
              obtain ⟨b235, hT⟩ := ps_gd hK
              replace hK := hT
              clear hT
              refine ps_iald d_X9_writes_135 at_335 a_8_8 (ps_in_of b235) rfl ?_
              refine ps_topI (fun v213 ev213 => ?_)
              replace hK := ps_ltE ev213 hK
              refine pm_ild d_X9_writes_136 rfl ?_
              refine pm_iadd d_X9_writes_138 ?_
              obtain ⟨b234, hT⟩ := ps_gd hK
              replace hK := hT
              clear hT
              refine ps_iast d_X9_writes_139 at_335 a_8_8 (ps_in_of b234) ?_
              refine ps_nmS (fun σ214 eσ214 => ?_)
              replace hK := ps_ltE eσ214 hK
              refine pm_ald d_X9_writes_140 rfl ?_
              refine ps_getR (q := 335) d_X9_writes_141 at_327 f_8_0_19 rfl ?_
              refine pm_ki d_X9_writes_144 ?_
              refine pm_ild d_X9_writes_146 rfl ?_
              refine pm_iadd d_X9_writes_147 ?_
              refine pm_dup2 d_X9_writes_148 rfl rfl ?_
              obtain ⟨b233, hT⟩ := ps_gd hK
              replace hK := hT
              clear hT
              refine ps_iald d_X9_writes_149 at_335 a_8_8 (ps_in_of b233) rfl ?_
              refine ps_topI (fun v215 ev215 => ?_)
              replace hK := ps_ltE ev215 hK
              refine pm_ild d_X9_writes_150 rfl ?_
              refine pm_iadd d_X9_writes_152 ?_
              obtain ⟨b232, hT⟩ := ps_gd hK
              replace hK := hT
              clear hT
              refine ps_iast d_X9_writes_153 at_335 a_8_8 (ps_in_of b232) ?_
              refine ps_nmS (fun σ216 eσ216 => ?_)
              replace hK := ps_ltE eσ216 hK
              refine pm_ald d_X9_writes_154 rfl ?_
              refine ps_cVI d_X9_writes_155 mv_X9_allNow at_327 ob_8_0 rfl (As := []) rfl rfl (ps_room.of (by omega) (by decide)) (Nat.le_of_ble_eq_true rfl) (C_X9_allNow σ216 _ (ps_bdE hK)) ?_
              intro v217 σ218 hT
              clear hK
              have hK := hT
              clear hT
              refine pm_ald d_X9_writes_158 rfl ?_
              refine ps_cVI d_X9_writes_159 mv_X9_freeNow at_327 ob_8_0 rfl (As := []) rfl rfl (ps_room.of (by omega) (by decide)) (Nat.le_of_ble_eq_true rfl) (C_X9_freeNow σ218 _ (ps_bdE hK)) ?_
              intro v219 σ220 hT
              clear hK
              have hK := hT
              clear hT
              refine pm_icmp_gt d_X9_writes_162 (fun c221 => ?_) (fun c221 => ?_)
              · replace hK := ps_ifT c221 hK
                refine pm_ald d_X9_writes_166 rfl ?_
                refine ps_getR (q := 335) d_X9_writes_167 at_327 f_8_0_19 rfl ?_
                refine pm_ki d_X9_writes_170 ?_
                refine pm_ild d_X9_writes_172 rfl ?_
                refine pm_iadd d_X9_writes_173 ?_
                refine pm_ki d_X9_writes_174 ?_
                refine pm_ald d_X9_writes_175 rfl ?_
                refine ps_getR (q := 335) d_X9_writes_176 at_327 f_8_0_19 rfl ?_
                refine pm_ki d_X9_writes_179 ?_
                refine pm_ild d_X9_writes_181 rfl ?_
                refine pm_iadd d_X9_writes_182 ?_
                obtain ⟨b231, hT⟩ := ps_gd hK
                replace hK := hT
                clear hT
                refine ps_iald d_X9_writes_183 at_335 a_8_8 (ps_in_of b231) rfl ?_
                refine ps_topI (fun v222 ev222 => ?_)
                replace hK := ps_ltE ev222 hK
                refine pm_imul d_X9_writes_184 ?_
                refine pm_ald d_X9_writes_185 rfl ?_
                refine pm_ild d_X9_writes_186 rfl ?_
                refine pm_ild d_X9_writes_187 rfl ?_
                refine ps_cVI d_X9_writes_189 mv_X9_pauseOf at_327 ob_8_0 rfl (As := [.int p1, .int v3]) rfl rfl (ps_room.of (by omega) (by decide)) (Nat.le_of_ble_eq_true rfl) (C_X9_pauseOf p1 v3 σ220 _ (ps_bdE hK)) ?_
                intro v223 σ224 hT
                clear hK
                have hK := hT
                clear hT
                refine pm_iadd d_X9_writes_192 ?_
                refine pm_ki d_X9_writes_193 ?_
                refine pm_idiv d_X9_writes_194 (by decide) ?_
                obtain ⟨b230, hT⟩ := ps_gd hK
                replace hK := hT
                clear hT
                refine ps_iast d_X9_writes_195 at_335 a_8_8 (ps_in_of b230) ?_
                refine ps_nmS (fun σ225 eσ225 => ?_)
                replace hK := ps_ltE eσ225 hK
                refine pm_ald d_X9_writes_196 rfl ?_
                refine ps_getR (q := 335) d_X9_writes_197 at_327 f_8_0_19 rfl ?_
                refine pm_ki d_X9_writes_200 ?_
                refine pm_ild d_X9_writes_202 rfl ?_
                refine pm_iadd d_X9_writes_203 ?_
                refine pm_ald d_X9_writes_204 rfl ?_
                refine ps_getR (q := 335) d_X9_writes_205 at_327 f_8_0_19 rfl ?_
                refine pm_ki d_X9_writes_208 ?_
                refine pm_ild d_X9_writes_210 rfl ?_
                refine pm_iadd d_X9_writes_211 ?_
                obtain ⟨b229, hT⟩ := ps_gd hK
                replace hK := hT
                clear hT
                refine ps_iald d_X9_writes_212 at_335 a_8_8 (ps_in_of b229) rfl ?_
                refine ps_topI (fun v226 ev226 => ?_)
                replace hK := ps_ltE ev226 hK
                obtain ⟨b228, hT⟩ := ps_gd hK
                replace hK := hT
                clear hT
                refine ps_iast d_X9_writes_213 at_335 a_8_8 (ps_in_of b228) ?_
                refine ps_nmS (fun σ227 eσ227 => ?_)
                replace hK := ps_ltE eσ227 hK
                have hQ := ps_so hK
                exact ps_vret rfl d_X9_writes_214 ⟨rfl, hQ⟩
              · replace hK := ps_ifF c221 hK
                have hQ := ps_so hK
                exact ps_vret rfl d_X9_writes_165 ⟨rfl, hQ⟩
          · replace hK := ps_ifT c184 hK
            have hQ := ps_so hK
            exact ps_vret rfl d_X9_writes_86 ⟨rfl, hQ⟩
    · replace hK := ps_ifF c9 hK
      refine pm_ki d_X9_writes_46 ?_
      refine pm_goto d_X9_writes_47 ?_
      refine pm_ist4 d_X9_writes_60 rfl (by decide) ?_
      refine pm_ild d_X9_writes_62 rfl ?_
      refine pm_ild d_X9_writes_63 rfl ?_
      refine pm_icmp_le d_X9_writes_65 (fun c241 => ?_) (fun c241 => ?_)
      · replace hK := ps_ifT c241 hK
        refine pm_ild d_X9_writes_81 rfl ?_
        refine pm_if_ne d_X9_writes_83 (fun c242 => (c242 (by decide)).elim) (fun _ => ?_)
        have hQ := ps_so hK
        exact ps_vret rfl d_X9_writes_86 ⟨rfl, hQ⟩
      · replace hK := ps_ifF c241 hK
        refine pm_ald d_X9_writes_68 rfl ?_
        refine ps_getR (q := 335) d_X9_writes_69 at_327 f_8_0_19 rfl ?_
        refine pm_ki d_X9_writes_72 ?_
        refine pm_ild d_X9_writes_74 rfl ?_
        refine pm_iadd d_X9_writes_75 ?_
        refine pm_dup2 d_X9_writes_76 rfl rfl ?_
        obtain ⟨b247, hT⟩ := ps_gd hK
        replace hK := hT
        clear hT
        refine ps_iald d_X9_writes_77 at_335 a_8_8 (ps_in_of b247) rfl ?_
        refine ps_topI (fun v243 ev243 => ?_)
        replace hK := ps_ltE ev243 hK
        refine pm_ki d_X9_writes_78 ?_
        refine pm_iadd d_X9_writes_79 ?_
        obtain ⟨b246, hT⟩ := ps_gd hK
        replace hK := hT
        clear hT
        refine ps_iast d_X9_writes_80 at_335 a_8_8 (ps_in_of b246) ?_
        refine ps_nmS (fun σ244 eσ244 => ?_)
        replace hK := ps_ltE eσ244 hK
        refine pm_ild d_X9_writes_81 rfl ?_
        refine pm_if_ne d_X9_writes_83 (fun c245 => (c245 (by decide)).elim) (fun _ => ?_)
        have hQ := ps_so hK
        exact ps_vret rfl d_X9_writes_86 ⟨rfl, hQ⟩
  · replace hK := ps_ifF c2 hK
    refine pm_ald d_X9_writes_12 rfl ?_
    refine ps_getR (q := 335) d_X9_writes_13 at_327 f_8_0_19 rfl ?_
    refine pm_ki d_X9_writes_16 ?_
    refine pm_ild d_X9_writes_18 rfl ?_
    refine pm_iadd d_X9_writes_19 ?_
    refine pm_dup2 d_X9_writes_20 rfl rfl ?_
    obtain ⟨b251, hT⟩ := ps_gd hK
    replace hK := hT
    clear hT
    refine ps_iald d_X9_writes_21 at_335 a_8_8 (ps_in_of b251) rfl ?_
    refine ps_topI (fun v248 ev248 => ?_)
    replace hK := ps_ltE ev248 hK
    refine pm_ki d_X9_writes_22 ?_
    refine pm_isub d_X9_writes_23 ?_
    obtain ⟨b250, hT⟩ := ps_gd hK
    replace hK := hT
    clear hT
    refine ps_iast d_X9_writes_24 at_335 a_8_8 (ps_in_of b250) ?_
    refine ps_nmS (fun σ249 eσ249 => ?_)
    replace hK := ps_ltE eσ249 hK
    have hQ := ps_so hK
    exact ps_vret rfl d_X9_writes_25 ⟨rfl, hQ⟩
def qX9_speedNow (p1 : Int32) (σ : ps_S) : Option (Int32 × ps_S) :=
  ps_let (σ.1 327 23) fun v1 =>
  if p1 = v1 then
  ps_let (σ.1 327 24) fun v15 =>
  some (v15, σ)
  else
  if ps_in ((25 + p1)) 83 = true then
  ps_let (σ.1 335 ((25 + p1)).toNatClampNeg) fun v3 =>
  ps_bd (qX9_laysWords v3 p1 0 σ) (fun _ σ5 =>
  ps_let (σ5.1 328 5) fun v6 =>
  if v6 = 1 then
  ps_bd (qX9_reckons 1 σ5) (fun v10 σ11 =>
  ps_bd (qX9_kept v10 0 999 σ11) (fun v12 σ13 =>
  some (v12, σ13)))
  else
  ps_bd (qX9_kept v3 0 999 σ5) (fun v8 σ9 =>
  some (v8, σ9)))
  else none
set_option maxRecDepth 100000 in
theorem C_X9_speedNow {g : pm_G} (p1 : Int32) (σ : ps_S) (P : Int32 → ps_S → Prop) (hK : ps_ok (qX9_speedNow p1 σ) P) : ps_C g mX9_speedNow 3 [.ref (g.2.2.1 + 327), .int p1] σ (ps_qI P) := by
  unfold qX9_speedNow at hK
  refine ps_C.of (ls := [some (.ref (g.2.2.1 + 327)), some (.int p1), none]) 1 (by decide) rfl (Nat.le_of_ble_eq_true rfl) rfl ?_
  refine pm_ild d_X9_speedNow_0 rfl ?_
  refine pm_ald d_X9_speedNow_1 rfl ?_
  refine ps_getI d_X9_speedNow_2 at_327 f_8_0_23 rfl ?_
  refine ps_topI (fun v1 ev1 => ?_)
  replace hK := ps_ltE ev1 hK
  refine pm_icmp_ne d_X9_speedNow_5 (fun c2 => ?_) (fun c2 => ?_)
  · replace hK := ps_ifF c2 hK
    refine pm_ald d_X9_speedNow_13 rfl ?_
    refine ps_getR (q := 335) d_X9_speedNow_14 at_327 f_8_0_19 rfl ?_
    refine pm_ki d_X9_speedNow_17 ?_
    refine pm_ild d_X9_speedNow_19 rfl ?_
    refine pm_iadd d_X9_speedNow_20 ?_
    obtain ⟨b14, hT⟩ := ps_gd hK
    replace hK := hT
    clear hT
    refine ps_iald d_X9_speedNow_21 at_335 a_8_8 (ps_in_of b14) rfl ?_
    refine ps_topI (fun v3 ev3 => ?_)
    replace hK := ps_ltE ev3 hK
    refine pm_ist2 d_X9_speedNow_22 rfl (by decide) ?_
    refine pm_ald d_X9_speedNow_23 rfl ?_
    refine pm_ild d_X9_speedNow_24 rfl ?_
    refine pm_ild d_X9_speedNow_25 rfl ?_
    refine pm_ki d_X9_speedNow_26 ?_
    refine ps_cVV d_X9_speedNow_27 mv_X9_laysWords at_327 ob_8_0 rfl (As := [.int v3, .int p1, .int 0]) rfl rfl (ps_room.of (by omega) (by decide)) (Nat.le_of_ble_eq_true rfl) (C_X9_laysWords v3 p1 0 σ _ (ps_bdE hK)) ?_
    intro σ5 hT
    clear hK
    have hK := hT
    clear hT
    refine pm_ald d_X9_speedNow_30 rfl ?_
    refine ps_getR (q := 328) d_X9_speedNow_31 at_327 f_8_0_1 rfl ?_
    refine pm_ki d_X9_speedNow_34 ?_
    refine ps_iald (x := σ5.1 328 5) d_X9_speedNow_35 at_328 a_8_1 (ps_in_of rfl) rfl ?_
    refine ps_topI (fun v6 ev6 => ?_)
    replace hK := ps_ltE ev6 hK
    refine pm_ki d_X9_speedNow_36 ?_
    refine pm_icmp_ne d_X9_speedNow_37 (fun c7 => ?_) (fun c7 => ?_)
    · replace hK := ps_ifF c7 hK
      refine pm_ild d_X9_speedNow_48 rfl ?_
      refine pm_ki d_X9_speedNow_49 ?_
      refine pm_ki d_X9_speedNow_50 ?_
      refine ps_cSI d_X9_speedNow_53 ms_X9_kept (As := [.int v3, .int 0, .int 999]) rfl rfl (ps_room.of (by omega) (by decide)) (Nat.le_of_ble_eq_true rfl) (C_X9_kept v3 0 999 σ5 _ (ps_bdE hK)) ?_
      intro v8 σ9 hT
      clear hK
      have hK := hT
      clear hT
      have hQ := ps_so hK
      exact ps_iret rfl d_X9_speedNow_56 ⟨_, rfl, hQ⟩
    · replace hK := ps_ifT c7 hK
      refine pm_ald d_X9_speedNow_40 rfl ?_
      refine pm_ki d_X9_speedNow_41 ?_
      refine ps_cVI d_X9_speedNow_42 mv_X9_reckons at_327 ob_8_0 rfl (As := [.int 1]) rfl rfl (ps_room.of (by omega) (by decide)) (Nat.le_of_ble_eq_true rfl) (C_X9_reckons 1 σ5 _ (ps_bdE hK)) ?_
      intro v10 σ11 hT
      clear hK
      have hK := hT
      clear hT
      refine pm_goto d_X9_speedNow_45 ?_
      refine pm_ki d_X9_speedNow_49 ?_
      refine pm_ki d_X9_speedNow_50 ?_
      refine ps_cSI d_X9_speedNow_53 ms_X9_kept (As := [.int v10, .int 0, .int 999]) rfl rfl (ps_room.of (by omega) (by decide)) (Nat.le_of_ble_eq_true rfl) (C_X9_kept v10 0 999 σ11 _ (ps_bdE hK)) ?_
      intro v12 σ13 hT
      clear hK
      have hK := hT
      clear hT
      have hQ := ps_so hK
      exact ps_iret rfl d_X9_speedNow_56 ⟨_, rfl, hQ⟩
  · replace hK := ps_ifT c2 hK
    refine pm_ald d_X9_speedNow_8 rfl ?_
    refine ps_getI d_X9_speedNow_9 at_327 f_8_0_24 rfl ?_
    refine ps_topI (fun v15 ev15 => ?_)
    replace hK := ps_ltE ev15 hK
    have hQ := ps_so hK
    exact ps_iret rfl d_X9_speedNow_12 ⟨_, rfl, hQ⟩
