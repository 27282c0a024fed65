def qX8_doDeed (B1 : Nat) (p2 : Int64) (σ : ps_S) : Option (Int32 × ps_S) :=
  if ((lg_cmp p2 1)) < 0 then
  if ((lg_cmp p2 10000)) < 0 then
  if ((lg_cmp p2 20000)) < 0 then
  some (0, σ)
  else
  if 0 < ((lg_cmp p2 20599)) then
  some (0, σ)
  else
  ps_let (((((p2).toInt32)) - 20000)) fun v5 =>
  ps_bd (qX8_canTellWants ((v5 / 100)) ((v5 - v5 / 100 * 100)) σ) (fun v6 σ7 =>
  if v6 = 0 then
  some (0, σ7)
  else
  if ps_in ((v5 / 100)) 6 = true then
  ps_let (ps_rI σ7 (B1 + 13) (upd (σ7.1 (B1 + 13)) ((v5 / 100)).toNatClampNeg ((v5 - v5 / 100 * 100)))) fun σ9 =>
  some (1, σ9)
  else none)
  else
  if 0 < ((lg_cmp p2 13999)) then
  if ((lg_cmp p2 20000)) < 0 then
  some (0, σ)
  else
  if 0 < ((lg_cmp p2 20599)) then
  some (0, σ)
  else
  ps_let (((((p2).toInt32)) - 20000)) fun v14 =>
  ps_bd (qX8_canTellWants ((v14 / 100)) ((v14 - v14 / 100 * 100)) σ) (fun v15 σ16 =>
  if v15 = 0 then
  some (0, σ16)
  else
  if ps_in ((v14 / 100)) 6 = true then
  ps_let (ps_rI σ16 (B1 + 13) (upd (σ16.1 (B1 + 13)) ((v14 / 100)).toNatClampNeg ((v14 - v14 / 100 * 100)))) fun σ18 =>
  some (1, σ18)
  else none)
  else
  ps_let (((((p2).toInt32)) - 10000)) fun v20 =>
  ps_bd (qX8_canTellSpeed ((v20 / 1000)) ((v20 - v20 / 1000 * 1000)) σ) (fun v21 σ22 =>
  if v21 = 0 then
  some (0, σ22)
  else
  if ps_in ((v20 / 1000)) 4 = true then
  ps_let (ps_rI σ22 (B1 + 2) (upd (σ22.1 (B1 + 2)) ((v20 / 1000)).toNatClampNeg ((v20 - v20 / 1000 * 1000)))) fun σ24 =>
  some (1, σ24)
  else none)
  else
  if 0 < ((lg_cmp p2 99)) then
  if ((lg_cmp p2 10000)) < 0 then
  if ((lg_cmp p2 20000)) < 0 then
  some (0, σ)
  else
  if 0 < ((lg_cmp p2 20599)) then
  some (0, σ)
  else
  ps_let (((((p2).toInt32)) - 20000)) fun v30 =>
  ps_bd (qX8_canTellWants ((v30 / 100)) ((v30 - v30 / 100 * 100)) σ) (fun v31 σ32 =>
  if v31 = 0 then
  some (0, σ32)
  else
  if ps_in ((v30 / 100)) 6 = true then
  ps_let (ps_rI σ32 (B1 + 13) (upd (σ32.1 (B1 + 13)) ((v30 / 100)).toNatClampNeg ((v30 - v30 / 100 * 100)))) fun σ34 =>
  some (1, σ34)
  else none)
  else
  if 0 < ((lg_cmp p2 13999)) then
  if ((lg_cmp p2 20000)) < 0 then
  some (0, σ)
  else
  if 0 < ((lg_cmp p2 20599)) then
  some (0, σ)
  else
  ps_let (((((p2).toInt32)) - 20000)) fun v39 =>
  ps_bd (qX8_canTellWants ((v39 / 100)) ((v39 - v39 / 100 * 100)) σ) (fun v40 σ41 =>
  if v40 = 0 then
  some (0, σ41)
  else
  if ps_in ((v39 / 100)) 6 = true then
  ps_let (ps_rI σ41 (B1 + 13) (upd (σ41.1 (B1 + 13)) ((v39 / 100)).toNatClampNeg ((v39 - v39 / 100 * 100)))) fun σ43 =>
  some (1, σ43)
  else none)
  else
  ps_let (((((p2).toInt32)) - 10000)) fun v45 =>
  ps_bd (qX8_canTellSpeed ((v45 / 1000)) ((v45 - v45 / 1000 * 1000)) σ) (fun v46 σ47 =>
  if v46 = 0 then
  some (0, σ47)
  else
  if ps_in ((v45 / 1000)) 4 = true then
  ps_let (ps_rI σ47 (B1 + 2) (upd (σ47.1 (B1 + 2)) ((v45 / 1000)).toNatClampNeg ((v45 - v45 / 1000 * 1000)))) fun σ49 =>
  some (1, σ49)
  else none)
  else
  ps_bd (qX0_run B1 (((p2).toInt32)) σ) (fun _ σ52 =>
  some (1, σ52))
set_option maxRecDepth 100000 in
theorem C_X8_doDeed {g : pm_G} (B1 : Nat) (hB1 : ps_St B1) (p2 : Int64) (σ : ps_S) (P : Int32 → ps_S → Prop) (hK : ps_ok (qX8_doDeed B1 p2 σ) P) : ps_C g mX8_doDeed 6 [.ref (g.2.2.1 + 0), .ref (g.2.2.1 + B1), .long p2] σ (ps_qI P) := by
  unfold qX8_doDeed at hK
  refine ps_C.of (ls := [some (.ref (g.2.2.1 + 0)), some (.ref (g.2.2.1 + B1)), some (.long p2), none, none]) 1 (by decide) rfl (Nat.le_of_ble_eq_true rfl) rfl ?_
  refine pm_lld d_X8_doDeed_0 rfl ?_
  refine pm_kl d_X8_doDeed_1 ?_
  refine pm_lcmp d_X8_doDeed_2 ?_
  refine pm_if_lt d_X8_doDeed_3 (fun c1 => ?_) (fun c1 => ?_)
  · replace hK := ps_ifT c1 hK
    refine pm_lld d_X8_doDeed_26 rfl ?_
    refine pm_kl d_X8_doDeed_27 ?_
    refine pm_lcmp d_X8_doDeed_30 ?_
    refine pm_if_lt d_X8_doDeed_31 (fun c2 => ?_) (fun c2 => ?_)
    · replace hK := ps_ifT c2 hK
      refine pm_lld d_X8_doDeed_93 rfl ?_
      refine pm_kl d_X8_doDeed_94 ?_
      refine pm_lcmp d_X8_doDeed_97 ?_
      refine pm_if_lt d_X8_doDeed_98 (fun c3 => ?_) (fun c3 => ?_)
      · replace hK := ps_ifT c3 hK
        refine pm_ki d_X8_doDeed_153 ?_
        have hQ := ps_so hK
        exact ps_zret rfl rfl d_X8_doDeed_154 ⟨_, rfl, hQ⟩
      · replace hK := ps_ifF c3 hK
        refine pm_lld d_X8_doDeed_101 rfl ?_
        refine pm_kl d_X8_doDeed_102 ?_
        refine pm_lcmp d_X8_doDeed_105 ?_
        refine pm_if_gt d_X8_doDeed_106 (fun c4 => ?_) (fun c4 => ?_)
        · replace hK := ps_ifT c4 hK
          refine pm_ki d_X8_doDeed_153 ?_
          have hQ := ps_so hK
          exact ps_zret rfl rfl d_X8_doDeed_154 ⟨_, rfl, hQ⟩
        · replace hK := ps_ifF c4 hK
          refine pm_lld d_X8_doDeed_109 rfl ?_
          refine pm_l2i d_X8_doDeed_110 ?_
          refine pm_ki d_X8_doDeed_111 ?_
          refine pm_isub d_X8_doDeed_114 ?_
          refine ps_topI (fun v5 ev5 => ?_)
          replace hK := ps_ltE ev5 hK
          refine pm_ist4 d_X8_doDeed_115 rfl (by decide) ?_
          refine pm_ald d_X8_doDeed_117 rfl ?_
          refine pm_ild d_X8_doDeed_118 rfl ?_
          refine pm_ki d_X8_doDeed_120 ?_
          refine pm_idiv d_X8_doDeed_122 (by decide) ?_
          refine pm_ild d_X8_doDeed_123 rfl ?_
          refine pm_ki d_X8_doDeed_125 ?_
          refine pm_irem d_X8_doDeed_127 (by decide) ?_
          refine ps_cVI d_X8_doDeed_128 mv_X8_canTellWants at_0 ob_0_0 rfl (As := [.int (v5 / 100), .int (v5 - v5 / 100 * 100)]) rfl rfl (ps_room.of (by omega) (by decide)) (Nat.le_of_ble_eq_true rfl) (C_X8_canTellWants ((v5 / 100)) ((v5 - v5 / 100 * 100)) σ _ (ps_bdE hK)) ?_
          intro v6 σ7 hT
          clear hK
          have hK := hT
          clear hT
          refine pm_if_ne d_X8_doDeed_131 (fun c8 => ?_) (fun c8 => ?_)
          · replace hK := ps_ifF c8 hK
            refine pm_ald d_X8_doDeed_136 rfl ?_
            refine ps_getR (q := (B1 + 13)) d_X8_doDeed_137 hB1.at0 f_5_0_3 rfl ?_
            refine pm_ild d_X8_doDeed_140 rfl ?_
            refine pm_ki d_X8_doDeed_142 ?_
            refine pm_idiv d_X8_doDeed_144 (by decide) ?_
            refine pm_ild d_X8_doDeed_145 rfl ?_
            refine pm_ki d_X8_doDeed_147 ?_
            refine pm_irem d_X8_doDeed_149 (by decide) ?_
            obtain ⟨b10, hT⟩ := ps_gd hK
            replace hK := hT
            clear hT
            refine ps_iast d_X8_doDeed_150 (hB1.at 13 (by decide)) a_5_13 (ps_in_of b10) ?_
            refine ps_nmS (fun σ9 eσ9 => ?_)
            replace hK := ps_ltE eσ9 hK
            refine pm_ki d_X8_doDeed_151 ?_
            have hQ := ps_so hK
            exact ps_zret rfl rfl d_X8_doDeed_152 ⟨_, rfl, hQ⟩
          · replace hK := ps_ifT c8 hK
            refine pm_ki d_X8_doDeed_134 ?_
            have hQ := ps_so hK
            exact ps_zret rfl rfl d_X8_doDeed_135 ⟨_, rfl, hQ⟩
    · replace hK := ps_ifF c2 hK
      refine pm_lld d_X8_doDeed_34 rfl ?_
      refine pm_kl d_X8_doDeed_35 ?_
      refine pm_lcmp d_X8_doDeed_38 ?_
      refine pm_if_gt d_X8_doDeed_39 (fun c11 => ?_) (fun c11 => ?_)
      · replace hK := ps_ifT c11 hK
        refine pm_lld d_X8_doDeed_93 rfl ?_
        refine pm_kl d_X8_doDeed_94 ?_
        refine pm_lcmp d_X8_doDeed_97 ?_
        refine pm_if_lt d_X8_doDeed_98 (fun c12 => ?_) (fun c12 => ?_)
        · replace hK := ps_ifT c12 hK
          refine pm_ki d_X8_doDeed_153 ?_
          have hQ := ps_so hK
          exact ps_zret rfl rfl d_X8_doDeed_154 ⟨_, rfl, hQ⟩
        · replace hK := ps_ifF c12 hK
          refine pm_lld d_X8_doDeed_101 rfl ?_
          refine pm_kl d_X8_doDeed_102 ?_
          refine pm_lcmp d_X8_doDeed_105 ?_
          refine pm_if_gt d_X8_doDeed_106 (fun c13 => ?_) (fun c13 => ?_)
          · replace hK := ps_ifT c13 hK
            refine pm_ki d_X8_doDeed_153 ?_
            have hQ := ps_so hK
            exact ps_zret rfl rfl d_X8_doDeed_154 ⟨_, rfl, hQ⟩
          · replace hK := ps_ifF c13 hK
            refine pm_lld d_X8_doDeed_109 rfl ?_
            refine pm_l2i d_X8_doDeed_110 ?_
            refine pm_ki d_X8_doDeed_111 ?_
            refine pm_isub d_X8_doDeed_114 ?_
            refine ps_topI (fun v14 ev14 => ?_)
            replace hK := ps_ltE ev14 hK
            refine pm_ist4 d_X8_doDeed_115 rfl (by decide) ?_
            refine pm_ald d_X8_doDeed_117 rfl ?_
            refine pm_ild d_X8_doDeed_118 rfl ?_
            refine pm_ki d_X8_doDeed_120 ?_
            refine pm_idiv d_X8_doDeed_122 (by decide) ?_
            refine pm_ild d_X8_doDeed_123 rfl ?_
            refine pm_ki d_X8_doDeed_125 ?_
            refine pm_irem d_X8_doDeed_127 (by decide) ?_
            refine ps_cVI d_X8_doDeed_128 mv_X8_canTellWants at_0 ob_0_0 rfl (As := [.int (v14 / 100), .int (v14 - v14 / 100 * 100)]) rfl rfl (ps_room.of (by omega) (by decide)) (Nat.le_of_ble_eq_true rfl) (C_X8_canTellWants ((v14 / 100)) ((v14 - v14 / 100 * 100)) σ _ (ps_bdE hK)) ?_
            intro v15 σ16 hT
            clear hK
            have hK := hT
            clear hT
            refine pm_if_ne d_X8_doDeed_131 (fun c17 => ?_) (fun c17 => ?_)
            · replace hK := ps_ifF c17 hK
              refine pm_ald d_X8_doDeed_136 rfl ?_
              refine ps_getR (q := (B1 + 13)) d_X8_doDeed_137 hB1.at0 f_5_0_3 rfl ?_
              refine pm_ild d_X8_doDeed_140 rfl ?_
              refine pm_ki d_X8_doDeed_142 ?_
              refine pm_idiv d_X8_doDeed_144 (by decide) ?_
              refine pm_ild d_X8_doDeed_145 rfl ?_
              refine pm_ki d_X8_doDeed_147 ?_
              refine pm_irem d_X8_doDeed_149 (by decide) ?_
              obtain ⟨b19, hT⟩ := ps_gd hK
              replace hK := hT
              clear hT
              refine ps_iast d_X8_doDeed_150 (hB1.at 13 (by decide)) a_5_13 (ps_in_of b19) ?_
              refine ps_nmS (fun σ18 eσ18 => ?_)
              replace hK := ps_ltE eσ18 hK
              refine pm_ki d_X8_doDeed_151 ?_
              have hQ := ps_so hK
              exact ps_zret rfl rfl d_X8_doDeed_152 ⟨_, rfl, hQ⟩
            · replace hK := ps_ifT c17 hK
              refine pm_ki d_X8_doDeed_134 ?_
              have hQ := ps_so hK
              exact ps_zret rfl rfl d_X8_doDeed_135 ⟨_, rfl, hQ⟩
      · replace hK := ps_ifF c11 hK
        refine pm_lld d_X8_doDeed_42 rfl ?_
        refine pm_l2i d_X8_doDeed_43 ?_
        refine pm_ki d_X8_doDeed_44 ?_
        refine pm_isub d_X8_doDeed_47 ?_
        refine ps_topI (fun v20 ev20 => ?_)
        replace hK := ps_ltE ev20 hK
        refine pm_ist4 d_X8_doDeed_48 rfl (by decide) ?_
        refine pm_ald d_X8_doDeed_50 rfl ?_
        refine pm_ild d_X8_doDeed_51 rfl ?_
        refine pm_ki d_X8_doDeed_53 ?_
        refine pm_idiv d_X8_doDeed_56 (by decide) ?_
        refine pm_ild d_X8_doDeed_57 rfl ?_
        refine pm_ki d_X8_doDeed_59 ?_
        refine pm_irem d_X8_doDeed_62 (by decide) ?_
        refine ps_cVI d_X8_doDeed_63 mv_X8_canTellSpeed at_0 ob_0_0 rfl (As := [.int (v20 / 1000), .int (v20 - v20 / 1000 * 1000)]) rfl rfl (ps_room.of (by omega) (by decide)) (Nat.le_of_ble_eq_true rfl) (C_X8_canTellSpeed ((v20 / 1000)) ((v20 - v20 / 1000 * 1000)) σ _ (ps_bdE hK)) ?_
        intro v21 σ22 hT
        clear hK
        have hK := hT
        clear hT
        refine pm_if_ne d_X8_doDeed_66 (fun c23 => ?_) (fun c23 => ?_)
        · replace hK := ps_ifF c23 hK
          refine pm_ald d_X8_doDeed_71 rfl ?_
          refine ps_getR (q := (B1 + 1)) d_X8_doDeed_72 hB1.at0 f_5_0_0 rfl ?_
          refine ps_getR (q := (B1 + 2)) d_X8_doDeed_75 (hB1.at 1 (by decide)) f_5_1_0 rfl ?_
          refine pm_ild d_X8_doDeed_78 rfl ?_
          refine pm_ki d_X8_doDeed_80 ?_
          refine pm_idiv d_X8_doDeed_83 (by decide) ?_
          refine pm_ild d_X8_doDeed_84 rfl ?_
          refine pm_ki d_X8_doDeed_86 ?_
          refine pm_irem d_X8_doDeed_89 (by decide) ?_
          obtain ⟨b25, hT⟩ := ps_gd hK
          replace hK := hT
          clear hT
          refine ps_iast d_X8_doDeed_90 (hB1.at 2 (by decide)) a_5_2 (ps_in_of b25) ?_
          refine ps_nmS (fun σ24 eσ24 => ?_)
          replace hK := ps_ltE eσ24 hK
          refine pm_ki d_X8_doDeed_91 ?_
          have hQ := ps_so hK
          exact ps_zret rfl rfl d_X8_doDeed_92 ⟨_, rfl, hQ⟩
        · replace hK := ps_ifT c23 hK
          refine pm_ki d_X8_doDeed_69 ?_
          have hQ := ps_so hK
          exact ps_zret rfl rfl d_X8_doDeed_70 ⟨_, rfl, hQ⟩
  · replace hK := ps_ifF c1 hK
    refine pm_lld d_X8_doDeed_6 rfl ?_
    refine pm_kl d_X8_doDeed_7 ?_
    refine pm_lcmp d_X8_doDeed_10 ?_
    refine pm_if_gt d_X8_doDeed_11 (fun c26 => ?_) (fun c26 => ?_)
    · replace hK := ps_ifT c26 hK
      refine pm_lld d_X8_doDeed_26 rfl ?_
      refine pm_kl d_X8_doDeed_27 ?_
      refine pm_lcmp d_X8_doDeed_30 ?_
      refine pm_if_lt d_X8_doDeed_31 (fun c27 => ?_) (fun c27 => ?_)
      · replace hK := ps_ifT c27 hK
        refine pm_lld d_X8_doDeed_93 rfl ?_
        refine pm_kl d_X8_doDeed_94 ?_
        refine pm_lcmp d_X8_doDeed_97 ?_
        refine pm_if_lt d_X8_doDeed_98 (fun c28 => ?_) (fun c28 => ?_)
        · replace hK := ps_ifT c28 hK
          refine pm_ki d_X8_doDeed_153 ?_
          have hQ := ps_so hK
          exact ps_zret rfl rfl d_X8_doDeed_154 ⟨_, rfl, hQ⟩
        · replace hK := ps_ifF c28 hK
          refine pm_lld d_X8_doDeed_101 rfl ?_
          refine pm_kl d_X8_doDeed_102 ?_
          refine pm_lcmp d_X8_doDeed_105 ?_
          refine pm_if_gt d_X8_doDeed_106 (fun c29 => ?_) (fun c29 => ?_)
          · replace hK := ps_ifT c29 hK
            refine pm_ki d_X8_doDeed_153 ?_
            have hQ := ps_so hK
            exact ps_zret rfl rfl d_X8_doDeed_154 ⟨_, rfl, hQ⟩
          · replace hK := ps_ifF c29 hK
            refine pm_lld d_X8_doDeed_109 rfl ?_
            refine pm_l2i d_X8_doDeed_110 ?_
            refine pm_ki d_X8_doDeed_111 ?_
            refine pm_isub d_X8_doDeed_114 ?_
            refine ps_topI (fun v30 ev30 => ?_)
            replace hK := ps_ltE ev30 hK
            refine pm_ist4 d_X8_doDeed_115 rfl (by decide) ?_
            refine pm_ald d_X8_doDeed_117 rfl ?_
            refine pm_ild d_X8_doDeed_118 rfl ?_
            refine pm_ki d_X8_doDeed_120 ?_
            refine pm_idiv d_X8_doDeed_122 (by decide) ?_
            refine pm_ild d_X8_doDeed_123 rfl ?_
            refine pm_ki d_X8_doDeed_125 ?_
            refine pm_irem d_X8_doDeed_127 (by decide) ?_
            refine ps_cVI d_X8_doDeed_128 mv_X8_canTellWants at_0 ob_0_0 rfl (As := [.int (v30 / 100), .int (v30 - v30 / 100 * 100)]) rfl rfl (ps_room.of (by omega) (by decide)) (Nat.le_of_ble_eq_true rfl) (C_X8_canTellWants ((v30 / 100)) ((v30 - v30 / 100 * 100)) σ _ (ps_bdE hK)) ?_
            intro v31 σ32 hT
            clear hK
            have hK := hT
            clear hT
            refine pm_if_ne d_X8_doDeed_131 (fun c33 => ?_) (fun c33 => ?_)
            · replace hK := ps_ifF c33 hK
              refine pm_ald d_X8_doDeed_136 rfl ?_
              refine ps_getR (q := (B1 + 13)) d_X8_doDeed_137 hB1.at0 f_5_0_3 rfl ?_
              refine pm_ild d_X8_doDeed_140 rfl ?_
              refine pm_ki d_X8_doDeed_142 ?_
              refine pm_idiv d_X8_doDeed_144 (by decide) ?_
              refine pm_ild d_X8_doDeed_145 rfl ?_
              refine pm_ki d_X8_doDeed_147 ?_
              refine pm_irem d_X8_doDeed_149 (by decide) ?_
              obtain ⟨b35, hT⟩ := ps_gd hK
              replace hK := hT
              clear hT
              refine ps_iast d_X8_doDeed_150 (hB1.at 13 (by decide)) a_5_13 (ps_in_of b35) ?_
              refine ps_nmS (fun σ34 eσ34 => ?_)
              replace hK := ps_ltE eσ34 hK
              refine pm_ki d_X8_doDeed_151 ?_
              have hQ := ps_so hK
              exact ps_zret rfl rfl d_X8_doDeed_152 ⟨_, rfl, hQ⟩
            · replace hK := ps_ifT c33 hK
              refine pm_ki d_X8_doDeed_134 ?_
              have hQ := ps_so hK
              exact ps_zret rfl rfl d_X8_doDeed_135 ⟨_, rfl, hQ⟩
      · replace hK := ps_ifF c27 hK
        refine pm_lld d_X8_doDeed_34 rfl ?_
        refine pm_kl d_X8_doDeed_35 ?_
        refine pm_lcmp d_X8_doDeed_38 ?_
        refine pm_if_gt d_X8_doDeed_39 (fun c36 => ?_) (fun c36 => ?_)
        · replace hK := ps_ifT c36 hK
          refine pm_lld d_X8_doDeed_93 rfl ?_
          refine pm_kl d_X8_doDeed_94 ?_
          refine pm_lcmp d_X8_doDeed_97 ?_
          refine pm_if_lt d_X8_doDeed_98 (fun c37 => ?_) (fun c37 => ?_)
          · replace hK := ps_ifT c37 hK
            refine pm_ki d_X8_doDeed_153 ?_
            have hQ := ps_so hK
            exact ps_zret rfl rfl d_X8_doDeed_154 ⟨_, rfl, hQ⟩
          · replace hK := ps_ifF c37 hK
            refine pm_lld d_X8_doDeed_101 rfl ?_
            refine pm_kl d_X8_doDeed_102 ?_
            refine pm_lcmp d_X8_doDeed_105 ?_
            refine pm_if_gt d_X8_doDeed_106 (fun c38 => ?_) (fun c38 => ?_)
            · replace hK := ps_ifT c38 hK
              refine pm_ki d_X8_doDeed_153 ?_
              have hQ := ps_so hK
              exact ps_zret rfl rfl d_X8_doDeed_154 ⟨_, rfl, hQ⟩
            · replace hK := ps_ifF c38 hK
              refine pm_lld d_X8_doDeed_109 rfl ?_
              refine pm_l2i d_X8_doDeed_110 ?_
              refine pm_ki d_X8_doDeed_111 ?_
              refine pm_isub d_X8_doDeed_114 ?_
              refine ps_topI (fun v39 ev39 => ?_)
              replace hK := ps_ltE ev39 hK
              refine pm_ist4 d_X8_doDeed_115 rfl (by decide) ?_
              refine pm_ald d_X8_doDeed_117 rfl ?_
              refine pm_ild d_X8_doDeed_118 rfl ?_
              refine pm_ki d_X8_doDeed_120 ?_
              refine pm_idiv d_X8_doDeed_122 (by decide) ?_
              refine pm_ild d_X8_doDeed_123 rfl ?_
              refine pm_ki d_X8_doDeed_125 ?_
              refine pm_irem d_X8_doDeed_127 (by decide) ?_
              refine ps_cVI d_X8_doDeed_128 mv_X8_canTellWants at_0 ob_0_0 rfl (As := [.int (v39 / 100), .int (v39 - v39 / 100 * 100)]) rfl rfl (ps_room.of (by omega) (by decide)) (Nat.le_of_ble_eq_true rfl) (C_X8_canTellWants ((v39 / 100)) ((v39 - v39 / 100 * 100)) σ _ (ps_bdE hK)) ?_
              intro v40 σ41 hT
              clear hK
              have hK := hT
              clear hT
              refine pm_if_ne d_X8_doDeed_131 (fun c42 => ?_) (fun c42 => ?_)
              · replace hK := ps_ifF c42 hK
                refine pm_ald d_X8_doDeed_136 rfl ?_
                refine ps_getR (q := (B1 + 13)) d_X8_doDeed_137 hB1.at0 f_5_0_3 rfl ?_
                refine pm_ild d_X8_doDeed_140 rfl ?_
                refine pm_ki d_X8_doDeed_142 ?_
                refine pm_idiv d_X8_doDeed_144 (by decide) ?_
                refine pm_ild d_X8_doDeed_145 rfl ?_
                refine pm_ki d_X8_doDeed_147 ?_
                refine pm_irem d_X8_doDeed_149 (by decide) ?_
                obtain ⟨b44, hT⟩ := ps_gd hK
                replace hK := hT
                clear hT
                refine ps_iast d_X8_doDeed_150 (hB1.at 13 (by decide)) a_5_13 (ps_in_of b44) ?_
                refine ps_nmS (fun σ43 eσ43 => ?_)
                replace hK := ps_ltE eσ43 hK
                refine pm_ki d_X8_doDeed_151 ?_
                have hQ := ps_so hK
                exact ps_zret rfl rfl d_X8_doDeed_152 ⟨_, rfl, hQ⟩
              · replace hK := ps_ifT c42 hK
                refine pm_ki d_X8_doDeed_134 ?_
                have hQ := ps_so hK
                exact ps_zret rfl rfl d_X8_doDeed_135 ⟨_, rfl, hQ⟩
        · replace hK := ps_ifF c36 hK
          refine pm_lld d_X8_doDeed_42 rfl ?_
          refine pm_l2i d_X8_doDeed_43 ?_
          refine pm_ki d_X8_doDeed_44 ?_
          refine pm_isub d_X8_doDeed_47 ?_
          refine ps_topI (fun v45 ev45 => ?_)
          replace hK := ps_ltE ev45 hK
          refine pm_ist4 d_X8_doDeed_48 rfl (by decide) ?_
          refine pm_ald d_X8_doDeed_50 rfl ?_
          refine pm_ild d_X8_doDeed_51 rfl ?_
          refine pm_ki d_X8_doDeed_53 ?_
          refine pm_idiv d_X8_doDeed_56 (by decide) ?_
          refine pm_ild d_X8_doDeed_57 rfl ?_
          refine pm_ki d_X8_doDeed_59 ?_
          refine pm_irem d_X8_doDeed_62 (by decide) ?_
          refine ps_cVI d_X8_doDeed_63 mv_X8_canTellSpeed at_0 ob_0_0 rfl (As := [.int (v45 / 1000), .int (v45 - v45 / 1000 * 1000)]) rfl rfl (ps_room.of (by omega) (by decide)) (Nat.le_of_ble_eq_true rfl) (C_X8_canTellSpeed ((v45 / 1000)) ((v45 - v45 / 1000 * 1000)) σ _ (ps_bdE hK)) ?_
          intro v46 σ47 hT
          clear hK
          have hK := hT
          clear hT
          refine pm_if_ne d_X8_doDeed_66 (fun c48 => ?_) (fun c48 => ?_)
          · replace hK := ps_ifF c48 hK
            refine pm_ald d_X8_doDeed_71 rfl ?_
            refine ps_getR (q := (B1 + 1)) d_X8_doDeed_72 hB1.at0 f_5_0_0 rfl ?_
            refine ps_getR (q := (B1 + 2)) d_X8_doDeed_75 (hB1.at 1 (by decide)) f_5_1_0 rfl ?_
            refine pm_ild d_X8_doDeed_78 rfl ?_
            refine pm_ki d_X8_doDeed_80 ?_
            refine pm_idiv d_X8_doDeed_83 (by decide) ?_
            refine pm_ild d_X8_doDeed_84 rfl ?_
            refine pm_ki d_X8_doDeed_86 ?_
            refine pm_irem d_X8_doDeed_89 (by decide) ?_
            obtain ⟨b50, hT⟩ := ps_gd hK
            replace hK := hT
            clear hT
            refine ps_iast d_X8_doDeed_90 (hB1.at 2 (by decide)) a_5_2 (ps_in_of b50) ?_
            refine ps_nmS (fun σ49 eσ49 => ?_)
            replace hK := ps_ltE eσ49 hK
            refine pm_ki d_X8_doDeed_91 ?_
            have hQ := ps_so hK
            exact ps_zret rfl rfl d_X8_doDeed_92 ⟨_, rfl, hQ⟩
          · replace hK := ps_ifT c48 hK
            refine pm_ki d_X8_doDeed_69 ?_
            have hQ := ps_so hK
            exact ps_zret rfl rfl d_X8_doDeed_70 ⟨_, rfl, hQ⟩
    · replace hK := ps_ifF c26 hK
      refine pm_ald d_X8_doDeed_14 rfl ?_
      refine ps_getR (q := 21) d_X8_doDeed_15 at_0 f_0_0_5 rfl ?_
      refine pm_ald d_X8_doDeed_18 rfl ?_
      refine pm_lld d_X8_doDeed_19 rfl ?_
      refine pm_l2i d_X8_doDeed_20 ?_
      refine ps_cVV d_X8_doDeed_21 mv_X0_run at_21 ob_4_0 rfl (As := [.ref (g.2.2.1 + B1), .int ((p2).toInt32)]) rfl rfl (ps_room.of (by omega) (by decide)) (Nat.le_of_ble_eq_true rfl) (C_X0_run B1 hB1 (((p2).toInt32)) σ _ (ps_bdE hK)) ?_
      intro σ52 hT
      clear hK
      have hK := hT
      clear hT
      refine pm_ki d_X8_doDeed_24 ?_
      have hQ := ps_so hK
      exact ps_zret rfl rfl d_X8_doDeed_25 ⟨_, rfl, hQ⟩
def qX8_doAll_2 (B1 : Nat) (B2 : Nat) : Nat → Int32 → ps_S → Option ((Int32 ⊕ (Int32)) × ps_S)
  | 0, _, _ => none
  | n + 1, x3, σ =>
    ps_let (σ.1 B2 3) fun v1 =>
    if v1 ≤ x3 then
    some (.inr x3, σ)
    else
    if ps_in x3 40 = true then
    ps_let (σ.2.1 (B2 + 1) (x3).toNatClampNeg) fun v3 =>
    ps_bd (qX8_doDeed B1 v3 σ) (fun v4 σ5 =>
    if v4 = 0 then
    some (.inl x3, σ5)
    else
    ps_let (x3 + 1) fun v7 =>
    qX8_doAll_2 B1 B2 n v7 σ5)
    else none
set_option maxRecDepth 100000 in
theorem L_X8_doAll_2 {g : pm_G} (D : Nat) (hD : 7 ≤ D) {P : Int32 → ps_S → Prop} (B1 : Nat) (hB1 : ps_St B1) (B2 : Nat) (hB2 : ps_Tr B2) : ∀ (n : Nat) (x3 : Int32) (σ : ps_S), ps_ok (qX8_doAll_2 B1 B2 n x3 σ) (fun res σ => match res with | .inl r => P r σ | .inr x3 => pm_W g mX8_doAll (ps_F g D (ps_qI P)) 0 0 32 [some (.ref (g.2.2.1 + 0)), some (.ref (g.2.2.1 + B1)), some (.ref (g.2.2.1 + B2)), some (.int x3)] [] 345 (ps_E g σ)) → pm_W g mX8_doAll (ps_F g D (ps_qI P)) 0 0 2 [some (.ref (g.2.2.1 + 0)), some (.ref (g.2.2.1 + B1)), some (.ref (g.2.2.1 + B2)), some (.int x3)] [] 345 (ps_E g σ) := by
  intro n
  induction n with
  | zero => intro x3 σ hK; exact (ps_no hK).elim
  | succ n ih =>
    intro x3 σ hK
    rw [qX8_doAll_2] at hK
    refine pm_ild d_X8_doAll_2 rfl ?_
    refine pm_ald d_X8_doAll_3 rfl ?_
    refine ps_getI d_X8_doAll_4 hB2.at0 f_7_0_3 rfl ?_
    refine ps_topI (fun v1 ev1 => ?_)
    replace hK := ps_ltE ev1 hK
    refine pm_icmp_ge d_X8_doAll_7 (fun c2 => ?_) (fun c2 => ?_)
    · replace hK := ps_ifT c2 hK
      exact ps_so hK
    · replace hK := ps_ifF c2 hK
      refine pm_ald d_X8_doAll_10 rfl ?_
      refine pm_ald d_X8_doAll_11 rfl ?_
      refine pm_ald d_X8_doAll_12 rfl ?_
      refine ps_getR (q := (B2 + 1)) d_X8_doAll_13 hB2.at0 f_7_0_0 rfl ?_
      refine pm_ild d_X8_doAll_16 rfl ?_
      obtain ⟨b8, hT⟩ := ps_gd hK
      replace hK := hT
      clear hT
      refine ps_lald d_X8_doAll_17 (hB2.at 1 (by decide)) a_7_1 (ps_in_of b8) rfl ?_
      refine ps_topL (fun v3 ev3 => ?_)
      replace hK := ps_ltE ev3 hK
      refine ps_cVI d_X8_doAll_18 mv_X8_doDeed at_0 ob_0_0 rfl (As := [.ref (g.2.2.1 + B1), .long v3]) rfl rfl (ps_room.of (by omega) (by decide)) (Nat.le_of_ble_eq_true rfl) (C_X8_doDeed B1 hB1 v3 σ _ (ps_bdE hK)) ?_
      intro v4 σ5 hT
      clear hK
      have hK := hT
      clear hT
      refine pm_if_ne d_X8_doAll_21 (fun c6 => ?_) (fun c6 => ?_)
      · replace hK := ps_ifF c6 hK
        refine pm_inc3 d_X8_doAll_26 rfl ?_
        obtain ⟨v7, ev7⟩ : ∃ y : Int32, y = x3 + 1 := ⟨_, rfl⟩
        rw [← ev7]
        replace hK := ps_ltE ev7 hK
        refine pm_goto d_X8_doAll_29 ?_
        exact ih _ _ hK
      · replace hK := ps_ifT c6 hK
        refine pm_ild d_X8_doAll_24 rfl ?_
        have hQ := ps_so hK
        exact ps_iret rfl d_X8_doAll_25 ⟨_, rfl, hQ⟩
def qX8_doAll (B1 : Nat) (B2 : Nat) (σ : ps_S) : Option (Int32 × ps_S) :=
  ps_bd (qX8_doAll_2 B1 B2 ps_N 0 σ) (fun res σ9 => match res with
  | .inl r => some (r, σ9)
  | .inr v10 =>
    ps_let (σ9.1 B2 3) fun v11 =>
    some (v11, σ9))
set_option maxRecDepth 100000 in
theorem C_X8_doAll {g : pm_G} (B1 : Nat) (hB1 : ps_St B1) (B2 : Nat) (hB2 : ps_Tr B2) (σ : ps_S) (P : Int32 → ps_S → Prop) (hK : ps_ok (qX8_doAll B1 B2 σ) P) : ps_C g mX8_doAll 7 [.ref (g.2.2.1 + 0), .ref (g.2.2.1 + B1), .ref (g.2.2.1 + B2)] σ (ps_qI P) := by
  unfold qX8_doAll at hK
  refine ps_C.of (ls := [some (.ref (g.2.2.1 + 0)), some (.ref (g.2.2.1 + B1)), some (.ref (g.2.2.1 + B2)), none]) 1 (by decide) rfl (Nat.le_of_ble_eq_true rfl) rfl ?_
  refine pm_ki d_X8_doAll_0 ?_
  refine pm_ist3 d_X8_doAll_1 rfl (by decide) ?_
  refine L_X8_doAll_2 _ (by decide) B1 hB1 B2 hB2 _ _ _ (ps_ok.mono (ps_bdE hK) ?_)
  intro res σ9 hT
  clear hK
  match res, hT with
  | .inl r, hT => exact ps_so hT
  | .inr v10, hT =>
    have hK := hT
    clear hT
    refine pm_ald d_X8_doAll_32 rfl ?_
    refine ps_getI d_X8_doAll_33 hB2.at0 f_7_0_3 rfl ?_
    refine ps_topI (fun v11 ev11 => ?_)
    replace hK := ps_ltE ev11 hK
    have hQ := ps_so hK
    exact ps_iret rfl d_X8_doAll_36 ⟨_, rfl, hQ⟩
def qX8_isTray (p1 : Int32) (σ : ps_S) : Option (Int32 × ps_S) :=
  if p1 < 0 then
  some (0, σ)
  else
  if 4 ≤ p1 then
  some (0, σ)
  else
  some (1, σ)
set_option maxRecDepth 100000 in
theorem C_X8_isTray {g : pm_G} (p1 : Int32) (σ : ps_S) (P : Int32 → ps_S → Prop) (hK : ps_ok (qX8_isTray p1 σ) P) : ps_C g mX8_isTray 1 [.int p1] σ (ps_qI P) := by
  unfold qX8_isTray at hK
  refine ps_C.of (ls := [some (.int p1)]) 0 (by decide) rfl (Nat.le_of_ble_eq_true rfl) rfl ?_
  refine pm_ild d_X8_isTray_0 rfl ?_
  refine pm_if_lt d_X8_isTray_1 (fun c1 => ?_) (fun c1 => ?_)
  · replace hK := ps_ifT c1 hK
    refine pm_ki d_X8_isTray_13 ?_
    have hQ := ps_so hK
    exact ps_zret rfl rfl d_X8_isTray_14 ⟨_, rfl, hQ⟩
  · replace hK := ps_ifF c1 hK
    refine pm_ild d_X8_isTray_4 rfl ?_
    refine pm_ki d_X8_isTray_5 ?_
    refine pm_icmp_ge d_X8_isTray_6 (fun c2 => ?_) (fun c2 => ?_)
    · replace hK := ps_ifT c2 hK
      refine pm_ki d_X8_isTray_13 ?_
      have hQ := ps_so hK
      exact ps_zret rfl rfl d_X8_isTray_14 ⟨_, rfl, hQ⟩
    · replace hK := ps_ifF c2 hK
      refine pm_ki d_X8_isTray_9 ?_
      refine pm_goto d_X8_isTray_10 ?_
      have hQ := ps_so hK
      exact ps_zret rfl rfl d_X8_isTray_14 ⟨_, rfl, hQ⟩
def qX8_judge (p1 : Int32) (p2 : Int32) (σ : ps_S) : Option (Int32 × ps_S) :=
  ps_bd (qX8_isTray p1 σ) (fun v1 σ2 =>
  if v1 = 0 then
  some ((-2), σ2)
  else
  ps_bd (qX8_isWithin p2 0 3 σ2) (fun v4 σ5 =>
  if v4 = 0 then
  some ((-2), σ5)
  else
  if ps_in p1 4 = true then
  ps_let (265 + 2 * (p1).toNatClampNeg) fun B9 =>
  ps_let (σ5.1 B9 1) fun v10 =>
  if v10 = 0 then
  ps_bd (qX6_copyFrom 44 26 σ5) (fun _ σ13 =>
  if ps_in p1 4 = true then
  ps_let (265 + 2 * (p1).toNatClampNeg) fun B16 =>
  ps_bd (qX8_doAll 44 B16 σ13) (fun v17 σ18 =>
  if ps_in p1 4 = true then
  ps_let (265 + 2 * (p1).toNatClampNeg) fun B21 =>
  ps_let (σ18.1 B21 3) fun v22 =>
  if v17 = v22 then
  if p2 = 0 then
  some ((-1), σ18)
  else
  if p2 = 1 then
  some (0, σ18)
  else
  if p2 = 2 then
  ps_let (σ18.1 44 9) fun v36 =>
  some (v36, σ18)
  else
  ps_let (σ18.1 44 8) fun v37 =>
  some (v37, σ18)
  else
  if p2 = 0 then
  some (v17, σ18)
  else
  if p2 = 1 then
  some (1, σ18)
  else
  if p2 = 2 then
  ps_let (σ18.1 44 9) fun v29 =>
  some (v29, σ18)
  else
  ps_let (σ18.1 44 8) fun v30 =>
  some (v30, σ18)
  else none)
  else none)
  else
  some ((-6), σ5)
  else none))
set_option maxRecDepth 100000 in
theorem C_X8_judge {g : pm_G} (p1 : Int32) (p2 : Int32) (σ : ps_S) (P : Int32 → ps_S → Prop) (hK : ps_ok (qX8_judge p1 p2 σ) P) : ps_C g mX8_judge 8 [.ref (g.2.2.1 + 0), .int p1, .int p2] σ (ps_qI P) := by
  unfold qX8_judge at hK
  refine ps_C.of (ls := [some (.ref (g.2.2.1 + 0)), some (.int p1), some (.int p2), none, none]) 2 (by decide) rfl (Nat.le_of_ble_eq_true rfl) rfl ?_
  refine pm_ild d_X8_judge_0 rfl ?_
  refine ps_cSI d_X8_judge_1 ms_X8_isTray (As := [.int p1]) rfl rfl (ps_room.of (by omega) (by decide)) (Nat.le_of_ble_eq_true rfl) (C_X8_isTray p1 σ _ (ps_bdE hK)) ?_
  intro v1 σ2 hT
  clear hK
  have hK := hT
  clear hT
  refine pm_if_eq d_X8_judge_4 (fun c3 => ?_) (fun c3 => ?_)
  · replace hK := ps_ifT c3 hK
    refine pm_ki d_X8_judge_16 ?_
    have hQ := ps_so hK
    exact ps_iret rfl d_X8_judge_18 ⟨_, rfl, hQ⟩
  · replace hK := ps_ifF c3 hK
    refine pm_ild d_X8_judge_7 rfl ?_
    refine pm_ki d_X8_judge_8 ?_
    refine pm_ki d_X8_judge_9 ?_
    refine ps_cSI d_X8_judge_10 ms_X8_isWithin (As := [.int p2, .int 0, .int 3]) rfl rfl (ps_room.of (by omega) (by decide)) (Nat.le_of_ble_eq_true rfl) (C_X8_isWithin p2 0 3 σ2 _ (ps_bdE hK)) ?_
    intro v4 σ5 hT
    clear hK
    have hK := hT
    clear hT
    refine pm_if_ne d_X8_judge_13 (fun c6 => ?_) (fun c6 => ?_)
    · replace hK := ps_ifF c6 hK
      refine pm_ald d_X8_judge_19 rfl ?_
      refine ps_getR (q := 81) d_X8_judge_20 at_0 f_0_0_12 rfl ?_
      refine pm_ild d_X8_judge_23 rfl ?_
      obtain ⟨b7, hT⟩ := ps_gd hK
      replace hK := hT
      clear hT
      obtain ⟨B9, eB9⟩ : ∃ y : Nat, y = (265 + 2 * (p1).toNatClampNeg) := ⟨_, rfl⟩
      refine ps_qald6 (q := B9) d_X8_judge_24 at_81 a_6_1 (ps_in_of b7) eB9.symm ?_
      replace hK := ps_ltE eB9 hK
      have hB9 : ps_Tr B9 := by rw [eB9]; exact ps_Trt _ (ps_in_lt b7)
      refine ps_getI d_X8_judge_25 hB9.at0 f_7_0_1 rfl ?_
      refine ps_topI (fun v10 ev10 => ?_)
      replace hK := ps_ltE ev10 hK
      refine pm_if_eq d_X8_judge_28 (fun c11 => ?_) (fun c11 => ?_)
      · replace hK := ps_ifT c11 hK
        refine pm_ald d_X8_judge_34 rfl ?_
        refine ps_getR (q := 44) d_X8_judge_35 at_0 f_0_0_7 rfl ?_
        refine pm_ald d_X8_judge_38 rfl ?_
        refine ps_getR (q := 26) d_X8_judge_39 at_0 f_0_0_6 rfl ?_
        refine ps_cVV d_X8_judge_42 mv_X6_copyFrom ps_St44.at0 ob_5_0 rfl (As := [.ref (g.2.2.1 + 26)]) rfl rfl (ps_room.of (by omega) (by decide)) (Nat.le_of_ble_eq_true rfl) (C_X6_copyFrom 44 ps_St44 26 ps_St26 σ5 _ (ps_bdE hK)) ?_
        intro σ13 hT
        clear hK
        have hK := hT
        clear hT
        refine pm_ald d_X8_judge_45 rfl ?_
        refine pm_ald d_X8_judge_46 rfl ?_
        refine ps_getR (q := 44) d_X8_judge_47 at_0 f_0_0_7 rfl ?_
        refine pm_ald d_X8_judge_50 rfl ?_
        refine ps_getR (q := 81) d_X8_judge_51 at_0 f_0_0_12 rfl ?_
        refine pm_ild d_X8_judge_54 rfl ?_
        obtain ⟨b14, hT⟩ := ps_gd hK
        replace hK := hT
        clear hT
        obtain ⟨B16, eB16⟩ : ∃ y : Nat, y = (265 + 2 * (p1).toNatClampNeg) := ⟨_, rfl⟩
        refine ps_qald6 (q := B16) d_X8_judge_55 at_81 a_6_1 (ps_in_of b14) eB16.symm ?_
        replace hK := ps_ltE eB16 hK
        have hB16 : ps_Tr B16 := by rw [eB16]; exact ps_Trt _ (ps_in_lt b14)
        refine ps_cVI d_X8_judge_56 mv_X8_doAll at_0 ob_0_0 rfl (As := [.ref (g.2.2.1 + 44), .ref (g.2.2.1 + B16)]) rfl rfl (ps_room.of (by omega) (by decide)) (Nat.le_of_ble_eq_true rfl) (C_X8_doAll 44 ps_St44 B16 hB16 σ13 _ (ps_bdE hK)) ?_
        intro v17 σ18 hT
        clear hK
        have hK := hT
        clear hT
        refine pm_ist3 d_X8_judge_59 rfl (by decide) ?_
        refine pm_ild d_X8_judge_60 rfl ?_
        refine pm_ald d_X8_judge_61 rfl ?_
        refine ps_getR (q := 81) d_X8_judge_62 at_0 f_0_0_12 rfl ?_
        refine pm_ild d_X8_judge_65 rfl ?_
        obtain ⟨b19, hT⟩ := ps_gd hK
        replace hK := hT
        clear hT
        obtain ⟨B21, eB21⟩ : ∃ y : Nat, y = (265 + 2 * (p1).toNatClampNeg) := ⟨_, rfl⟩
        refine ps_qald6 (q := B21) d_X8_judge_66 at_81 a_6_1 (ps_in_of b19) eB21.symm ?_
        replace hK := ps_ltE eB21 hK
        have hB21 : ps_Tr B21 := by rw [eB21]; exact ps_Trt _ (ps_in_lt b19)
        refine ps_getI d_X8_judge_67 hB21.at0 f_7_0_3 rfl ?_
        refine ps_topI (fun v22 ev22 => ?_)
        replace hK := ps_ltE ev22 hK
        refine pm_icmp_ne d_X8_judge_70 (fun c23 => ?_) (fun c23 => ?_)
        · replace hK := ps_ifF c23 hK
          refine pm_ki d_X8_judge_77 ?_
          refine pm_ist4 d_X8_judge_78 rfl (by decide) ?_
          refine pm_ild d_X8_judge_80 rfl ?_
          by_cases c24 : p2 = 0
          · replace hK := ps_ifT c24 hK
            refine pm_tabIn (tgt := 108) (off := 27) d_X8_judge_81 (by rw [c24]; decide) (by rw [c24]; decide) (by rw [c24]; rfl) (by decide) ?_
            refine pm_ild d_X8_judge_108 rfl ?_
            refine pm_if_eq d_X8_judge_110 (fun _ => ?_) (fun c25 => (c25 (by decide)).elim)
            refine pm_ild d_X8_judge_117 rfl ?_
            have hQ := ps_so hK
            exact ps_iret rfl d_X8_judge_118 ⟨_, rfl, hQ⟩
          replace hK := ps_ifF c24 hK
          by_cases c26 : p2 = 1
          · replace hK := ps_ifT c26 hK
            refine pm_tabIn (tgt := 119) (off := 38) d_X8_judge_81 (by rw [c26]; decide) (by rw [c26]; decide) (by rw [c26]; rfl) (by decide) ?_
            refine pm_ild d_X8_judge_119 rfl ?_
            refine pm_if_eq d_X8_judge_121 (fun _ => ?_) (fun c27 => (c27 (by decide)).elim)
            refine pm_ki d_X8_judge_128 ?_
            have hQ := ps_so hK
            exact ps_iret rfl d_X8_judge_129 ⟨_, rfl, hQ⟩
          replace hK := ps_ifF c26 hK
          by_cases c28 : p2 = 2
          · replace hK := ps_ifT c28 hK
            refine pm_tabIn (tgt := 130) (off := 49) d_X8_judge_81 (by rw [c28]; decide) (by rw [c28]; decide) (by rw [c28]; rfl) (by decide) ?_
            refine pm_ald d_X8_judge_130 rfl ?_
            refine ps_getR (q := 44) d_X8_judge_131 at_0 f_0_0_7 rfl ?_
            refine ps_getI d_X8_judge_134 ps_St44.at0 f_5_0_9 rfl ?_
            refine ps_topI (fun v29 ev29 => ?_)
            replace hK := ps_ltE ev29 hK
            have hQ := ps_so hK
            exact ps_iret rfl d_X8_judge_137 ⟨_, rfl, hQ⟩
          replace hK := ps_ifF c28 hK
          refine pm_tabOut (tgt := 138) d_X8_judge_81 (by decide) (ps_swout (lo := 0) (n := 3) (by decide) (by decide) (fun k hk => match k, hk with | 0, _ => c24 | 1, _ => c26 | 2, _ => c28 | k + 3, hk => absurd hk (by omega))) ?_
          refine pm_ald d_X8_judge_138 rfl ?_
          refine ps_getR (q := 44) d_X8_judge_139 at_0 f_0_0_7 rfl ?_
          refine ps_getI d_X8_judge_142 ps_St44.at0 f_5_0_8 rfl ?_
          refine ps_topI (fun v30 ev30 => ?_)
          replace hK := ps_ltE ev30 hK
          have hQ := ps_so hK
          exact ps_iret rfl d_X8_judge_145 ⟨_, rfl, hQ⟩
        · replace hK := ps_ifT c23 hK
          refine pm_ki d_X8_judge_73 ?_
          refine pm_goto d_X8_judge_74 ?_
          refine pm_ist4 d_X8_judge_78 rfl (by decide) ?_
          refine pm_ild d_X8_judge_80 rfl ?_
          by_cases c31 : p2 = 0
          · replace hK := ps_ifT c31 hK
            refine pm_tabIn (tgt := 108) (off := 27) d_X8_judge_81 (by rw [c31]; decide) (by rw [c31]; decide) (by rw [c31]; rfl) (by decide) ?_
            refine pm_ild d_X8_judge_108 rfl ?_
            refine pm_if_eq d_X8_judge_110 (fun c32 => absurd c32 (by decide)) (fun _ => ?_)
            refine pm_ki d_X8_judge_113 ?_
            refine pm_goto d_X8_judge_114 ?_
            have hQ := ps_so hK
            exact ps_iret rfl d_X8_judge_118 ⟨_, rfl, hQ⟩
          replace hK := ps_ifF c31 hK
          by_cases c33 : p2 = 1
          · replace hK := ps_ifT c33 hK
            refine pm_tabIn (tgt := 119) (off := 38) d_X8_judge_81 (by rw [c33]; decide) (by rw [c33]; decide) (by rw [c33]; rfl) (by decide) ?_
            refine pm_ild d_X8_judge_119 rfl ?_
            refine pm_if_eq d_X8_judge_121 (fun c34 => absurd c34 (by decide)) (fun _ => ?_)
            refine pm_ki d_X8_judge_124 ?_
            refine pm_goto d_X8_judge_125 ?_
            have hQ := ps_so hK
            exact ps_iret rfl d_X8_judge_129 ⟨_, rfl, hQ⟩
          replace hK := ps_ifF c33 hK
          by_cases c35 : p2 = 2
          · replace hK := ps_ifT c35 hK
            refine pm_tabIn (tgt := 130) (off := 49) d_X8_judge_81 (by rw [c35]; decide) (by rw [c35]; decide) (by rw [c35]; rfl) (by decide) ?_
            refine pm_ald d_X8_judge_130 rfl ?_
            refine ps_getR (q := 44) d_X8_judge_131 at_0 f_0_0_7 rfl ?_
            refine ps_getI d_X8_judge_134 ps_St44.at0 f_5_0_9 rfl ?_
            refine ps_topI (fun v36 ev36 => ?_)
            replace hK := ps_ltE ev36 hK
            have hQ := ps_so hK
            exact ps_iret rfl d_X8_judge_137 ⟨_, rfl, hQ⟩
          replace hK := ps_ifF c35 hK
          refine pm_tabOut (tgt := 138) d_X8_judge_81 (by decide) (ps_swout (lo := 0) (n := 3) (by decide) (by decide) (fun k hk => match k, hk with | 0, _ => c31 | 1, _ => c33 | 2, _ => c35 | k + 3, hk => absurd hk (by omega))) ?_
          refine pm_ald d_X8_judge_138 rfl ?_
          refine ps_getR (q := 44) d_X8_judge_139 at_0 f_0_0_7 rfl ?_
          refine ps_getI d_X8_judge_142 ps_St44.at0 f_5_0_8 rfl ?_
          refine ps_topI (fun v37 ev37 => ?_)
          replace hK := ps_ltE ev37 hK
          have hQ := ps_so hK
          exact ps_iret rfl d_X8_judge_145 ⟨_, rfl, hQ⟩
      · replace hK := ps_ifF c11 hK
        refine pm_ki d_X8_judge_31 ?_
        have hQ := ps_so hK
        exact ps_iret rfl d_X8_judge_33 ⟨_, rfl, hQ⟩
    · replace hK := ps_ifT c6 hK
      refine pm_ki d_X8_judge_16 ?_
      have hQ := ps_so hK
      exact ps_iret rfl d_X8_judge_18 ⟨_, rfl, hQ⟩
def qX8_later (p1 : Int32) (p2 : Int32) (σ : ps_S) : Option (Int32 × ps_S) :=
  ps_bd (qX8_isWithin p2 0 4 σ) (fun v1 σ2 =>
  if v1 = 0 then
  some ((-2), σ2)
  else
  ps_bd (qX8_isWithin p1 0 999 σ2) (fun v4 σ5 =>
  if v4 = 0 then
  some ((-3), σ5)
  else
  ps_bd (qX8_goOn p1 σ5) (fun _ σ8 =>
  if p2 = 0 then
  ps_let (σ8.1 44 9) fun v10 =>
  some (v10, σ8)
  else
  if p2 = 1 then
  ps_bd (qX6_dirtyInAll 44 σ8) (fun v12 σ13 =>
  some (v12, σ13))
  else
  if p2 = 2 then
  ps_let (σ8.1 44 9) fun v15 =>
  ps_bd (qX6_dirtyInAll 44 σ8) (fun v16 σ17 =>
  some ((v15 - v16), σ17))
  else
  if p2 = 3 then
  ps_bd (qX6_writtenInAll 44 σ8) (fun v19 σ20 =>
  ps_bd (qX6_writtenInAll 26 σ20) (fun v21 σ22 =>
  some ((v19 - v21), σ22)))
  else
  ps_bd (qX6_madeInAll 44 σ8) (fun v23 σ24 =>
  ps_bd (qX6_madeInAll 26 σ24) (fun v25 σ26 =>
  some ((v23 - v25), σ26))))))
set_option maxRecDepth 100000 in
theorem C_X8_later {g : pm_G} (p1 : Int32) (p2 : Int32) (σ : ps_S) (P : Int32 → ps_S → Prop) (hK : ps_ok (qX8_later p1 p2 σ) P) : ps_C g mX8_later 7 [.ref (g.2.2.1 + 0), .int p1, .int p2] σ (ps_qI P) := by
  unfold qX8_later at hK
  refine ps_C.of (ls := [some (.ref (g.2.2.1 + 0)), some (.int p1), some (.int p2)]) 0 (by decide) rfl (Nat.le_of_ble_eq_true rfl) rfl ?_
  refine pm_ild d_X8_later_0 rfl ?_
  refine pm_ki d_X8_later_1 ?_
  refine pm_ki d_X8_later_2 ?_
  refine ps_cSI d_X8_later_3 ms_X8_isWithin (As := [.int p2, .int 0, .int 4]) rfl rfl (ps_room.of (by omega) (by decide)) (Nat.le_of_ble_eq_true rfl) (C_X8_isWithin p2 0 4 σ _ (ps_bdE hK)) ?_
  intro v1 σ2 hT
  clear hK
  have hK := hT
  clear hT
  refine pm_if_ne d_X8_later_6 (fun c3 => ?_) (fun c3 => ?_)
  · replace hK := ps_ifF c3 hK
    refine pm_ild d_X8_later_12 rfl ?_
    refine pm_ki d_X8_later_13 ?_
    refine pm_ki d_X8_later_14 ?_
    refine ps_cSI d_X8_later_17 ms_X8_isWithin (As := [.int p1, .int 0, .int 999]) rfl rfl (ps_room.of (by omega) (by decide)) (Nat.le_of_ble_eq_true rfl) (C_X8_isWithin p1 0 999 σ2 _ (ps_bdE hK)) ?_
    intro v4 σ5 hT
    clear hK
    have hK := hT
    clear hT
    refine pm_if_ne d_X8_later_20 (fun c6 => ?_) (fun c6 => ?_)
    · replace hK := ps_ifF c6 hK
      refine pm_ald d_X8_later_26 rfl ?_
      refine pm_ild d_X8_later_27 rfl ?_
      refine ps_cVV d_X8_later_28 mv_X8_goOn at_0 ob_0_0 rfl (As := [.int p1]) rfl rfl (ps_room.of (by omega) (by decide)) (Nat.le_of_ble_eq_true rfl) (C_X8_goOn p1 σ5 _ (ps_bdE hK)) ?_
      intro σ8 hT
      clear hK
      have hK := hT
      clear hT
      refine pm_ild d_X8_later_31 rfl ?_
      by_cases c9 : p2 = 0
      · replace hK := ps_ifT c9 hK
        refine pm_tabIn (tgt := 64) (off := 32) d_X8_later_32 (by rw [c9]; decide) (by rw [c9]; decide) (by rw [c9]; rfl) (by decide) ?_
        refine pm_ald d_X8_later_64 rfl ?_
        refine ps_getR (q := 44) d_X8_later_65 at_0 f_0_0_7 rfl ?_
        refine ps_getI d_X8_later_68 ps_St44.at0 f_5_0_9 rfl ?_
        refine ps_topI (fun v10 ev10 => ?_)
        replace hK := ps_ltE ev10 hK
        have hQ := ps_so hK
        exact ps_iret rfl d_X8_later_71 ⟨_, rfl, hQ⟩
      replace hK := ps_ifF c9 hK
      by_cases c11 : p2 = 1
      · replace hK := ps_ifT c11 hK
        refine pm_tabIn (tgt := 72) (off := 40) d_X8_later_32 (by rw [c11]; decide) (by rw [c11]; decide) (by rw [c11]; rfl) (by decide) ?_
        refine pm_ald d_X8_later_72 rfl ?_
        refine ps_getR (q := 44) d_X8_later_73 at_0 f_0_0_7 rfl ?_
        refine ps_cVI d_X8_later_76 mv_X6_dirtyInAll ps_St44.at0 ob_5_0 rfl (As := []) rfl rfl (ps_room.of (by omega) (by decide)) (Nat.le_of_ble_eq_true rfl) (C_X6_dirtyInAll 44 ps_St44 σ8 _ (ps_bdE hK)) ?_
        intro v12 σ13 hT
        clear hK
        have hK := hT
        clear hT
        have hQ := ps_so hK
        exact ps_iret rfl d_X8_later_79 ⟨_, rfl, hQ⟩
      replace hK := ps_ifF c11 hK
      by_cases c14 : p2 = 2
      · replace hK := ps_ifT c14 hK
        refine pm_tabIn (tgt := 80) (off := 48) d_X8_later_32 (by rw [c14]; decide) (by rw [c14]; decide) (by rw [c14]; rfl) (by decide) ?_
        refine pm_ald d_X8_later_80 rfl ?_
        refine ps_getR (q := 44) d_X8_later_81 at_0 f_0_0_7 rfl ?_
        refine ps_getI d_X8_later_84 ps_St44.at0 f_5_0_9 rfl ?_
        refine ps_topI (fun v15 ev15 => ?_)
        replace hK := ps_ltE ev15 hK
        refine pm_ald d_X8_later_87 rfl ?_
        refine ps_getR (q := 44) d_X8_later_88 at_0 f_0_0_7 rfl ?_
        refine ps_cVI d_X8_later_91 mv_X6_dirtyInAll ps_St44.at0 ob_5_0 rfl (As := []) rfl rfl (ps_room.of (by omega) (by decide)) (Nat.le_of_ble_eq_true rfl) (C_X6_dirtyInAll 44 ps_St44 σ8 _ (ps_bdE hK)) ?_
        intro v16 σ17 hT
        clear hK
        have hK := hT
        clear hT
        refine pm_isub d_X8_later_94 ?_
        have hQ := ps_so hK
        exact ps_iret rfl d_X8_later_95 ⟨_, rfl, hQ⟩
      replace hK := ps_ifF c14 hK
      by_cases c18 : p2 = 3
      · replace hK := ps_ifT c18 hK
        refine pm_tabIn (tgt := 96) (off := 64) d_X8_later_32 (by rw [c18]; decide) (by rw [c18]; decide) (by rw [c18]; rfl) (by decide) ?_
        refine pm_ald d_X8_later_96 rfl ?_
        refine ps_getR (q := 44) d_X8_later_97 at_0 f_0_0_7 rfl ?_
        refine ps_cVI d_X8_later_100 mv_X6_writtenInAll ps_St44.at0 ob_5_0 rfl (As := []) rfl rfl (ps_room.of (by omega) (by decide)) (Nat.le_of_ble_eq_true rfl) (C_X6_writtenInAll 44 ps_St44 σ8 _ (ps_bdE hK)) ?_
        intro v19 σ20 hT
        clear hK
        have hK := hT
        clear hT
        refine pm_ald d_X8_later_103 rfl ?_
        refine ps_getR (q := 26) d_X8_later_104 at_0 f_0_0_6 rfl ?_
        refine ps_cVI d_X8_later_107 mv_X6_writtenInAll ps_St26.at0 ob_5_0 rfl (As := []) rfl rfl (ps_room.of (by omega) (by decide)) (Nat.le_of_ble_eq_true rfl) (C_X6_writtenInAll 26 ps_St26 σ20 _ (ps_bdE hK)) ?_
        intro v21 σ22 hT
        clear hK
        have hK := hT
        clear hT
        refine pm_isub d_X8_later_110 ?_
        have hQ := ps_so hK
        exact ps_iret rfl d_X8_later_111 ⟨_, rfl, hQ⟩
      replace hK := ps_ifF c18 hK
      refine pm_tabOut (tgt := 112) d_X8_later_32 (by decide) (ps_swout (lo := 0) (n := 4) (by decide) (by decide) (fun k hk => match k, hk with | 0, _ => c9 | 1, _ => c11 | 2, _ => c14 | 3, _ => c18 | k + 4, hk => absurd hk (by omega))) ?_
      refine pm_ald d_X8_later_112 rfl ?_
      refine ps_getR (q := 44) d_X8_later_113 at_0 f_0_0_7 rfl ?_
      refine ps_cVI d_X8_later_116 mv_X6_madeInAll ps_St44.at0 ob_5_0 rfl (As := []) rfl rfl (ps_room.of (by omega) (by decide)) (Nat.le_of_ble_eq_true rfl) (C_X6_madeInAll 44 ps_St44 σ8 _ (ps_bdE hK)) ?_
      intro v23 σ24 hT
      clear hK
      have hK := hT
      clear hT
      refine pm_ald d_X8_later_119 rfl ?_
      refine ps_getR (q := 26) d_X8_later_120 at_0 f_0_0_6 rfl ?_
      refine ps_cVI d_X8_later_123 mv_X6_madeInAll ps_St26.at0 ob_5_0 rfl (As := []) rfl rfl (ps_room.of (by omega) (by decide)) (Nat.le_of_ble_eq_true rfl) (C_X6_madeInAll 26 ps_St26 σ24 _ (ps_bdE hK)) ?_
      intro v25 σ26 hT
      clear hK
      have hK := hT
      clear hT
      refine pm_isub d_X8_later_126 ?_
      have hQ := ps_so hK
      exact ps_iret rfl d_X8_later_127 ⟨_, rfl, hQ⟩
    · replace hK := ps_ifT c6 hK
      refine pm_ki d_X8_later_23 ?_
      have hQ := ps_so hK
      exact ps_iret rfl d_X8_later_25 ⟨_, rfl, hQ⟩
  · replace hK := ps_ifT c3 hK
    refine pm_ki d_X8_later_9 ?_
    have hQ := ps_so hK
    exact ps_iret rfl d_X8_later_11 ⟨_, rfl, hQ⟩
def qX7_put (B : Nat) (p1 : Int32) (p2 : Int64) (σ : ps_S) : Option (Unit × ps_S) :=
  ps_let (σ.1 B 2) fun v1 =>
  if v1 = 0 then
  if ps_in p1 40 = true then
  ps_let (ps_rL σ (B + 1) (vp_updL (σ.2.1 (B + 1)) (p1).toNatClampNeg (((((((p2).toInt32)).toInt8.toInt32)).toInt64)))) fun σ3 =>
  some ((), σ3)
  else none
  else
  if v1 = 1 then
  if ps_in p1 40 = true then
  ps_let (ps_rL σ (B + 1) (vp_updL (σ.2.1 (B + 1)) (p1).toNatClampNeg (((((((p2).toInt32)).toInt16.toInt32)).toInt64)))) fun σ6 =>
  some ((), σ6)
  else none
  else
  if v1 = 2 then
  if ps_in p1 40 = true then
  ps_let (ps_rL σ (B + 1) (vp_updL (σ.2.1 (B + 1)) (p1).toNatClampNeg (((((p2).toInt32)).toInt64)))) fun σ9 =>
  some ((), σ9)
  else none
  else
  if ps_in p1 40 = true then
  ps_let (ps_rL σ (B + 1) (vp_updL (σ.2.1 (B + 1)) (p1).toNatClampNeg p2)) fun σ11 =>
  some ((), σ11)
  else none
set_option maxRecDepth 100000 in
theorem C_X7_put {g : pm_G} (B : Nat) (hB : ps_Tr B) (p1 : Int32) (p2 : Int64) (σ : ps_S) (P : Unit → ps_S → Prop) (hK : ps_ok (qX7_put B p1 p2 σ) P) : ps_C g mX7_put 1 [.ref (g.2.2.1 + B), .int p1, .long p2] σ (ps_qV P) := by
  unfold qX7_put at hK
  refine ps_C.of (ls := [some (.ref (g.2.2.1 + B)), some (.int p1), some (.long p2), none]) 0 (by decide) rfl (Nat.le_of_ble_eq_true rfl) rfl ?_
  refine pm_ald d_X7_put_0 rfl ?_
  refine ps_getI d_X7_put_1 hB.at0 f_7_0_2 rfl ?_
  refine ps_topI (fun v1 ev1 => ?_)
  replace hK := ps_ltE ev1 hK
  by_cases c2 : v1 = 0
  · replace hK := ps_ifT c2 hK
    refine pm_tabIn (tgt := 32) (off := 28) d_X7_put_4 (by rw [c2]; decide) (by rw [c2]; decide) (by rw [c2]; rfl) (by decide) ?_
    refine pm_ald d_X7_put_32 rfl ?_
    refine ps_getR (q := (B + 1)) d_X7_put_33 hB.at0 f_7_0_0 rfl ?_
    refine pm_ild d_X7_put_36 rfl ?_
    refine pm_lld d_X7_put_37 rfl ?_
    refine pm_l2i d_X7_put_38 ?_
    refine pm_i2b d_X7_put_39 ?_
    refine pm_i2l d_X7_put_40 ?_
    obtain ⟨b4, hT⟩ := ps_gd hK
    replace hK := hT
    clear hT
    refine ps_last d_X7_put_41 (hB.at 1 (by decide)) a_7_1 (ps_in_of b4) ?_
    refine ps_nmS (fun σ3 eσ3 => ?_)
    replace hK := ps_ltE eσ3 hK
    refine pm_goto d_X7_put_42 ?_
    have hQ := ps_so hK
    exact ps_vret rfl d_X7_put_77 ⟨rfl, hQ⟩
  replace hK := ps_ifF c2 hK
  by_cases c5 : v1 = 1
  · replace hK := ps_ifT c5 hK
    refine pm_tabIn (tgt := 45) (off := 41) d_X7_put_4 (by rw [c5]; decide) (by rw [c5]; decide) (by rw [c5]; rfl) (by decide) ?_
    refine pm_ald d_X7_put_45 rfl ?_
    refine ps_getR (q := (B + 1)) d_X7_put_46 hB.at0 f_7_0_0 rfl ?_
    refine pm_ild d_X7_put_49 rfl ?_
    refine pm_lld d_X7_put_50 rfl ?_
    refine pm_l2i d_X7_put_51 ?_
    refine pm_i2s d_X7_put_52 ?_
    refine pm_i2l d_X7_put_53 ?_
    obtain ⟨b7, hT⟩ := ps_gd hK
    replace hK := hT
    clear hT
    refine ps_last d_X7_put_54 (hB.at 1 (by decide)) a_7_1 (ps_in_of b7) ?_
    refine ps_nmS (fun σ6 eσ6 => ?_)
    replace hK := ps_ltE eσ6 hK
    refine pm_goto d_X7_put_55 ?_
    have hQ := ps_so hK
    exact ps_vret rfl d_X7_put_77 ⟨rfl, hQ⟩
  replace hK := ps_ifF c5 hK
  by_cases c8 : v1 = 2
  · replace hK := ps_ifT c8 hK
    refine pm_tabIn (tgt := 58) (off := 54) d_X7_put_4 (by rw [c8]; decide) (by rw [c8]; decide) (by rw [c8]; rfl) (by decide) ?_
    refine pm_ald d_X7_put_58 rfl ?_
    refine ps_getR (q := (B + 1)) d_X7_put_59 hB.at0 f_7_0_0 rfl ?_
    refine pm_ild d_X7_put_62 rfl ?_
    refine pm_lld d_X7_put_63 rfl ?_
    refine pm_l2i d_X7_put_64 ?_
    refine pm_i2l d_X7_put_65 ?_
    obtain ⟨b10, hT⟩ := ps_gd hK
    replace hK := hT
    clear hT
    refine ps_last d_X7_put_66 (hB.at 1 (by decide)) a_7_1 (ps_in_of b10) ?_
    refine ps_nmS (fun σ9 eσ9 => ?_)
    replace hK := ps_ltE eσ9 hK
    refine pm_goto d_X7_put_67 ?_
    have hQ := ps_so hK
    exact ps_vret rfl d_X7_put_77 ⟨rfl, hQ⟩
  replace hK := ps_ifF c8 hK
  refine pm_tabOut (tgt := 70) d_X7_put_4 (by decide) (ps_swout (lo := 0) (n := 3) (by decide) (by decide) (fun k hk => match k, hk with | 0, _ => c2 | 1, _ => c5 | 2, _ => c8 | k + 3, hk => absurd hk (by omega))) ?_
  refine pm_ald d_X7_put_70 rfl ?_
  refine ps_getR (q := (B + 1)) d_X7_put_71 hB.at0 f_7_0_0 rfl ?_
  refine pm_ild d_X7_put_74 rfl ?_
  refine pm_lld d_X7_put_75 rfl ?_
  obtain ⟨b12, hT⟩ := ps_gd hK
  replace hK := hT
  clear hT
  refine ps_last d_X7_put_76 (hB.at 1 (by decide)) a_7_1 (ps_in_of b12) ?_
  refine ps_nmS (fun σ11 eσ11 => ?_)
  replace hK := ps_ltE eσ11 hK
  have hQ := ps_so hK
  exact ps_vret rfl d_X7_put_77 ⟨rfl, hQ⟩
def qX8_lists_49 (B9 : Nat) (y1 : Int32) (y2 : Int32) : Nat → Int32 → ps_S → Option (((Int32)) × ps_S)
  | 0, _, _ => none
  | n + 1, x4, σ =>
    ps_let (σ.1 B9 3) fun v14 =>
    if v14 ≤ x4 then
    some (x4, σ)
    else
    ps_bd (qX8_wroteInSpan y2 σ) (fun v16 σ17 =>
    ps_bd (qX7_put B9 x4 (((v16).toInt64)) σ17) (fun _ σ19 =>
    ps_let (x4 + 1) fun v20 =>
    qX8_lists_49 B9 y1 y2 n v20 σ19))
set_option maxRecDepth 100000 in
theorem L_X8_lists_49 {g : pm_G} (D : Nat) (hD : 7 ≤ D) {P : Int32 → ps_S → Prop} (B9 : Nat) (hB9 : ps_Tr B9) (y1 : Int32) (y2 : Int32) : ∀ (n : Nat) (x4 : Int32) (σ : ps_S), ps_ok (qX8_lists_49 B9 y1 y2 n x4 σ) (fun res σ => match res with | x4 => pm_W g mX8_lists (ps_F g D (ps_qI P)) 0 0 76 [some (.ref (g.2.2.1 + 0)), some (.int y1), some (.int y2), some (.ref (g.2.2.1 + B9)), some (.int x4)] [] 345 (ps_E g σ)) → pm_W g mX8_lists (ps_F g D (ps_qI P)) 0 0 49 [some (.ref (g.2.2.1 + 0)), some (.int y1), some (.int y2), some (.ref (g.2.2.1 + B9)), some (.int x4)] [] 345 (ps_E g σ) := by
  intro n
  induction n with
  | zero => intro x4 σ hK; exact (ps_no hK).elim
  | succ n ih =>
    intro x4 σ hK
    rw [qX8_lists_49] at hK
    refine pm_ild d_X8_lists_49 rfl ?_
    refine pm_ald d_X8_lists_51 rfl ?_
    refine ps_getI d_X8_lists_52 hB9.at0 f_7_0_3 rfl ?_
    refine ps_topI (fun v14 ev14 => ?_)
    replace hK := ps_ltE ev14 hK
    refine pm_icmp_ge d_X8_lists_55 (fun c15 => ?_) (fun c15 => ?_)
    · replace hK := ps_ifT c15 hK
      exact ps_so hK
    · replace hK := ps_ifF c15 hK
      refine pm_ald d_X8_lists_58 rfl ?_
      refine pm_ild d_X8_lists_59 rfl ?_
      refine pm_ald d_X8_lists_61 rfl ?_
      refine pm_ild d_X8_lists_62 rfl ?_
      refine ps_cVI d_X8_lists_63 mv_X8_wroteInSpan at_0 ob_0_0 rfl (As := [.int y2]) rfl rfl (ps_room.of (by omega) (by decide)) (Nat.le_of_ble_eq_true rfl) (C_X8_wroteInSpan y2 σ _ (ps_bdE hK)) ?_
      intro v16 σ17 hT
      clear hK
      have hK := hT
      clear hT
      refine pm_i2l d_X8_lists_66 ?_
      refine ps_cVV d_X8_lists_67 mv_X7_put hB9.at0 ob_7_0 rfl (As := [.int x4, .long ((v16).toInt64)]) rfl rfl (ps_room.of (by omega) (by decide)) (Nat.le_of_ble_eq_true rfl) (C_X7_put B9 hB9 x4 (((v16).toInt64)) σ17 _ (ps_bdE hK)) ?_
      intro σ19 hT
      clear hK
      have hK := hT
      clear hT
      refine pm_inc4 d_X8_lists_70 rfl ?_
      obtain ⟨v20, ev20⟩ : ∃ y : Int32, y = x4 + 1 := ⟨_, rfl⟩
      rw [← ev20]
      replace hK := ps_ltE ev20 hK
      refine pm_goto d_X8_lists_73 ?_
      exact ih _ _ hK
def qX8_lists (p1 : Int32) (p2 : Int32) (σ : ps_S) : Option (Int32 × ps_S) :=
  ps_bd (qX8_isTray p1 σ) (fun v1 σ2 =>
  if v1 = 0 then
  some ((-2), σ2)
  else
  ps_bd (qX8_isDevice p2 σ2) (fun v4 σ5 =>
  if v4 = 0 then
  some ((-2), σ5)
  else
  if ps_in p1 4 = true then
  ps_let (265 + 2 * (p1).toNatClampNeg) fun B9 =>
  ps_let (σ5.1 B9 1) fun v10 =>
  if v10 = 0 then
  ps_bd (qX6_copyFrom 44 26 σ5) (fun _ σ13 =>
  ps_bd (qX8_lists_49 B9 p1 p2 ps_N 0 σ13) (fun res σ21 => match res with
  | v22 =>
    ps_let (σ21.1 B9 3) fun v23 =>
    some (v23, σ21)))
  else
  some ((-6), σ5)
  else none))
set_option maxRecDepth 100000 in
theorem C_X8_lists {g : pm_G} (p1 : Int32) (p2 : Int32) (σ : ps_S) (P : Int32 → ps_S → Prop) (hK : ps_ok (qX8_lists p1 p2 σ) P) : ps_C g mX8_lists 7 [.ref (g.2.2.1 + 0), .int p1, .int p2] σ (ps_qI P) := by
  unfold qX8_lists at hK
  refine ps_C.of (ls := [some (.ref (g.2.2.1 + 0)), some (.int p1), some (.int p2), none, none]) 2 (by decide) rfl (Nat.le_of_ble_eq_true rfl) rfl ?_
  refine pm_ild d_X8_lists_0 rfl ?_
  refine ps_cSI d_X8_lists_1 ms_X8_isTray (As := [.int p1]) rfl rfl (ps_room.of (by omega) (by decide)) (Nat.le_of_ble_eq_true rfl) (C_X8_isTray p1 σ _ (ps_bdE hK)) ?_
  intro v1 σ2 hT
  clear hK
  have hK := hT
  clear hT
  refine pm_if_eq d_X8_lists_4 (fun c3 => ?_) (fun c3 => ?_)
  · replace hK := ps_ifT c3 hK
    refine pm_ki d_X8_lists_15 ?_
    have hQ := ps_so hK
    exact ps_iret rfl d_X8_lists_17 ⟨_, rfl, hQ⟩
  · replace hK := ps_ifF c3 hK
    refine pm_ald d_X8_lists_7 rfl ?_
    refine pm_ild d_X8_lists_8 rfl ?_
    refine ps_cVI d_X8_lists_9 mv_X8_isDevice at_0 ob_0_0 rfl (As := [.int p2]) rfl rfl (ps_room.of (by omega) (by decide)) (Nat.le_of_ble_eq_true rfl) (C_X8_isDevice p2 σ2 _ (ps_bdE hK)) ?_
    intro v4 σ5 hT
    clear hK
    have hK := hT
    clear hT
    refine pm_if_ne d_X8_lists_12 (fun c6 => ?_) (fun c6 => ?_)
    · replace hK := ps_ifF c6 hK
      refine pm_ald d_X8_lists_18 rfl ?_
      refine ps_getR (q := 81) d_X8_lists_19 at_0 f_0_0_12 rfl ?_
      refine pm_ild d_X8_lists_22 rfl ?_
      obtain ⟨b7, hT⟩ := ps_gd hK
      replace hK := hT
      clear hT
      obtain ⟨B9, eB9⟩ : ∃ y : Nat, y = (265 + 2 * (p1).toNatClampNeg) := ⟨_, rfl⟩
      refine ps_qald6 (q := B9) d_X8_lists_23 at_81 a_6_1 (ps_in_of b7) eB9.symm ?_
      replace hK := ps_ltE eB9 hK
      have hB9 : ps_Tr B9 := by rw [eB9]; exact ps_Trt _ (ps_in_lt b7)
      refine pm_ast3 d_X8_lists_24 rfl (by decide) ?_
      refine pm_ald d_X8_lists_25 rfl ?_
      refine ps_getI d_X8_lists_26 hB9.at0 f_7_0_1 rfl ?_
      refine ps_topI (fun v10 ev10 => ?_)
      replace hK := ps_ltE ev10 hK
      refine pm_if_eq d_X8_lists_29 (fun c11 => ?_) (fun c11 => ?_)
      · replace hK := ps_ifT c11 hK
        refine pm_ald d_X8_lists_35 rfl ?_
        refine ps_getR (q := 44) d_X8_lists_36 at_0 f_0_0_7 rfl ?_
        refine pm_ald d_X8_lists_39 rfl ?_
        refine ps_getR (q := 26) d_X8_lists_40 at_0 f_0_0_6 rfl ?_
        refine ps_cVV d_X8_lists_43 mv_X6_copyFrom ps_St44.at0 ob_5_0 rfl (As := [.ref (g.2.2.1 + 26)]) rfl rfl (ps_room.of (by omega) (by decide)) (Nat.le_of_ble_eq_true rfl) (C_X6_copyFrom 44 ps_St44 26 ps_St26 σ5 _ (ps_bdE hK)) ?_
        intro σ13 hT
        clear hK
        have hK := hT
        clear hT
        refine pm_ki d_X8_lists_46 ?_
        refine pm_ist4 d_X8_lists_47 rfl (by decide) ?_
        refine L_X8_lists_49 _ (by decide) B9 hB9 p1 p2 _ _ _ (ps_ok.mono (ps_bdE hK) ?_)
        rintro v22 σ21 hT
        clear hK
        have hK := hT
        clear hT
        refine pm_ald d_X8_lists_76 rfl ?_
        refine ps_getI d_X8_lists_77 hB9.at0 f_7_0_3 rfl ?_
        refine ps_topI (fun v23 ev23 => ?_)
        replace hK := ps_ltE ev23 hK
        have hQ := ps_so hK
        exact ps_iret rfl d_X8_lists_80 ⟨_, rfl, hQ⟩
      · replace hK := ps_ifF c11 hK
        refine pm_ki d_X8_lists_32 ?_
        have hQ := ps_so hK
        exact ps_iret rfl d_X8_lists_34 ⟨_, rfl, hQ⟩
    · replace hK := ps_ifT c6 hK
      refine pm_ki d_X8_lists_15 ?_
      have hQ := ps_so hK
      exact ps_iret rfl d_X8_lists_17 ⟨_, rfl, hQ⟩
def qX8_draw  (σ : ps_S) : Option (Int32 × ps_S) :=
  ps_let (σ.1 0 16) fun v1 =>
  ps_let (ps_rI σ 0 (upd (σ.1 0) 16 ((((1103515245 * v1)) + 12345)))) fun σ2 =>
  ps_let (σ2.1 0 16) fun v3 =>
  some ((((v3).toUInt32 >>> ((16).toUInt32 &&& Int32.toUInt32 31)).toInt32), σ2)
set_option maxRecDepth 100000 in
theorem C_X8_draw {g : pm_G}  (σ : ps_S) (P : Int32 → ps_S → Prop) (hK : ps_ok (qX8_draw  σ) P) : ps_C g mX8_draw 1 [.ref (g.2.2.1 + 0)] σ (ps_qI P) := by
  unfold qX8_draw at hK
  refine ps_C.of (ls := [some (.ref (g.2.2.1 + 0))]) 0 (by decide) rfl (Nat.le_of_ble_eq_true rfl) rfl ?_
  refine pm_ald d_X8_draw_0 rfl ?_
  refine pm_ki d_X8_draw_1 ?_
  refine pm_ald d_X8_draw_4 rfl ?_
  refine ps_getI d_X8_draw_5 at_0 f_0_0_16 rfl ?_
  refine ps_topI (fun v1 ev1 => ?_)
  replace hK := ps_ltE ev1 hK
  refine pm_imul d_X8_draw_8 ?_
  refine pm_ki d_X8_draw_9 ?_
  refine pm_iadd d_X8_draw_12 ?_
  refine ps_putI d_X8_draw_13 at_0 f_0_0_16 rfl rfl ?_
  refine ps_nmS (fun σ2 eσ2 => ?_)
  replace hK := ps_ltE eσ2 hK
  refine pm_ald d_X8_draw_16 rfl ?_
  refine ps_getI d_X8_draw_17 at_0 f_0_0_16 rfl ?_
  refine ps_topI (fun v3 ev3 => ?_)
  replace hK := ps_ltE ev3 hK
  refine pm_ki d_X8_draw_20 ?_
  refine pm_iushr d_X8_draw_22 ?_
  have hQ := ps_so hK
  exact ps_iret rfl d_X8_draw_23 ⟨_, rfl, hQ⟩
def qX8_drawDeed  (σ : ps_S) : Option (Int32 × ps_S) :=
  ps_bd (qX8_draw σ) (fun v1 σ2 =>
  ps_let ((v1 - v1 / 4 * 4)) fun v3 =>
  if 2 ≤ v3 then
  if v3 = 2 then
  ps_bd (qX8_draw σ2) (fun v11 σ12 =>
  ps_let ((v11 - v11 / 4 * 4)) fun v13 =>
  ps_bd (qX8_draw σ12) (fun v14 σ15 =>
  some ((((10000 + ((1000 * v13)))) + ((v14 - v14 / 1000 * 1000))), σ15)))
  else
  ps_bd (qX8_draw σ2) (fun v6 σ7 =>
  ps_let ((v6 - v6 / 6 * 6)) fun v8 =>
  ps_bd (qX8_draw σ7) (fun v9 σ10 =>
  some ((((20000 + ((100 * v8)))) + ((v9 - v9 / 20 * 20))), σ10)))
  else
  ps_bd (qX8_draw σ2) (fun v16 σ17 =>
  some ((1 + ((v16 - v16 / 9 * 9))), σ17)))
set_option maxRecDepth 100000 in
theorem C_X8_drawDeed {g : pm_G}  (σ : ps_S) (P : Int32 → ps_S → Prop) (hK : ps_ok (qX8_drawDeed  σ) P) : ps_C g mX8_drawDeed 2 [.ref (g.2.2.1 + 0)] σ (ps_qI P) := by
  unfold qX8_drawDeed at hK
  refine ps_C.of (ls := [some (.ref (g.2.2.1 + 0)), none, none]) 2 (by decide) rfl (Nat.le_of_ble_eq_true rfl) rfl ?_
  refine pm_ald d_X8_drawDeed_0 rfl ?_
  refine ps_cVI d_X8_drawDeed_1 mv_X8_draw at_0 ob_0_0 rfl (As := []) rfl rfl (ps_room.of (by omega) (by decide)) (Nat.le_of_ble_eq_true rfl) (C_X8_draw σ _ (ps_bdE hK)) ?_
  intro v1 σ2 hT
  clear hK
  have hK := hT
  clear hT
  refine pm_ki d_X8_drawDeed_4 ?_
  refine pm_irem d_X8_drawDeed_5 (by decide) ?_
  refine ps_topI (fun v3 ev3 => ?_)
  replace hK := ps_ltE ev3 hK
  refine pm_ist1 d_X8_drawDeed_6 rfl (by decide) ?_
  refine pm_ild d_X8_drawDeed_7 rfl ?_
  refine pm_ki d_X8_drawDeed_8 ?_
  refine pm_icmp_ge d_X8_drawDeed_9 (fun c4 => ?_) (fun c4 => ?_)
  · replace hK := ps_ifT c4 hK
    refine pm_ild d_X8_drawDeed_22 rfl ?_
    refine pm_ki d_X8_drawDeed_23 ?_
    refine pm_icmp_ne d_X8_drawDeed_24 (fun c5 => ?_) (fun c5 => ?_)
    · replace hK := ps_ifF c5 hK
      refine pm_ald d_X8_drawDeed_53 rfl ?_
      refine ps_cVI d_X8_drawDeed_54 mv_X8_draw at_0 ob_0_0 rfl (As := []) rfl rfl (ps_room.of (by omega) (by decide)) (Nat.le_of_ble_eq_true rfl) (C_X8_draw σ2 _ (ps_bdE hK)) ?_
      intro v6 σ7 hT
      clear hK
      have hK := hT
      clear hT
      refine pm_ki d_X8_drawDeed_57 ?_
      refine pm_irem d_X8_drawDeed_59 (by decide) ?_
      refine ps_topI (fun v8 ev8 => ?_)
      replace hK := ps_ltE ev8 hK
      refine pm_ist2 d_X8_drawDeed_60 rfl (by decide) ?_
      refine pm_ki d_X8_drawDeed_61 ?_
      refine pm_ki d_X8_drawDeed_64 ?_
      refine pm_ild d_X8_drawDeed_66 rfl ?_
      refine pm_imul d_X8_drawDeed_67 ?_
      refine pm_iadd d_X8_drawDeed_68 ?_
      refine pm_ald d_X8_drawDeed_69 rfl ?_
      refine ps_cVI d_X8_drawDeed_70 mv_X8_draw at_0 ob_0_0 rfl (As := []) rfl rfl (ps_room.of (by omega) (by decide)) (Nat.le_of_ble_eq_true rfl) (C_X8_draw σ7 _ (ps_bdE hK)) ?_
      intro v9 σ10 hT
      clear hK
      have hK := hT
      clear hT
      refine pm_ki d_X8_drawDeed_73 ?_
      refine pm_irem d_X8_drawDeed_75 (by decide) ?_
      refine pm_iadd d_X8_drawDeed_76 ?_
      have hQ := ps_so hK
      exact ps_iret rfl d_X8_drawDeed_77 ⟨_, rfl, hQ⟩
    · replace hK := ps_ifT c5 hK
      refine pm_ald d_X8_drawDeed_27 rfl ?_
      refine ps_cVI d_X8_drawDeed_28 mv_X8_draw at_0 ob_0_0 rfl (As := []) rfl rfl (ps_room.of (by omega) (by decide)) (Nat.le_of_ble_eq_true rfl) (C_X8_draw σ2 _ (ps_bdE hK)) ?_
      intro v11 σ12 hT
      clear hK
      have hK := hT
      clear hT
      refine pm_ki d_X8_drawDeed_31 ?_
      refine pm_irem d_X8_drawDeed_32 (by decide) ?_
      refine ps_topI (fun v13 ev13 => ?_)
      replace hK := ps_ltE ev13 hK
      refine pm_ist2 d_X8_drawDeed_33 rfl (by decide) ?_
      refine pm_ki d_X8_drawDeed_34 ?_
      refine pm_ki d_X8_drawDeed_37 ?_
      refine pm_ild d_X8_drawDeed_40 rfl ?_
      refine pm_imul d_X8_drawDeed_41 ?_
      refine pm_iadd d_X8_drawDeed_42 ?_
      refine pm_ald d_X8_drawDeed_43 rfl ?_
      refine ps_cVI d_X8_drawDeed_44 mv_X8_draw at_0 ob_0_0 rfl (As := []) rfl rfl (ps_room.of (by omega) (by decide)) (Nat.le_of_ble_eq_true rfl) (C_X8_draw σ12 _ (ps_bdE hK)) ?_
      intro v14 σ15 hT
      clear hK
      have hK := hT
      clear hT
      refine pm_ki d_X8_drawDeed_47 ?_
      refine pm_irem d_X8_drawDeed_50 (by decide) ?_
      refine pm_iadd d_X8_drawDeed_51 ?_
      have hQ := ps_so hK
      exact ps_iret rfl d_X8_drawDeed_52 ⟨_, rfl, hQ⟩
  · replace hK := ps_ifF c4 hK
    refine pm_ki d_X8_drawDeed_12 ?_
    refine pm_ald d_X8_drawDeed_13 rfl ?_
    refine ps_cVI d_X8_drawDeed_14 mv_X8_draw at_0 ob_0_0 rfl (As := []) rfl rfl (ps_room.of (by omega) (by decide)) (Nat.le_of_ble_eq_true rfl) (C_X8_draw σ2 _ (ps_bdE hK)) ?_
    intro v16 σ17 hT
    clear hK
    have hK := hT
    clear hT
    refine pm_ki d_X8_drawDeed_17 ?_
    refine pm_irem d_X8_drawDeed_19 (by decide) ?_
    refine pm_iadd d_X8_drawDeed_20 ?_
    have hQ := ps_so hK
    exact ps_iret rfl d_X8_drawDeed_21 ⟨_, rfl, hQ⟩
def qX8_remember  (σ : ps_S) : Option (Unit × ps_S) :=
  ps_let (σ.1 0 11) fun v1 =>
  if v1 = 10 then
  ps_let (σ.1 0 10) fun v12 =>
  ps_let (ps_rI σ 0 (upd (σ.1 0) 10 ((((v12 + 1)) - ((v12 + 1)) / 10 * 10)))) fun σ13 =>
  ps_let (σ13.1 0 11) fun v14 =>
  ps_let (ps_rI σ13 0 (upd (σ13.1 0) 11 ((v14 - 1)))) fun σ15 =>
  ps_let (σ15.1 0 10) fun v16 =>
  ps_let (σ15.1 0 11) fun v17 =>
  if ps_in ((((v16 + v17)) - ((v16 + v17)) / 10 * 10)) 10 = true then
  ps_let (85 + 18 * ((((v16 + v17)) - ((v16 + v17)) / 10 * 10)).toNatClampNeg) fun B20 =>
  ps_bd (qX6_copyFrom B20 62 σ15) (fun _ σ22 =>
  ps_let (σ22.1 0 11) fun v23 =>
  ps_let (ps_rI σ22 0 (upd (σ22.1 0) 11 ((v23 + 1)))) fun σ24 =>
  some ((), σ24))
  else none
  else
  ps_let (σ.1 0 10) fun v3 =>
  ps_let (σ.1 0 11) fun v4 =>
  if ps_in ((((v3 + v4)) - ((v3 + v4)) / 10 * 10)) 10 = true then
  ps_let (85 + 18 * ((((v3 + v4)) - ((v3 + v4)) / 10 * 10)).toNatClampNeg) fun B7 =>
  ps_bd (qX6_copyFrom B7 62 σ) (fun _ σ9 =>
  ps_let (σ9.1 0 11) fun v10 =>
  ps_let (ps_rI σ9 0 (upd (σ9.1 0) 11 ((v10 + 1)))) fun σ11 =>
  some ((), σ11))
  else none
set_option maxRecDepth 100000 in
theorem C_X8_remember {g : pm_G}  (σ : ps_S) (P : Unit → ps_S → Prop) (hK : ps_ok (qX8_remember  σ) P) : ps_C g mX8_remember 3 [.ref (g.2.2.1 + 0)] σ (ps_qV P) := by
  unfold qX8_remember at hK
  refine ps_C.of (ls := [some (.ref (g.2.2.1 + 0))]) 0 (by decide) rfl (Nat.le_of_ble_eq_true rfl) rfl ?_
  refine pm_ald d_X8_remember_0 rfl ?_
  refine ps_getI d_X8_remember_1 at_0 f_0_0_11 rfl ?_
  refine ps_topI (fun v1 ev1 => ?_)
  replace hK := ps_ltE ev1 hK
  refine pm_ki d_X8_remember_4 ?_
  refine pm_icmp_ne d_X8_remember_6 (fun c2 => ?_) (fun c2 => ?_)
  · replace hK := ps_ifF c2 hK
    refine pm_ald d_X8_remember_32 rfl ?_
    refine ps_getR (q := 80) d_X8_remember_33 at_0 f_0_0_9 rfl ?_
    refine pm_ald d_X8_remember_36 rfl ?_
    refine ps_getI d_X8_remember_37 at_0 f_0_0_10 rfl ?_
    refine ps_topI (fun v3 ev3 => ?_)
    replace hK := ps_ltE ev3 hK
    refine pm_ald d_X8_remember_40 rfl ?_
    refine ps_getI d_X8_remember_41 at_0 f_0_0_11 rfl ?_
    refine ps_topI (fun v4 ev4 => ?_)
    replace hK := ps_ltE ev4 hK
    refine pm_iadd d_X8_remember_44 ?_
    refine pm_ki d_X8_remember_45 ?_
    refine pm_irem d_X8_remember_47 (by decide) ?_
    obtain ⟨b5, hT⟩ := ps_gd hK
    replace hK := hT
    clear hT
    obtain ⟨B7, eB7⟩ : ∃ y : Nat, y = (85 + 18 * ((((v3 + v4)) - ((v3 + v4)) / 10 * 10)).toNatClampNeg) := ⟨_, rfl⟩
    refine ps_qald5 (q := B7) d_X8_remember_48 at_80 a_6_0 (ps_in_of b5) eB7.symm ?_
    replace hK := ps_ltE eB7 hK
    have hB7 : ps_St B7 := by rw [eB7]; exact ps_Stp _ (ps_in_lt b5)
    refine pm_ald d_X8_remember_49 rfl ?_
    refine ps_getR (q := 62) d_X8_remember_50 at_0 f_0_0_8 rfl ?_
    refine ps_cVV d_X8_remember_53 mv_X6_copyFrom hB7.at0 ob_5_0 rfl (As := [.ref (g.2.2.1 + 62)]) rfl rfl (ps_room.of (by omega) (by decide)) (Nat.le_of_ble_eq_true rfl) (C_X6_copyFrom B7 hB7 62 ps_St62 σ _ (ps_bdE hK)) ?_
    intro σ9 hT
    clear hK
    have hK := hT
    clear hT
    refine pm_ald d_X8_remember_56 rfl ?_
    refine pm_dup d_X8_remember_57 rfl ?_
    refine ps_getI d_X8_remember_58 at_0 f_0_0_11 rfl ?_
    refine ps_topI (fun v10 ev10 => ?_)
    replace hK := ps_ltE ev10 hK
    refine pm_ki d_X8_remember_61 ?_
    refine pm_iadd d_X8_remember_62 ?_
    refine ps_putI d_X8_remember_63 at_0 f_0_0_11 rfl rfl ?_
    refine ps_nmS (fun σ11 eσ11 => ?_)
    replace hK := ps_ltE eσ11 hK
    have hQ := ps_so hK
    exact ps_vret rfl d_X8_remember_66 ⟨rfl, hQ⟩
  · replace hK := ps_ifT c2 hK
    refine pm_ald d_X8_remember_9 rfl ?_
    refine pm_ald d_X8_remember_10 rfl ?_
    refine ps_getI d_X8_remember_11 at_0 f_0_0_10 rfl ?_
    refine ps_topI (fun v12 ev12 => ?_)
    replace hK := ps_ltE ev12 hK
    refine pm_ki d_X8_remember_14 ?_
    refine pm_iadd d_X8_remember_15 ?_
    refine pm_ki d_X8_remember_16 ?_
    refine pm_irem d_X8_remember_18 (by decide) ?_
    refine ps_putI d_X8_remember_19 at_0 f_0_0_10 rfl rfl ?_
    refine ps_nmS (fun σ13 eσ13 => ?_)
    replace hK := ps_ltE eσ13 hK
    refine pm_ald d_X8_remember_22 rfl ?_
    refine pm_dup d_X8_remember_23 rfl ?_
    refine ps_getI d_X8_remember_24 at_0 f_0_0_11 rfl ?_
    refine ps_topI (fun v14 ev14 => ?_)
    replace hK := ps_ltE ev14 hK
    refine pm_ki d_X8_remember_27 ?_
    refine pm_isub d_X8_remember_28 ?_
    refine ps_putI d_X8_remember_29 at_0 f_0_0_11 rfl rfl ?_
    refine ps_nmS (fun σ15 eσ15 => ?_)
    replace hK := ps_ltE eσ15 hK
    refine pm_ald d_X8_remember_32 rfl ?_
    refine ps_getR (q := 80) d_X8_remember_33 at_0 f_0_0_9 rfl ?_
    refine pm_ald d_X8_remember_36 rfl ?_
    refine ps_getI d_X8_remember_37 at_0 f_0_0_10 rfl ?_
    refine ps_topI (fun v16 ev16 => ?_)
    replace hK := ps_ltE ev16 hK
    refine pm_ald d_X8_remember_40 rfl ?_
    refine ps_getI d_X8_remember_41 at_0 f_0_0_11 rfl ?_
    refine ps_topI (fun v17 ev17 => ?_)
    replace hK := ps_ltE ev17 hK
    refine pm_iadd d_X8_remember_44 ?_
    refine pm_ki d_X8_remember_45 ?_
    refine pm_irem d_X8_remember_47 (by decide) ?_
    obtain ⟨b18, hT⟩ := ps_gd hK
    replace hK := hT
    clear hT
    obtain ⟨B20, eB20⟩ : ∃ y : Nat, y = (85 + 18 * ((((v16 + v17)) - ((v16 + v17)) / 10 * 10)).toNatClampNeg) := ⟨_, rfl⟩
    refine ps_qald5 (q := B20) d_X8_remember_48 at_80 a_6_0 (ps_in_of b18) eB20.symm ?_
    replace hK := ps_ltE eB20 hK
    have hB20 : ps_St B20 := by rw [eB20]; exact ps_Stp _ (ps_in_lt b18)
    refine pm_ald d_X8_remember_49 rfl ?_
    refine ps_getR (q := 62) d_X8_remember_50 at_0 f_0_0_8 rfl ?_
    refine ps_cVV d_X8_remember_53 mv_X6_copyFrom hB20.at0 ob_5_0 rfl (As := [.ref (g.2.2.1 + 62)]) rfl rfl (ps_room.of (by omega) (by decide)) (Nat.le_of_ble_eq_true rfl) (C_X6_copyFrom B20 hB20 62 ps_St62 σ15 _ (ps_bdE hK)) ?_
    intro σ22 hT
    clear hK
    have hK := hT
    clear hT
    refine pm_ald d_X8_remember_56 rfl ?_
    refine pm_dup d_X8_remember_57 rfl ?_
    refine ps_getI d_X8_remember_58 at_0 f_0_0_11 rfl ?_
    refine ps_topI (fun v23 ev23 => ?_)
    replace hK := ps_ltE ev23 hK
    refine pm_ki d_X8_remember_61 ?_
    refine pm_iadd d_X8_remember_62 ?_
    refine ps_putI d_X8_remember_63 at_0 f_0_0_11 rfl rfl ?_
    refine ps_nmS (fun σ24 eσ24 => ?_)
    replace hK := ps_ltE eσ24 hK
    have hQ := ps_so hK
    exact ps_vret rfl d_X8_remember_66 ⟨rfl, hQ⟩
def qX8_load_34  (y1 : Int32) (y2 : Int32) : Nat → Int32 → Int32 → ps_S → Option (((Int32 × Int32)) × ps_S)
  | 0, _, _, _ => none
  | n + 1, x3, x4, σ =>
    if y2 ≤ x4 then
    some ((x3, x4), σ)
    else
    ps_bd (qX8_drawDeed σ) (fun v8 σ9 =>
    ps_bd (qX8_doDeed 26 (((v8).toInt64)) σ9) (fun v10 σ11 =>
    if v10 = 0 then
    ps_let (x4 + 1) fun v13 =>
    qX8_load_34 y1 y2 n x3 v13 σ11
    else
    ps_let (x3 + 1) fun v14 =>
    ps_let (x4 + 1) fun v15 =>
    qX8_load_34 y1 y2 n v14 v15 σ11))
set_option maxRecDepth 100000 in
theorem L_X8_load_34 {g : pm_G} (D : Nat) (hD : 7 ≤ D) {P : Int32 → ps_S → Prop}  (y1 : Int32) (y2 : Int32) : ∀ (n : Nat) (x3 : Int32) (x4 : Int32) (σ : ps_S), ps_ok (qX8_load_34 y1 y2 n x3 x4 σ) (fun res σ => match res with | (x3, x4) => pm_W g mX8_load (ps_F g D (ps_qI P)) 0 0 65 [some (.ref (g.2.2.1 + 0)), some (.int y1), some (.int y2), some (.int x3), some (.int x4)] [] 345 (ps_E g σ)) → pm_W g mX8_load (ps_F g D (ps_qI P)) 0 0 34 [some (.ref (g.2.2.1 + 0)), some (.int y1), some (.int y2), some (.int x3), some (.int x4)] [] 345 (ps_E g σ) := by
  intro n
  induction n with
  | zero => intro x3 x4 σ hK; exact (ps_no hK).elim
  | succ n ih =>
    intro x3 x4 σ hK
    rw [qX8_load_34] at hK
    refine pm_ild d_X8_load_34 rfl ?_
    refine pm_ild d_X8_load_36 rfl ?_
    refine pm_icmp_ge d_X8_load_37 (fun c7 => ?_) (fun c7 => ?_)
    · replace hK := ps_ifT c7 hK
      exact ps_so hK
    · replace hK := ps_ifF c7 hK
      refine pm_ald d_X8_load_40 rfl ?_
      refine pm_ald d_X8_load_41 rfl ?_
      refine ps_getR (q := 26) d_X8_load_42 at_0 f_0_0_6 rfl ?_
      refine pm_ald d_X8_load_45 rfl ?_
      refine ps_cVI d_X8_load_46 mv_X8_drawDeed at_0 ob_0_0 rfl (As := []) rfl rfl (ps_room.of (by omega) (by decide)) (Nat.le_of_ble_eq_true rfl) (C_X8_drawDeed σ _ (ps_bdE hK)) ?_
      intro v8 σ9 hT
      clear hK
      have hK := hT
      clear hT
      refine pm_i2l d_X8_load_49 ?_
      refine ps_cVI d_X8_load_50 mv_X8_doDeed at_0 ob_0_0 rfl (As := [.ref (g.2.2.1 + 26), .long ((v8).toInt64)]) rfl rfl (ps_room.of (by omega) (by decide)) (Nat.le_of_ble_eq_true rfl) (C_X8_doDeed 26 ps_St26 (((v8).toInt64)) σ9 _ (ps_bdE hK)) ?_
      intro v10 σ11 hT
      clear hK
      have hK := hT
      clear hT
      refine pm_if_eq d_X8_load_53 (fun c12 => ?_) (fun c12 => ?_)
      · replace hK := ps_ifT c12 hK
        refine pm_inc4 d_X8_load_59 rfl ?_
        obtain ⟨v13, ev13⟩ : ∃ y : Int32, y = x4 + 1 := ⟨_, rfl⟩
        rw [← ev13]
        replace hK := ps_ltE ev13 hK
        refine pm_goto d_X8_load_62 ?_
        exact ih _ _ _ hK
      · replace hK := ps_ifF c12 hK
        refine pm_inc3 d_X8_load_56 rfl ?_
        obtain ⟨v14, ev14⟩ : ∃ y : Int32, y = x3 + 1 := ⟨_, rfl⟩
        rw [← ev14]
        replace hK := ps_ltE ev14 hK
        refine pm_inc4 d_X8_load_59 rfl ?_
        obtain ⟨v15, ev15⟩ : ∃ y : Int32, y = x4 + 1 := ⟨_, rfl⟩
        rw [← ev15]
        replace hK := ps_ltE ev15 hK
        refine pm_goto d_X8_load_62 ?_
        exact ih _ _ _ hK
def qX8_load (p1 : Int32) (p2 : Int32) (σ : ps_S) : Option (Int32 × ps_S) :=
  ps_bd (qX8_isWithin p2 1 20 σ) (fun v1 σ2 =>
  if v1 = 0 then
  some ((-3), σ2)
  else
  ps_let (ps_rI σ2 0 (upd (σ2.1 0) 16 p1)) fun σ4 =>
  ps_bd (qX6_copyFrom 62 26 σ4) (fun _ σ6 =>
  ps_bd (qX8_load_34 p1 p2 ps_N 0 0 σ6) (fun res σ16 => match res with
  | (v17, v18) =>
    if v17 ≤ 0 then
    some (v17, σ16)
    else
    ps_bd (qX8_remember σ16) (fun _ σ21 =>
    some (v17, σ21)))))
set_option maxRecDepth 100000 in
theorem C_X8_load {g : pm_G} (p1 : Int32) (p2 : Int32) (σ : ps_S) (P : Int32 → ps_S → Prop) (hK : ps_ok (qX8_load p1 p2 σ) P) : ps_C g mX8_load 7 [.ref (g.2.2.1 + 0), .int p1, .int p2] σ (ps_qI P) := by
  unfold qX8_load at hK
  refine ps_C.of (ls := [some (.ref (g.2.2.1 + 0)), some (.int p1), some (.int p2), none, none]) 2 (by decide) rfl (Nat.le_of_ble_eq_true rfl) rfl ?_
  refine pm_ild d_X8_load_0 rfl ?_
  refine pm_ki d_X8_load_1 ?_
  refine pm_ki d_X8_load_2 ?_
  refine ps_cSI d_X8_load_4 ms_X8_isWithin (As := [.int p2, .int 1, .int 20]) rfl rfl (ps_room.of (by omega) (by decide)) (Nat.le_of_ble_eq_true rfl) (C_X8_isWithin p2 1 20 σ _ (ps_bdE hK)) ?_
  intro v1 σ2 hT
  clear hK
  have hK := hT
  clear hT
  refine pm_if_ne d_X8_load_7 (fun c3 => ?_) (fun c3 => ?_)
  · replace hK := ps_ifF c3 hK
    refine pm_ald d_X8_load_13 rfl ?_
    refine pm_ild d_X8_load_14 rfl ?_
    refine ps_putI d_X8_load_15 at_0 f_0_0_16 rfl rfl ?_
    refine ps_nmS (fun σ4 eσ4 => ?_)
    replace hK := ps_ltE eσ4 hK
    refine pm_ald d_X8_load_18 rfl ?_
    refine ps_getR (q := 62) d_X8_load_19 at_0 f_0_0_8 rfl ?_
    refine pm_ald d_X8_load_22 rfl ?_
    refine ps_getR (q := 26) d_X8_load_23 at_0 f_0_0_6 rfl ?_
    refine ps_cVV d_X8_load_26 mv_X6_copyFrom ps_St62.at0 ob_5_0 rfl (As := [.ref (g.2.2.1 + 26)]) rfl rfl (ps_room.of (by omega) (by decide)) (Nat.le_of_ble_eq_true rfl) (C_X6_copyFrom 62 ps_St62 26 ps_St26 σ4 _ (ps_bdE hK)) ?_
    intro σ6 hT
    clear hK
    have hK := hT
    clear hT
    refine pm_ki d_X8_load_29 ?_
    refine pm_ist3 d_X8_load_30 rfl (by decide) ?_
    refine pm_ki d_X8_load_31 ?_
    refine pm_ist4 d_X8_load_32 rfl (by decide) ?_
    refine L_X8_load_34 _ (by decide) p1 p2 _ _ _ _ (ps_ok.mono (ps_bdE hK) ?_)
    rintro ⟨v17, v18⟩ σ16 hT
    clear hK
    have hK := hT
    clear hT
    refine pm_ild d_X8_load_65 rfl ?_
    refine pm_if_le d_X8_load_66 (fun c19 => ?_) (fun c19 => ?_)
    · replace hK := ps_ifT c19 hK
      refine pm_ild d_X8_load_73 rfl ?_
      have hQ := ps_so hK
      exact ps_iret rfl d_X8_load_74 ⟨_, rfl, hQ⟩
    · replace hK := ps_ifF c19 hK
      refine pm_ald d_X8_load_69 rfl ?_
      refine ps_cVV d_X8_load_70 mv_X8_remember at_0 ob_0_0 rfl (As := []) rfl rfl (ps_room.of (by omega) (by decide)) (Nat.le_of_ble_eq_true rfl) (C_X8_remember σ16 _ (ps_bdE hK)) ?_
      intro σ21 hT
      clear hK
      have hK := hT
      clear hT
      refine pm_ild d_X8_load_73 rfl ?_
      have hQ := ps_so hK
      exact ps_iret rfl d_X8_load_74 ⟨_, rfl, hQ⟩
  · replace hK := ps_ifT c3 hK
    refine pm_ki d_X8_load_10 ?_
    have hQ := ps_so hK
    exact ps_iret rfl d_X8_load_12 ⟨_, rfl, hQ⟩
def qX8_mean_44  (y1 : Int32) (y2 : Int32) (y4 : Int32) : Nat → Int32 → Int32 → ps_S → Option (((Int32 × Int32)) × ps_S)
  | 0, _, _, _ => none
  | n + 1, x3, x5, σ =>
    if y4 ≤ x5 then
    some ((x3, x5), σ)
    else
    ps_bd (qX8_goStalled x5 y1 σ) (fun v11 σ12 =>
    ps_let (σ12.1 44 9) fun v13 =>
    ps_let ((x3 + ((v11 * v13)))) fun v14 =>
    ps_let (x5 + 1) fun v15 =>
    qX8_mean_44 y1 y2 y4 n v14 v15 σ12)
set_option maxRecDepth 100000 in
theorem L_X8_mean_44 {g : pm_G} (D : Nat) (hD : 7 ≤ D) {P : Int32 → ps_S → Prop}  (y1 : Int32) (y2 : Int32) (y4 : Int32) : ∀ (n : Nat) (x3 : Int32) (x5 : Int32) (σ : ps_S), ps_ok (qX8_mean_44 y1 y2 y4 n x3 x5 σ) (fun res σ => match res with | (x3, x5) => pm_W g mX8_mean (ps_F g D (ps_qI P)) 0 0 79 [some (.ref (g.2.2.1 + 0)), some (.int y1), some (.int y2), some (.int x3), some (.int y4), some (.int x5), none] [] 345 (ps_E g σ)) → pm_W g mX8_mean (ps_F g D (ps_qI P)) 0 0 44 [some (.ref (g.2.2.1 + 0)), some (.int y1), some (.int y2), some (.int x3), some (.int y4), some (.int x5), none] [] 345 (ps_E g σ) := by
  intro n
  induction n with
  | zero => intro x3 x5 σ hK; exact (ps_no hK).elim
  | succ n ih =>
    intro x3 x5 σ hK
    rw [qX8_mean_44] at hK
    refine pm_ild d_X8_mean_44 rfl ?_
    refine pm_ild d_X8_mean_46 rfl ?_
    refine pm_icmp_ge d_X8_mean_48 (fun c10 => ?_) (fun c10 => ?_)
    · replace hK := ps_ifT c10 hK
      exact ps_so hK
    · replace hK := ps_ifF c10 hK
      refine pm_ald d_X8_mean_51 rfl ?_
      refine pm_ild d_X8_mean_52 rfl ?_
      refine pm_ild d_X8_mean_54 rfl ?_
      refine ps_cVI d_X8_mean_55 mv_X8_goStalled at_0 ob_0_0 rfl (As := [.int x5, .int y1]) rfl rfl (ps_room.of (by omega) (by decide)) (Nat.le_of_ble_eq_true rfl) (C_X8_goStalled x5 y1 σ _ (ps_bdE hK)) ?_
      intro v11 σ12 hT
      clear hK
      have hK := hT
      clear hT
      refine pm_ist6 d_X8_mean_58 rfl (by decide) ?_
      refine pm_ild d_X8_mean_60 rfl ?_
      refine pm_ild d_X8_mean_61 rfl ?_
      refine pm_ald d_X8_mean_63 rfl ?_
      refine ps_getR (q := 44) d_X8_mean_64 at_0 f_0_0_7 rfl ?_
      refine ps_getI d_X8_mean_67 ps_St44.at0 f_5_0_9 rfl ?_
      refine ps_topI (fun v13 ev13 => ?_)
      replace hK := ps_ltE ev13 hK
      refine pm_imul d_X8_mean_70 ?_
      refine pm_iadd d_X8_mean_71 ?_
      refine ps_topI (fun v14 ev14 => ?_)
      replace hK := ps_ltE ev14 hK
      refine pm_ist3 d_X8_mean_72 rfl (by decide) ?_
      refine pm_inc5 d_X8_mean_73 rfl ?_
      obtain ⟨v15, ev15⟩ : ∃ y : Int32, y = x5 + 1 := ⟨_, rfl⟩
      rw [← ev15]
      replace hK := ps_ltE ev15 hK
      refine pm_goto d_X8_mean_76 ?_
      refine pm_wk (ls' := [some (.ref (g.2.2.1 + 0)), some (.int y1), some (.int y2), some (.int v14), some (.int y4), some (.int v15), none]) ⟨rfl, ⟨rfl, ⟨rfl, ⟨rfl, ⟨rfl, ⟨rfl, trivial⟩⟩⟩⟩⟩⟩ ?_
      exact ih _ _ _ hK
def qX8_mean (p1 : Int32) (p2 : Int32) (σ : ps_S) : Option (Int32 × ps_S) :=
  ps_bd (qX8_isWithin p2 0 1 σ) (fun v1 σ2 =>
  if v1 = 0 then
  some ((-2), σ2)
  else
  ps_bd (qX8_isWithin p1 1 3 σ2) (fun v4 σ5 =>
  if v4 = 0 then
  some ((-3), σ5)
  else
  ps_let (σ5.1 12 7) fun v7 =>
  ps_bd (qX8_power ((v7 + 1)) p1 σ5) (fun v8 σ9 =>
  ps_bd (qX8_mean_44 p1 p2 v8 ps_N 0 0 σ9) (fun res σ16 => match res with
  | (v17, v18) =>
    ps_bd (qX8_power 10 p1 σ16) (fun v19 σ20 =>
    ps_bd (qX8_inLowestTerms (((v17).toInt64)) (((v19).toInt64)) p2 σ20) (fun v21 σ22 =>
    some (((v21).toInt32), σ22)))))))
set_option maxRecDepth 100000 in
theorem C_X8_mean {g : pm_G} (p1 : Int32) (p2 : Int32) (σ : ps_S) (P : Int32 → ps_S → Prop) (hK : ps_ok (qX8_mean p1 p2 σ) P) : ps_C g mX8_mean 7 [.ref (g.2.2.1 + 0), .int p1, .int p2] σ (ps_qI P) := by
  unfold qX8_mean at hK
  refine ps_C.of (ls := [some (.ref (g.2.2.1 + 0)), some (.int p1), some (.int p2), none, none, none, none]) 4 (by decide) rfl (Nat.le_of_ble_eq_true rfl) rfl ?_
  refine pm_ild d_X8_mean_0 rfl ?_
  refine pm_ki d_X8_mean_1 ?_
  refine pm_ki d_X8_mean_2 ?_
  refine ps_cSI d_X8_mean_3 ms_X8_isWithin (As := [.int p2, .int 0, .int 1]) rfl rfl (ps_room.of (by omega) (by decide)) (Nat.le_of_ble_eq_true rfl) (C_X8_isWithin p2 0 1 σ _ (ps_bdE hK)) ?_
  intro v1 σ2 hT
  clear hK
  have hK := hT
  clear hT
  refine pm_if_ne d_X8_mean_6 (fun c3 => ?_) (fun c3 => ?_)
  · replace hK := ps_ifF c3 hK
    refine pm_ild d_X8_mean_12 rfl ?_
    refine pm_ki d_X8_mean_13 ?_
    refine pm_ki d_X8_mean_14 ?_
    refine ps_cSI d_X8_mean_15 ms_X8_isWithin (As := [.int p1, .int 1, .int 3]) rfl rfl (ps_room.of (by omega) (by decide)) (Nat.le_of_ble_eq_true rfl) (C_X8_isWithin p1 1 3 σ2 _ (ps_bdE hK)) ?_
    intro v4 σ5 hT
    clear hK
    have hK := hT
    clear hT
    refine pm_if_ne d_X8_mean_18 (fun c6 => ?_) (fun c6 => ?_)
    · replace hK := ps_ifF c6 hK
      refine pm_ki d_X8_mean_24 ?_
      refine pm_ist3 d_X8_mean_25 rfl (by decide) ?_
      refine pm_ald d_X8_mean_26 rfl ?_
      refine ps_getR (q := 12) d_X8_mean_27 at_0 f_0_0_4 rfl ?_
      refine ps_getI d_X8_mean_30 ps_Ho12.at0 f_2_0_7 rfl ?_
      refine ps_topI (fun v7 ev7 => ?_)
      replace hK := ps_ltE ev7 hK
      refine pm_ki d_X8_mean_33 ?_
      refine pm_iadd d_X8_mean_34 ?_
      refine pm_ild d_X8_mean_35 rfl ?_
      refine ps_cSI d_X8_mean_36 ms_X8_power (As := [.int (v7 + 1), .int p1]) rfl rfl (ps_room.of (by omega) (by decide)) (Nat.le_of_ble_eq_true rfl) (C_X8_power ((v7 + 1)) p1 σ5 _ (ps_bdE hK)) ?_
      intro v8 σ9 hT
      clear hK
      have hK := hT
      clear hT
      refine pm_ist4 d_X8_mean_39 rfl (by decide) ?_
      refine pm_ki d_X8_mean_41 ?_
      refine pm_ist5 d_X8_mean_42 rfl (by decide) ?_
      refine L_X8_mean_44 _ (by decide) p1 p2 v8 _ _ _ _ (ps_ok.mono (ps_bdE hK) ?_)
      rintro ⟨v17, v18⟩ σ16 hT
      clear hK
      have hK := hT
      clear hT
      refine pm_ild d_X8_mean_79 rfl ?_
      refine pm_i2l d_X8_mean_80 ?_
      refine pm_ki d_X8_mean_81 ?_
      refine pm_ild d_X8_mean_83 rfl ?_
      refine ps_cSI d_X8_mean_84 ms_X8_power (As := [.int 10, .int p1]) rfl rfl (ps_room.of (by omega) (by decide)) (Nat.le_of_ble_eq_true rfl) (C_X8_power 10 p1 σ16 _ (ps_bdE hK)) ?_
      intro v19 σ20 hT
      clear hK
      have hK := hT
      clear hT
      refine pm_i2l d_X8_mean_87 ?_
      refine pm_ild d_X8_mean_88 rfl ?_
      refine ps_cSL d_X8_mean_89 ms_X8_inLowestTerms (As := [.long ((v17).toInt64), .long ((v19).toInt64), .int p2]) rfl rfl (ps_room.of (by omega) (by decide)) (Nat.le_of_ble_eq_true rfl) (C_X8_inLowestTerms (((v17).toInt64)) (((v19).toInt64)) p2 σ20 _ (ps_bdE hK)) ?_
      intro v21 σ22 hT
      clear hK
      have hK := hT
      clear hT
      refine pm_l2i d_X8_mean_92 ?_
      have hQ := ps_so hK
      exact ps_iret rfl d_X8_mean_93 ⟨_, rfl, hQ⟩
    · replace hK := ps_ifT c6 hK
      refine pm_ki d_X8_mean_21 ?_
      have hQ := ps_so hK
      exact ps_iret rfl d_X8_mean_23 ⟨_, rfl, hQ⟩
  · replace hK := ps_ifT c3 hK
    refine pm_ki d_X8_mean_9 ?_
    have hQ := ps_so hK
    exact ps_iret rfl d_X8_mean_11 ⟨_, rfl, hQ⟩
def qX8_most_73  (y1 : Int32) (y2 : Int32) : Nat → Int32 → Int32 → Int32 → Int32 → ps_S → Option (((Int32 × Int32 × Int32 × Int32)) × ps_S)
  | 0, _, _, _, _, _ => none
  | n + 1, x3, x4, x5, x6, σ =>
    ps_let (σ.1 12 9) fun v14 =>
    if v14 ≤ x6 then
    some ((x3, x4, x5, x6), σ)
    else
    if ps_in x6 6 = true then
    ps_let (σ.1 (44 + 16) (x6).toNatClampNeg) fun v16 =>
    if ps_in x6 6 = true then
    ps_let (σ.1 (26 + 16) (x6).toNatClampNeg) fun v17 =>
    ps_let ((v16 - v17)) fun v18 =>
    if v18 ≤ x4 then
    ps_let (if v18 < x5 then v18 else x5) fun v20 =>
    ps_let (x6 + 1) fun v21 =>
    qX8_most_73 y1 y2 n x3 x4 v20 v21 σ
    else
    ps_let (if v18 < x5 then v18 else x5) fun v22 =>
    ps_let (x6 + 1) fun v23 =>
    qX8_most_73 y1 y2 n x6 v18 v22 v23 σ
    else none
    else none
set_option maxRecDepth 100000 in
theorem L_X8_most_73 {g : pm_G} (D : Nat) (hD : 7 ≤ D) {P : Int32 → ps_S → Prop}  (y1 : Int32) (y2 : Int32) : ∀ (n : Nat) (x3 : Int32) (x4 : Int32) (x5 : Int32) (x6 : Int32) (σ : ps_S), ps_ok (qX8_most_73 y1 y2 n x3 x4 x5 x6 σ) (fun res σ => match res with | (x3, x4, x5, x6) => pm_W g mX8_most (ps_F g D (ps_qI P)) 0 0 137 [some (.ref (g.2.2.1 + 0)), some (.int y1), some (.int y2), some (.int x3), some (.int x4), some (.int x5), some (.int x6), none] [] 345 (ps_E g σ)) → pm_W g mX8_most (ps_F g D (ps_qI P)) 0 0 73 [some (.ref (g.2.2.1 + 0)), some (.int y1), some (.int y2), some (.int x3), some (.int x4), some (.int x5), some (.int x6), none] [] 345 (ps_E g σ) := by
  intro n
  induction n with
  | zero => intro x3 x4 x5 x6 σ hK; exact (ps_no hK).elim
  | succ n ih =>
    intro x3 x4 x5 x6 σ hK
    rw [qX8_most_73] at hK
    refine pm_ild d_X8_most_73 rfl ?_
    refine pm_ald d_X8_most_75 rfl ?_
    refine ps_getR (q := 12) d_X8_most_76 at_0 f_0_0_4 rfl ?_
    refine ps_getI d_X8_most_79 ps_Ho12.at0 f_2_0_9 rfl ?_
    refine ps_topI (fun v14 ev14 => ?_)
    replace hK := ps_ltE ev14 hK
    refine pm_icmp_ge d_X8_most_82 (fun c15 => ?_) (fun c15 => ?_)
    · replace hK := ps_ifT c15 hK
      exact ps_so hK
    · replace hK := ps_ifF c15 hK
      refine pm_ald d_X8_most_85 rfl ?_
      refine ps_getR (q := 44) d_X8_most_86 at_0 f_0_0_7 rfl ?_
      refine ps_getR (q := (44 + 16)) d_X8_most_89 ps_St44.at0 f_5_0_6 rfl ?_
      refine pm_ild d_X8_most_92 rfl ?_
      obtain ⟨b25, hT⟩ := ps_gd hK
      replace hK := hT
      clear hT
      refine ps_iald d_X8_most_94 (ps_St44.at 16 (by decide)) a_5_16 (ps_in_of b25) rfl ?_
      refine ps_topI (fun v16 ev16 => ?_)
      replace hK := ps_ltE ev16 hK
      refine pm_ald d_X8_most_95 rfl ?_
      refine ps_getR (q := 26) d_X8_most_96 at_0 f_0_0_6 rfl ?_
      refine ps_getR (q := (26 + 16)) d_X8_most_99 ps_St26.at0 f_5_0_6 rfl ?_
      refine pm_ild d_X8_most_102 rfl ?_
      obtain ⟨b24, hT⟩ := ps_gd hK
      replace hK := hT
      clear hT
      refine ps_iald d_X8_most_104 (ps_St26.at 16 (by decide)) a_5_16 (ps_in_of b24) rfl ?_
      refine ps_topI (fun v17 ev17 => ?_)
      replace hK := ps_ltE ev17 hK
      refine pm_isub d_X8_most_105 ?_
      refine ps_topI (fun v18 ev18 => ?_)
      replace hK := ps_ltE ev18 hK
      refine pm_ist7 d_X8_most_106 rfl (by decide) ?_
      refine pm_ild d_X8_most_108 rfl ?_
      refine pm_ild d_X8_most_110 rfl ?_
      refine pm_icmp_le d_X8_most_112 (fun c19 => ?_) (fun c19 => ?_)
      · replace hK := ps_ifT c19 hK
        refine pm_ild d_X8_most_122 rfl ?_
        refine pm_ild d_X8_most_124 rfl ?_
        refine pm_mmin d_X8_most_126 (ps_roomM (by omega)) (Nat.le_of_ble_eq_true rfl) ?_
        refine ps_topI (fun v20 ev20 => ?_)
        replace hK := ps_ltE ev20 hK
        refine pm_ist5 d_X8_most_129 rfl (by decide) ?_
        refine pm_inc6 d_X8_most_131 rfl ?_
        obtain ⟨v21, ev21⟩ : ∃ y : Int32, y = x6 + 1 := ⟨_, rfl⟩
        rw [← ev21]
        replace hK := ps_ltE ev21 hK
        refine pm_goto d_X8_most_134 ?_
        refine pm_wk (ls' := [some (.ref (g.2.2.1 + 0)), some (.int y1), some (.int y2), some (.int x3), some (.int x4), some (.int v20), some (.int v21), none]) ⟨rfl, ⟨rfl, ⟨rfl, ⟨rfl, ⟨rfl, ⟨rfl, ⟨rfl, trivial⟩⟩⟩⟩⟩⟩⟩ ?_
        exact ih _ _ _ _ _ hK
      · replace hK := ps_ifF c19 hK
        refine pm_ild d_X8_most_115 rfl ?_
        refine pm_ist4 d_X8_most_117 rfl (by decide) ?_
        refine pm_ild d_X8_most_119 rfl ?_
        refine pm_ist3 d_X8_most_121 rfl (by decide) ?_
        refine pm_ild d_X8_most_122 rfl ?_
        refine pm_ild d_X8_most_124 rfl ?_
        refine pm_mmin d_X8_most_126 (ps_roomM (by omega)) (Nat.le_of_ble_eq_true rfl) ?_
        refine ps_topI (fun v22 ev22 => ?_)
        replace hK := ps_ltE ev22 hK
        refine pm_ist5 d_X8_most_129 rfl (by decide) ?_
        refine pm_inc6 d_X8_most_131 rfl ?_
        obtain ⟨v23, ev23⟩ : ∃ y : Int32, y = x6 + 1 := ⟨_, rfl⟩
        rw [← ev23]
        replace hK := ps_ltE ev23 hK
        refine pm_goto d_X8_most_134 ?_
        refine pm_wk (ls' := [some (.ref (g.2.2.1 + 0)), some (.int y1), some (.int y2), some (.int x6), some (.int v18), some (.int v22), some (.int v23), none]) ⟨rfl, ⟨rfl, ⟨rfl, ⟨rfl, ⟨rfl, ⟨rfl, ⟨rfl, trivial⟩⟩⟩⟩⟩⟩⟩ ?_
        exact ih _ _ _ _ _ hK
def qX8_most (p1 : Int32) (p2 : Int32) (σ : ps_S) : Option (Int32 × ps_S) :=
  ps_bd (qX8_isWithin p2 0 2 σ) (fun v1 σ2 =>
  if v1 = 0 then
  some ((-2), σ2)
  else
  ps_bd (qX8_isWithin p1 1 999 σ2) (fun v4 σ5 =>
  if v4 = 0 then
  some ((-3), σ5)
  else
  ps_let (σ5.1 12 9) fun v7 =>
  if v7 = 0 then
  some ((-1), σ5)
  else
  ps_bd (qX8_goOn p1 σ5) (fun _ σ10 =>
  ps_let (σ10.1 (44 + 16) 0) fun v11 =>
  ps_let (σ10.1 (26 + 16) 0) fun v12 =>
  ps_let ((v11 - v12)) fun v13 =>
  ps_bd (qX8_most_73 p1 p2 ps_N 0 v13 v13 1 σ10) (fun res σ26 => match res with
  | (v27, v28, v29, v30) =>
    if p2 = 0 then
    some (v27, σ26)
    else
    if p2 = 1 then
    some (v28, σ26)
    else
    some (v29, σ26)))))
set_option maxRecDepth 100000 in
theorem C_X8_most {g : pm_G} (p1 : Int32) (p2 : Int32) (σ : ps_S) (P : Int32 → ps_S → Prop) (hK : ps_ok (qX8_most p1 p2 σ) P) : ps_C g mX8_most 7 [.ref (g.2.2.1 + 0), .int p1, .int p2] σ (ps_qI P) := by
  unfold qX8_most at hK
  refine ps_C.of (ls := [some (.ref (g.2.2.1 + 0)), some (.int p1), some (.int p2), none, none, none, none, none]) 5 (by decide) rfl (Nat.le_of_ble_eq_true rfl) rfl ?_
  refine pm_ild d_X8_most_0 rfl ?_
  refine pm_ki d_X8_most_1 ?_
  refine pm_ki d_X8_most_2 ?_
  refine ps_cSI d_X8_most_3 ms_X8_isWithin (As := [.int p2, .int 0, .int 2]) rfl rfl (ps_room.of (by omega) (by decide)) (Nat.le_of_ble_eq_true rfl) (C_X8_isWithin p2 0 2 σ _ (ps_bdE hK)) ?_
  intro v1 σ2 hT
  clear hK
  have hK := hT
  clear hT
  refine pm_if_ne d_X8_most_6 (fun c3 => ?_) (fun c3 => ?_)
  · replace hK := ps_ifF c3 hK
    refine pm_ild d_X8_most_12 rfl ?_
    refine pm_ki d_X8_most_13 ?_
    refine pm_ki d_X8_most_14 ?_
    refine ps_cSI d_X8_most_17 ms_X8_isWithin (As := [.int p1, .int 1, .int 999]) rfl rfl (ps_room.of (by omega) (by decide)) (Nat.le_of_ble_eq_true rfl) (C_X8_isWithin p1 1 999 σ2 _ (ps_bdE hK)) ?_
    intro v4 σ5 hT
    clear hK
    have hK := hT
    clear hT
    refine pm_if_ne d_X8_most_20 (fun c6 => ?_) (fun c6 => ?_)
    · replace hK := ps_ifF c6 hK
      refine pm_ald d_X8_most_26 rfl ?_
      refine ps_getR (q := 12) d_X8_most_27 at_0 f_0_0_4 rfl ?_
      refine ps_getI d_X8_most_30 ps_Ho12.at0 f_2_0_9 rfl ?_
      refine ps_topI (fun v7 ev7 => ?_)
      replace hK := ps_ltE ev7 hK
      refine pm_if_ne d_X8_most_33 (fun c8 => ?_) (fun c8 => ?_)
      · replace hK := ps_ifF c8 hK
        refine pm_ald d_X8_most_38 rfl ?_
        refine pm_ild d_X8_most_39 rfl ?_
        refine ps_cVV d_X8_most_40 mv_X8_goOn at_0 ob_0_0 rfl (As := [.int p1]) rfl rfl (ps_room.of (by omega) (by decide)) (Nat.le_of_ble_eq_true rfl) (C_X8_goOn p1 σ5 _ (ps_bdE hK)) ?_
        intro σ10 hT
        clear hK
        have hK := hT
        clear hT
        refine pm_ki d_X8_most_43 ?_
        refine pm_ist3 d_X8_most_44 rfl (by decide) ?_
        refine pm_ald d_X8_most_45 rfl ?_
        refine ps_getR (q := 44) d_X8_most_46 at_0 f_0_0_7 rfl ?_
        refine ps_getR (q := (44 + 16)) d_X8_most_49 ps_St44.at0 f_5_0_6 rfl ?_
        refine pm_ki d_X8_most_52 ?_
        refine ps_iald (x := σ10.1 (44 + 16) 0) d_X8_most_53 (ps_St44.at 16 (by decide)) a_5_16 (ps_in_of rfl) rfl ?_
        refine ps_topI (fun v11 ev11 => ?_)
        replace hK := ps_ltE ev11 hK
        refine pm_ald d_X8_most_54 rfl ?_
        refine ps_getR (q := 26) d_X8_most_55 at_0 f_0_0_6 rfl ?_
        refine ps_getR (q := (26 + 16)) d_X8_most_58 ps_St26.at0 f_5_0_6 rfl ?_
        refine pm_ki d_X8_most_61 ?_
        refine ps_iald (x := σ10.1 (26 + 16) 0) d_X8_most_62 (ps_St26.at 16 (by decide)) a_5_16 (ps_in_of rfl) rfl ?_
        refine ps_topI (fun v12 ev12 => ?_)
        replace hK := ps_ltE ev12 hK
        refine pm_isub d_X8_most_63 ?_
        refine ps_topI (fun v13 ev13 => ?_)
        replace hK := ps_ltE ev13 hK
        refine pm_ist4 d_X8_most_64 rfl (by decide) ?_
        refine pm_ild d_X8_most_66 rfl ?_
        refine pm_ist5 d_X8_most_68 rfl (by decide) ?_
        refine pm_ki d_X8_most_70 ?_
        refine pm_ist6 d_X8_most_71 rfl (by decide) ?_
        refine L_X8_most_73 _ (by decide) p1 p2 _ _ _ _ _ _ (ps_ok.mono (ps_bdE hK) ?_)
        rintro ⟨v27, v28, v29, v30⟩ σ26 hT
        clear hK
        have hK := hT
        clear hT
        refine pm_ild d_X8_most_137 rfl ?_
        refine pm_if_ne d_X8_most_138 (fun c31 => ?_) (fun c31 => ?_)
        · replace hK := ps_ifF c31 hK
          refine pm_ild d_X8_most_143 rfl ?_
          refine pm_ki d_X8_most_144 ?_
          refine pm_icmp_ne d_X8_most_145 (fun c32 => ?_) (fun c32 => ?_)
          · replace hK := ps_ifF c32 hK
            refine pm_ild d_X8_most_153 rfl ?_
            have hQ := ps_so hK
            exact ps_iret rfl d_X8_most_155 ⟨_, rfl, hQ⟩
          · replace hK := ps_ifT c32 hK
            refine pm_ild d_X8_most_148 rfl ?_
            refine pm_goto d_X8_most_150 ?_
            have hQ := ps_so hK
            exact ps_iret rfl d_X8_most_155 ⟨_, rfl, hQ⟩
        · replace hK := ps_ifT c31 hK
          refine pm_ild d_X8_most_141 rfl ?_
          have hQ := ps_so hK
          exact ps_iret rfl d_X8_most_142 ⟨_, rfl, hQ⟩
      · replace hK := ps_ifT c8 hK
        refine pm_ki d_X8_most_36 ?_
        have hQ := ps_so hK
        exact ps_iret rfl d_X8_most_37 ⟨_, rfl, hQ⟩
    · replace hK := ps_ifT c6 hK
      refine pm_ki d_X8_most_23 ?_
      have hQ := ps_so hK
      exact ps_iret rfl d_X8_most_25 ⟨_, rfl, hQ⟩
  · replace hK := ps_ifT c3 hK
    refine pm_ki d_X8_most_9 ?_
    have hQ := ps_so hK
    exact ps_iret rfl d_X8_most_11 ⟨_, rfl, hQ⟩
def qX8_next (p1 : Int32) (σ : ps_S) : Option (Int32 × ps_S) :=
  ps_bd (qX8_isDevice p1 σ) (fun v1 σ2 =>
  if v1 = 0 then
  some ((-2), σ2)
  else
  ps_bd (qX0_oldestFile 26 p1 σ2) (fun v4 σ5 =>
  if v4 = ((-1)) then
  ps_bd (qX0_fileInTurn 26 p1 σ5) (fun v7 σ8 =>
  some (v7, σ8))
  else
  some (v4, σ5)))
set_option maxRecDepth 100000 in
theorem C_X8_next {g : pm_G} (p1 : Int32) (σ : ps_S) (P : Int32 → ps_S → Prop) (hK : ps_ok (qX8_next p1 σ) P) : ps_C g mX8_next 3 [.ref (g.2.2.1 + 0), .int p1] σ (ps_qI P) := by
  unfold qX8_next at hK
  refine ps_C.of (ls := [some (.ref (g.2.2.1 + 0)), some (.int p1), none]) 1 (by decide) rfl (Nat.le_of_ble_eq_true rfl) rfl ?_
  refine pm_ald d_X8_next_0 rfl ?_
  refine pm_ild d_X8_next_1 rfl ?_
  refine ps_cVI d_X8_next_2 mv_X8_isDevice at_0 ob_0_0 rfl (As := [.int p1]) rfl rfl (ps_room.of (by omega) (by decide)) (Nat.le_of_ble_eq_true rfl) (C_X8_isDevice p1 σ _ (ps_bdE hK)) ?_
  intro v1 σ2 hT
  clear hK
  have hK := hT
  clear hT
  refine pm_if_ne d_X8_next_5 (fun c3 => ?_) (fun c3 => ?_)
  · replace hK := ps_ifF c3 hK
    refine pm_ald d_X8_next_11 rfl ?_
    refine ps_getR (q := 21) d_X8_next_12 at_0 f_0_0_5 rfl ?_
    refine pm_ald d_X8_next_15 rfl ?_
    refine ps_getR (q := 26) d_X8_next_16 at_0 f_0_0_6 rfl ?_
    refine pm_ild d_X8_next_19 rfl ?_
    refine ps_cVI d_X8_next_20 mv_X0_oldestFile at_21 ob_4_0 rfl (As := [.ref (g.2.2.1 + 26), .int p1]) rfl rfl (ps_room.of (by omega) (by decide)) (Nat.le_of_ble_eq_true rfl) (C_X0_oldestFile 26 ps_St26 p1 σ2 _ (ps_bdE hK)) ?_
    intro v4 σ5 hT
    clear hK
    have hK := hT
    clear hT
    refine pm_ist2 d_X8_next_23 rfl (by decide) ?_
    refine pm_ild d_X8_next_24 rfl ?_
    refine pm_ki d_X8_next_25 ?_
    refine pm_icmp_eq d_X8_next_26 (fun c6 => ?_) (fun c6 => ?_)
    · replace hK := ps_ifT c6 hK
      refine pm_ald d_X8_next_33 rfl ?_
      refine ps_getR (q := 21) d_X8_next_34 at_0 f_0_0_5 rfl ?_
      refine pm_ald d_X8_next_37 rfl ?_
      refine ps_getR (q := 26) d_X8_next_38 at_0 f_0_0_6 rfl ?_
      refine pm_ild d_X8_next_41 rfl ?_
      refine ps_cVI d_X8_next_42 mv_X0_fileInTurn at_21 ob_4_0 rfl (As := [.ref (g.2.2.1 + 26), .int p1]) rfl rfl (ps_room.of (by omega) (by decide)) (Nat.le_of_ble_eq_true rfl) (C_X0_fileInTurn 26 ps_St26 p1 σ5 _ (ps_bdE hK)) ?_
      intro v7 σ8 hT
      clear hK
      have hK := hT
      clear hT
      have hQ := ps_so hK
      exact ps_iret rfl d_X8_next_45 ⟨_, rfl, hQ⟩
    · replace hK := ps_ifF c6 hK
      refine pm_ild d_X8_next_29 rfl ?_
      refine pm_goto d_X8_next_30 ?_
      have hQ := ps_so hK
      exact ps_iret rfl d_X8_next_45 ⟨_, rfl, hQ⟩
  · replace hK := ps_ifT c3 hK
    refine pm_ki d_X8_next_8 ?_
    have hQ := ps_so hK
    exact ps_iret rfl d_X8_next_10 ⟨_, rfl, hQ⟩
def qJ7_fill_d0a16_6 (k1 n1 : Nat) (y1 : Int64) (y4 : Int32) : Nat → Int32 → ps_S → Option (((Int32)) × ps_S)
  | 0, _, _ => none
  | n + 1, x3, σ =>
    if y4 ≤ x3 then
    some (x3, σ)
    else
    if ps_in x3 n1 = true then
    ps_let (ps_rL σ k1 (vp_updL (σ.2.1 k1) (x3).toNatClampNeg y1)) fun σ3 =>
    ps_let (x3 + 1) fun v4 =>
    qJ7_fill_d0a16_6 k1 n1 y1 y4 n v4 σ3
    else none
set_option maxRecDepth 100000 in
theorem L_J7_fill_d0a16_6 {g : pm_G} (D : Nat) (hD : 1 ≤ D) {P : Unit → ps_S → Prop} (k1 n1 kd1 b1 o1 : Nat) (ha1 : ps_at k1 kd1 b1 o1) (hf1 : ps_aL kd1 o1 n1) (y1 : Int64) (y4 : Int32) : ∀ (n : Nat) (x3 : Int32) (σ : ps_S), ps_ok (qJ7_fill_d0a16_6 k1 n1 y1 y4 n x3 σ) (fun res σ => match res with | x3 => pm_W g mJ7_fill_d0a16 (ps_F g D (ps_qV P)) 0 0 22 [some (.ref (g.2.2.1 + k1)), some (.long y1), none, some (.int x3), some (.int y4)] [] 345 (ps_E g σ)) → pm_W g mJ7_fill_d0a16 (ps_F g D (ps_qV P)) 0 0 6 [some (.ref (g.2.2.1 + k1)), some (.long y1), none, some (.int x3), some (.int y4)] [] 345 (ps_E g σ) := by
  intro n
  induction n with
  | zero => intro x3 σ hK; exact (ps_no hK).elim
  | succ n ih =>
    intro x3 σ hK
    rw [qJ7_fill_d0a16_6] at hK
    refine pm_ild d_J7_fill_d0a16_6 rfl ?_
    refine pm_ild d_J7_fill_d0a16_7 rfl ?_
    refine pm_icmp_ge d_J7_fill_d0a16_9 (fun c2 => ?_) (fun c2 => ?_)
    · replace hK := ps_ifT c2 hK
      exact ps_so hK
    · replace hK := ps_ifF c2 hK
      refine pm_ald d_J7_fill_d0a16_12 rfl ?_
      refine pm_ild d_J7_fill_d0a16_13 rfl ?_
      refine pm_lld d_J7_fill_d0a16_14 rfl ?_
      obtain ⟨b5, hT⟩ := ps_gd hK
      replace hK := hT
      clear hT
      refine ps_last d_J7_fill_d0a16_15 ha1 hf1 (ps_in_of b5) ?_
      refine ps_nmS (fun σ3 eσ3 => ?_)
      replace hK := ps_ltE eσ3 hK
      refine pm_inc3 d_J7_fill_d0a16_16 rfl ?_
      obtain ⟨v4, ev4⟩ : ∃ y : Int32, y = x3 + 1 := ⟨_, rfl⟩
      rw [← ev4]
      replace hK := ps_ltE ev4 hK
      refine pm_goto d_J7_fill_d0a16_19 ?_
      exact ih _ _ hK
def qJ7_fill_d0a16 (k1 n1 : Nat) (p2 : Int64) (σ : ps_S) : Option (Unit × ps_S) :=
  ps_let ((Int32.ofNat n1)) fun v1 =>
  ps_bd (qJ7_fill_d0a16_6 k1 n1 p2 v1 ps_N 0 σ) (fun res σ6 => match res with
  | v7 =>
    some ((), σ6))
set_option maxRecDepth 100000 in
theorem C_J7_fill_d0a16 {g : pm_G} (k1 n1 kd1 b1 o1 : Nat) (ha1 : ps_at k1 kd1 b1 o1) (hf1 : ps_aL kd1 o1 n1) (p2 : Int64) (σ : ps_S) (P : Unit → ps_S → Prop) (hK : ps_ok (qJ7_fill_d0a16 k1 n1 p2 σ) P) : ps_C g mJ7_fill_d0a16 1 [.ref (g.2.2.1 + k1), .long p2] σ (ps_qV P) := by
  unfold qJ7_fill_d0a16 at hK
  refine ps_C.of (ls := [some (.ref (g.2.2.1 + k1)), some (.long p2), none, none, none]) 2 (by decide) rfl (Nat.le_of_ble_eq_true rfl) rfl ?_
  refine pm_ki d_J7_fill_d0a16_0 ?_
  refine pm_ist3 d_J7_fill_d0a16_1 rfl (by decide) ?_
  refine pm_ald d_J7_fill_d0a16_2 rfl ?_
  refine ps_alenL d_J7_fill_d0a16_3 ha1 hf1 rfl ?_
  refine ps_topI (fun v1 ev1 => ?_)
  replace hK := ps_ltE ev1 hK
  refine pm_ist4 d_J7_fill_d0a16_4 rfl (by decide) ?_
  refine L_J7_fill_d0a16_6 _ (by decide) k1 n1 kd1 b1 o1 ha1 hf1 p2 v1 _ _ _ (ps_ok.mono (ps_bdE hK) ?_)
  rintro v7 σ6 hT
  clear hK
  have hK := hT
  clear hT
  have hQ := ps_so hK
  exact ps_vret rfl d_J7_fill_d0a16_22 ⟨rfl, hQ⟩
def qX7_begin (B : Nat) (p1 : Int32) (p2 : Int32) (σ : ps_S) : Option (Unit × ps_S) :=
  ps_let (ps_rI σ B (upd (σ.1 B) 1 0)) fun σ1 =>
  ps_let (ps_rI σ1 B (upd (σ1.1 B) 2 p1)) fun σ2 =>
  ps_let (ps_rI σ2 B (upd (σ2.1 B) 3 p2)) fun σ3 =>
  ps_bd (qJ7_fill_d0a16 (B + 1) 40 0 σ3) (fun _ σ5 =>
  some ((), σ5))
set_option maxRecDepth 100000 in
theorem C_X7_begin {g : pm_G} (B : Nat) (hB : ps_Tr B) (p1 : Int32) (p2 : Int32) (σ : ps_S) (P : Unit → ps_S → Prop) (hK : ps_ok (qX7_begin B p1 p2 σ) P) : ps_C g mX7_begin 2 [.ref (g.2.2.1 + B), .int p1, .int p2] σ (ps_qV P) := by
  unfold qX7_begin at hK
  refine ps_C.of (ls := [some (.ref (g.2.2.1 + B)), some (.int p1), some (.int p2)]) 0 (by decide) rfl (Nat.le_of_ble_eq_true rfl) rfl ?_
  refine pm_ald d_X7_begin_0 rfl ?_
  refine pm_ki d_X7_begin_1 ?_
  refine ps_putI d_X7_begin_2 hB.at0 f_7_0_1 rfl rfl ?_
  refine ps_nmS (fun σ1 eσ1 => ?_)
  replace hK := ps_ltE eσ1 hK
  refine pm_ald d_X7_begin_5 rfl ?_
  refine pm_ild d_X7_begin_6 rfl ?_
  refine ps_putI d_X7_begin_7 hB.at0 f_7_0_2 rfl rfl ?_
  refine ps_nmS (fun σ2 eσ2 => ?_)
  replace hK := ps_ltE eσ2 hK
  refine pm_ald d_X7_begin_10 rfl ?_
  refine pm_ild d_X7_begin_11 rfl ?_
  refine ps_putI d_X7_begin_12 hB.at0 f_7_0_3 rfl rfl ?_
  refine ps_nmS (fun σ3 eσ3 => ?_)
  replace hK := ps_ltE eσ3 hK
  refine pm_ald d_X7_begin_15 rfl ?_
  refine ps_getR (q := (B + 1)) d_X7_begin_16 hB.at0 f_7_0_0 rfl ?_
  refine pm_kl d_X7_begin_19 ?_
  refine ps_cSV d_X7_begin_20 ms_J7_fill_d0a16 (As := [.ref (g.2.2.1 + (B + 1)), .long 0]) rfl rfl (ps_room.of (by omega) (by decide)) (Nat.le_of_ble_eq_true rfl) (C_J7_fill_d0a16 (B + 1) 40 7 B 1 (hB.at 1 (by decide)) a_7_1 0 σ3 _ (ps_bdE hK)) ?_
  intro σ5 hT
  clear hK
  have hK := hT
  clear hT
  have hQ := ps_so hK
  exact ps_vret rfl d_X7_begin_23 ⟨rfl, hQ⟩
def qX8_numbers (p1 : Int32) (p2 : Int32) (p3 : Int32) (σ : ps_S) : Option (Int32 × ps_S) :=
  ps_bd (qX8_isTray p1 σ) (fun v1 σ2 =>
  if v1 = 0 then
  some ((-2), σ2)
  else
  ps_bd (qX8_isWithin p2 0 3 σ2) (fun v4 σ5 =>
  if v4 = 0 then
  some ((-2), σ5)
  else
  ps_bd (qX8_isWithin p3 0 40 σ5) (fun v7 σ8 =>
  if v7 = 0 then
  some ((-3), σ8)
  else
  if ps_in p1 4 = true then
  ps_let (265 + 2 * (p1).toNatClampNeg) fun B12 =>
  ps_bd (qX7_begin B12 p2 p3 σ8) (fun _ σ14 =>
  some (0, σ14))
  else none)))
set_option maxRecDepth 100000 in
theorem C_X8_numbers {g : pm_G} (p1 : Int32) (p2 : Int32) (p3 : Int32) (σ : ps_S) (P : Int32 → ps_S → Prop) (hK : ps_ok (qX8_numbers p1 p2 p3 σ) P) : ps_C g mX8_numbers 3 [.ref (g.2.2.1 + 0), .int p1, .int p2, .int p3] σ (ps_qI P) := by
  unfold qX8_numbers at hK
  refine ps_C.of (ls := [some (.ref (g.2.2.1 + 0)), some (.int p1), some (.int p2), some (.int p3)]) 0 (by decide) rfl (Nat.le_of_ble_eq_true rfl) rfl ?_
  refine pm_ild d_X8_numbers_0 rfl ?_
  refine ps_cSI d_X8_numbers_1 ms_X8_isTray (As := [.int p1]) rfl rfl (ps_room.of (by omega) (by decide)) (Nat.le_of_ble_eq_true rfl) (C_X8_isTray p1 σ _ (ps_bdE hK)) ?_
  intro v1 σ2 hT
  clear hK
  have hK := hT
  clear hT
  refine pm_if_eq d_X8_numbers_4 (fun c3 => ?_) (fun c3 => ?_)
  · replace hK := ps_ifT c3 hK
    refine pm_ki d_X8_numbers_16 ?_
    have hQ := ps_so hK
    exact ps_iret rfl d_X8_numbers_18 ⟨_, rfl, hQ⟩
  · replace hK := ps_ifF c3 hK
    refine pm_ild d_X8_numbers_7 rfl ?_
    refine pm_ki d_X8_numbers_8 ?_
    refine pm_ki d_X8_numbers_9 ?_
    refine ps_cSI d_X8_numbers_10 ms_X8_isWithin (As := [.int p2, .int 0, .int 3]) rfl rfl (ps_room.of (by omega) (by decide)) (Nat.le_of_ble_eq_true rfl) (C_X8_isWithin p2 0 3 σ2 _ (ps_bdE hK)) ?_
    intro v4 σ5 hT
    clear hK
    have hK := hT
    clear hT
    refine pm_if_ne d_X8_numbers_13 (fun c6 => ?_) (fun c6 => ?_)
    · replace hK := ps_ifF c6 hK
      refine pm_ild d_X8_numbers_19 rfl ?_
      refine pm_ki d_X8_numbers_20 ?_
      refine pm_ki d_X8_numbers_21 ?_
      refine ps_cSI d_X8_numbers_23 ms_X8_isWithin (As := [.int p3, .int 0, .int 40]) rfl rfl (ps_room.of (by omega) (by decide)) (Nat.le_of_ble_eq_true rfl) (C_X8_isWithin p3 0 40 σ5 _ (ps_bdE hK)) ?_
      intro v7 σ8 hT
      clear hK
      have hK := hT
      clear hT
      refine pm_if_ne d_X8_numbers_26 (fun c9 => ?_) (fun c9 => ?_)
      · replace hK := ps_ifF c9 hK
        refine pm_ald d_X8_numbers_32 rfl ?_
        refine ps_getR (q := 81) d_X8_numbers_33 at_0 f_0_0_12 rfl ?_
        refine pm_ild d_X8_numbers_36 rfl ?_
        obtain ⟨b10, hT⟩ := ps_gd hK
        replace hK := hT
        clear hT
        obtain ⟨B12, eB12⟩ : ∃ y : Nat, y = (265 + 2 * (p1).toNatClampNeg) := ⟨_, rfl⟩
        refine ps_qald6 (q := B12) d_X8_numbers_37 at_81 a_6_1 (ps_in_of b10) eB12.symm ?_
        replace hK := ps_ltE eB12 hK
        have hB12 : ps_Tr B12 := by rw [eB12]; exact ps_Trt _ (ps_in_lt b10)
        refine pm_ild d_X8_numbers_38 rfl ?_
        refine pm_ild d_X8_numbers_39 rfl ?_
        refine ps_cVV d_X8_numbers_40 mv_X7_begin hB12.at0 ob_7_0 rfl (As := [.int p2, .int p3]) rfl rfl (ps_room.of (by omega) (by decide)) (Nat.le_of_ble_eq_true rfl) (C_X7_begin B12 hB12 p2 p3 σ8 _ (ps_bdE hK)) ?_
        intro σ14 hT
        clear hK
        have hK := hT
        clear hT
        refine pm_ki d_X8_numbers_43 ?_
        have hQ := ps_so hK
        exact ps_iret rfl d_X8_numbers_44 ⟨_, rfl, hQ⟩
      · replace hK := ps_ifT c9 hK
        refine pm_ki d_X8_numbers_29 ?_
        have hQ := ps_so hK
        exact ps_iret rfl d_X8_numbers_31 ⟨_, rfl, hQ⟩
    · replace hK := ps_ifT c6 hK
      refine pm_ki d_X8_numbers_16 ?_
      have hQ := ps_so hK
      exact ps_iret rfl d_X8_numbers_18 ⟨_, rfl, hQ⟩
def qX8_oldest_49  (y1 : Int32) (y3 : Int32) : Nat → Int32 → Int32 → ps_S → Option (((Int32 × Int32)) × ps_S)
  | 0, _, _, _ => none
  | n + 1, x2, x4, σ =>
    ps_let (σ.1 12 8) fun v9 =>
    if v9 ≤ x4 then
    some ((x2, x4), σ)
    else
    ps_bd (qX6_ageOf 44 x4 σ) (fun v11 σ12 =>
    ps_let (if x2 < v11 then v11 else x2) fun v13 =>
    ps_let (x4 + 1) fun v14 =>
    qX8_oldest_49 y1 y3 n v13 v14 σ12)
set_option maxRecDepth 100000 in
theorem L_X8_oldest_49 {g : pm_G} (D : Nat) (hD : 6 ≤ D) {P : Int32 → ps_S → Prop}  (y1 : Int32) (y3 : Int32) : ∀ (n : Nat) (x2 : Int32) (x4 : Int32) (σ : ps_S), ps_ok (qX8_oldest_49 y1 y3 n x2 x4 σ) (fun res σ => match res with | (x2, x4) => pm_W g mX8_oldest (ps_F g D (ps_qI P)) 0 0 81 [some (.ref (g.2.2.1 + 0)), some (.int y1), some (.int x2), some (.int y3), some (.int x4)] [] 345 (ps_E g σ)) → pm_W g mX8_oldest (ps_F g D (ps_qI P)) 0 0 49 [some (.ref (g.2.2.1 + 0)), some (.int y1), some (.int x2), some (.int y3), some (.int x4)] [] 345 (ps_E g σ) := by
  intro n
  induction n with
  | zero => intro x2 x4 σ hK; exact (ps_no hK).elim
  | succ n ih =>
    intro x2 x4 σ hK
    rw [qX8_oldest_49] at hK
    refine pm_ild d_X8_oldest_49 rfl ?_
    refine pm_ald d_X8_oldest_51 rfl ?_
    refine ps_getR (q := 12) d_X8_oldest_52 at_0 f_0_0_4 rfl ?_
    refine ps_getI d_X8_oldest_55 ps_Ho12.at0 f_2_0_8 rfl ?_
    refine ps_topI (fun v9 ev9 => ?_)
    replace hK := ps_ltE ev9 hK
    refine pm_icmp_ge d_X8_oldest_58 (fun c10 => ?_) (fun c10 => ?_)
    · replace hK := ps_ifT c10 hK
      exact ps_so hK
    · replace hK := ps_ifF c10 hK
      refine pm_ild d_X8_oldest_61 rfl ?_
      refine pm_ald d_X8_oldest_62 rfl ?_
      refine ps_getR (q := 44) d_X8_oldest_63 at_0 f_0_0_7 rfl ?_
      refine pm_ild d_X8_oldest_66 rfl ?_
      refine ps_cVI d_X8_oldest_68 mv_X6_ageOf ps_St44.at0 ob_5_0 rfl (As := [.int x4]) rfl rfl (ps_room.of (by omega) (by decide)) (Nat.le_of_ble_eq_true rfl) (C_X6_ageOf 44 ps_St44 x4 σ _ (ps_bdE hK)) ?_
      intro v11 σ12 hT
      clear hK
      have hK := hT
      clear hT
      refine pm_mmax d_X8_oldest_71 (ps_roomM (by omega)) (Nat.le_of_ble_eq_true rfl) ?_
      refine ps_topI (fun v13 ev13 => ?_)
      replace hK := ps_ltE ev13 hK
      refine pm_ist2 d_X8_oldest_74 rfl (by decide) ?_
      refine pm_inc4 d_X8_oldest_75 rfl ?_
      obtain ⟨v14, ev14⟩ : ∃ y : Int32, y = x4 + 1 := ⟨_, rfl⟩
      rw [← ev14]
      replace hK := ps_ltE ev14 hK
      refine pm_goto d_X8_oldest_78 ?_
      exact ih _ _ _ hK
def qX8_oldest_29  (y1 : Int32) : Nat → Int32 → Int32 → ps_S → Option (((Int32 × Int32)) × ps_S)
  | 0, _, _, _ => none
  | n + 1, x2, x3, σ =>
    if y1 ≤ x3 then
    some ((x2, x3), σ)
    else
    ps_bd (qX0_run 44 1 σ) (fun _ σ8 =>
    ps_bd (qX8_oldest_49 y1 x3 ps_N x2 0 σ8) (fun res σ15 => match res with
    | (v16, v17) =>
      ps_let (x3 + 1) fun v18 =>
      qX8_oldest_29 y1 n v16 v18 σ15))
set_option maxRecDepth 100000 in
theorem L_X8_oldest_29 {g : pm_G} (D : Nat) (hD : 6 ≤ D) {P : Int32 → ps_S → Prop}  (y1 : Int32) : ∀ (n : Nat) (x2 : Int32) (x3 : Int32) (σ : ps_S), ps_ok (qX8_oldest_29 y1 n x2 x3 σ) (fun res σ => match res with | (x2, x3) => pm_W g mX8_oldest (ps_F g D (ps_qI P)) 0 0 87 [some (.ref (g.2.2.1 + 0)), some (.int y1), some (.int x2), some (.int x3), none] [] 345 (ps_E g σ)) → pm_W g mX8_oldest (ps_F g D (ps_qI P)) 0 0 29 [some (.ref (g.2.2.1 + 0)), some (.int y1), some (.int x2), some (.int x3), none] [] 345 (ps_E g σ) := by
  intro n
  induction n with
  | zero => intro x2 x3 σ hK; exact (ps_no hK).elim
  | succ n ih =>
    intro x2 x3 σ hK
    rw [qX8_oldest_29] at hK
    refine pm_ild d_X8_oldest_29 rfl ?_
    refine pm_ild d_X8_oldest_30 rfl ?_
    refine pm_icmp_ge d_X8_oldest_31 (fun c6 => ?_) (fun c6 => ?_)
    · replace hK := ps_ifT c6 hK
      exact ps_so hK
    · replace hK := ps_ifF c6 hK
      refine pm_ald d_X8_oldest_34 rfl ?_
      refine ps_getR (q := 21) d_X8_oldest_35 at_0 f_0_0_5 rfl ?_
      refine pm_ald d_X8_oldest_38 rfl ?_
      refine ps_getR (q := 44) d_X8_oldest_39 at_0 f_0_0_7 rfl ?_
      refine pm_ki d_X8_oldest_42 ?_
      refine ps_cVV d_X8_oldest_43 mv_X0_run at_21 ob_4_0 rfl (As := [.ref (g.2.2.1 + 44), .int 1]) rfl rfl (ps_room.of (by omega) (by decide)) (Nat.le_of_ble_eq_true rfl) (C_X0_run 44 ps_St44 1 σ _ (ps_bdE hK)) ?_
      intro σ8 hT
      clear hK
      have hK := hT
      clear hT
      refine pm_ki d_X8_oldest_46 ?_
      refine pm_ist4 d_X8_oldest_47 rfl (by decide) ?_
      refine L_X8_oldest_49 D hD y1 x3 _ _ _ _ (ps_ok.mono (ps_bdE hK) ?_)
      rintro ⟨v16, v17⟩ σ15 hT
      clear hK
      have hK := hT
      clear hT
      refine pm_inc3 d_X8_oldest_81 rfl ?_
      obtain ⟨v18, ev18⟩ : ∃ y : Int32, y = x3 + 1 := ⟨_, rfl⟩
      rw [← ev18]
      replace hK := ps_ltE ev18 hK
      refine pm_goto d_X8_oldest_84 ?_
      refine pm_wk (ls' := [some (.ref (g.2.2.1 + 0)), some (.int y1), some (.int v16), some (.int v18), none]) ⟨rfl, ⟨rfl, ⟨rfl, ⟨rfl, trivial⟩⟩⟩⟩ ?_
      exact ih _ _ _ hK
def qX8_oldest (p1 : Int32) (σ : ps_S) : Option (Int32 × ps_S) :=
  ps_bd (qX8_isWithin p1 1 999 σ) (fun v1 σ2 =>
  if v1 = 0 then
  some ((-3), σ2)
  else
  ps_bd (qX6_copyFrom 44 26 σ2) (fun _ σ5 =>
  ps_bd (qX8_oldest_29 p1 ps_N ((-1)) 0 σ5) (fun res σ19 => match res with
  | (v20, v21) =>
    some (v20, σ19))))
set_option maxRecDepth 100000 in
theorem C_X8_oldest {g : pm_G} (p1 : Int32) (σ : ps_S) (P : Int32 → ps_S → Prop) (hK : ps_ok (qX8_oldest p1 σ) P) : ps_C g mX8_oldest 6 [.ref (g.2.2.1 + 0), .int p1] σ (ps_qI P) := by
  unfold qX8_oldest at hK
  refine ps_C.of (ls := [some (.ref (g.2.2.1 + 0)), some (.int p1), none, none, none]) 3 (by decide) rfl (Nat.le_of_ble_eq_true rfl) rfl ?_
  refine pm_ild d_X8_oldest_0 rfl ?_
  refine pm_ki d_X8_oldest_1 ?_
  refine pm_ki d_X8_oldest_2 ?_
  refine ps_cSI d_X8_oldest_5 ms_X8_isWithin (As := [.int p1, .int 1, .int 999]) rfl rfl (ps_room.of (by omega) (by decide)) (Nat.le_of_ble_eq_true rfl) (C_X8_isWithin p1 1 999 σ _ (ps_bdE hK)) ?_
  intro v1 σ2 hT
  clear hK
  have hK := hT
  clear hT
  refine pm_if_ne d_X8_oldest_8 (fun c3 => ?_) (fun c3 => ?_)
  · replace hK := ps_ifF c3 hK
    refine pm_ald d_X8_oldest_14 rfl ?_
    refine ps_getR (q := 44) d_X8_oldest_15 at_0 f_0_0_7 rfl ?_
    refine pm_ald d_X8_oldest_18 rfl ?_
    refine ps_getR (q := 26) d_X8_oldest_19 at_0 f_0_0_6 rfl ?_
    refine ps_cVV d_X8_oldest_22 mv_X6_copyFrom ps_St44.at0 ob_5_0 rfl (As := [.ref (g.2.2.1 + 26)]) rfl rfl (ps_room.of (by omega) (by decide)) (Nat.le_of_ble_eq_true rfl) (C_X6_copyFrom 44 ps_St44 26 ps_St26 σ2 _ (ps_bdE hK)) ?_
    intro σ5 hT
    clear hK
    have hK := hT
    clear hT
    refine pm_ki d_X8_oldest_25 ?_
    refine pm_ist2 d_X8_oldest_26 rfl (by decide) ?_
    refine pm_ki d_X8_oldest_27 ?_
    refine pm_ist3 d_X8_oldest_28 rfl (by decide) ?_
    refine L_X8_oldest_29 _ (by decide) p1 _ _ _ _ (ps_ok.mono (ps_bdE hK) ?_)
    rintro ⟨v20, v21⟩ σ19 hT
    clear hK
    have hK := hT
    clear hT
    refine pm_ild d_X8_oldest_87 rfl ?_
    have hQ := ps_so hK
    exact ps_iret rfl d_X8_oldest_88 ⟨_, rfl, hQ⟩
  · replace hK := ps_ifT c3 hK
    refine pm_ki d_X8_oldest_11 ?_
    have hQ := ps_so hK
    exact ps_iret rfl d_X8_oldest_13 ⟨_, rfl, hQ⟩
def qX8_passes_27  (y1 : Int32) : Nat → Int32 → ps_S → Option ((Int32 ⊕ (Int32)) × ps_S)
  | 0, _, _ => none
  | n + 1, x2, σ =>
    if 999 < x2 then
    some (.inr x2, σ)
    else
    ps_let (σ.1 44 9) fun v7 =>
    if v7 ≤ y1 then
    ps_bd (qX0_run 44 1 σ) (fun _ σ10 =>
    ps_let (x2 + 1) fun v11 =>
    qX8_passes_27 y1 n v11 σ10)
    else
    some (.inl x2, σ)
set_option maxRecDepth 100000 in
theorem L_X8_passes_27 {g : pm_G} (D : Nat) (hD : 6 ≤ D) {P : Int32 → ps_S → Prop}  (y1 : Int32) : ∀ (n : Nat) (x2 : Int32) (σ : ps_S), ps_ok (qX8_passes_27 y1 n x2 σ) (fun res σ => match res with | .inl r => P r σ | .inr x2 => pm_W g mX8_passes (ps_F g D (ps_qI P)) 0 0 65 [some (.ref (g.2.2.1 + 0)), some (.int y1), some (.int x2)] [] 345 (ps_E g σ)) → pm_W g mX8_passes (ps_F g D (ps_qI P)) 0 0 27 [some (.ref (g.2.2.1 + 0)), some (.int y1), some (.int x2)] [] 345 (ps_E g σ) := by
  intro n
  induction n with
  | zero => intro x2 σ hK; exact (ps_no hK).elim
  | succ n ih =>
    intro x2 σ hK
    rw [qX8_passes_27] at hK
    refine pm_ild d_X8_passes_27 rfl ?_
    refine pm_ki d_X8_passes_28 ?_
    refine pm_icmp_gt d_X8_passes_31 (fun c6 => ?_) (fun c6 => ?_)
    · replace hK := ps_ifT c6 hK
      exact ps_so hK
    · replace hK := ps_ifF c6 hK
      refine pm_ald d_X8_passes_34 rfl ?_
      refine ps_getR (q := 44) d_X8_passes_35 at_0 f_0_0_7 rfl ?_
      refine ps_getI d_X8_passes_38 ps_St44.at0 f_5_0_9 rfl ?_
      refine ps_topI (fun v7 ev7 => ?_)
      replace hK := ps_ltE ev7 hK
      refine pm_ild d_X8_passes_41 rfl ?_
      refine pm_icmp_le d_X8_passes_42 (fun c8 => ?_) (fun c8 => ?_)
      · replace hK := ps_ifT c8 hK
        refine pm_ald d_X8_passes_47 rfl ?_
        refine ps_getR (q := 21) d_X8_passes_48 at_0 f_0_0_5 rfl ?_
        refine pm_ald d_X8_passes_51 rfl ?_
        refine ps_getR (q := 44) d_X8_passes_52 at_0 f_0_0_7 rfl ?_
        refine pm_ki d_X8_passes_55 ?_
        refine ps_cVV d_X8_passes_56 mv_X0_run at_21 ob_4_0 rfl (As := [.ref (g.2.2.1 + 44), .int 1]) rfl rfl (ps_room.of (by omega) (by decide)) (Nat.le_of_ble_eq_true rfl) (C_X0_run 44 ps_St44 1 σ _ (ps_bdE hK)) ?_
        intro σ10 hT
        clear hK
        have hK := hT
        clear hT
        refine pm_inc2 d_X8_passes_59 rfl ?_
        obtain ⟨v11, ev11⟩ : ∃ y : Int32, y = x2 + 1 := ⟨_, rfl⟩
        rw [← ev11]
        replace hK := ps_ltE ev11 hK
        refine pm_goto d_X8_passes_62 ?_
        exact ih _ _ hK
      · replace hK := ps_ifF c8 hK
        refine pm_ild d_X8_passes_45 rfl ?_
        have hQ := ps_so hK
        exact ps_iret rfl d_X8_passes_46 ⟨_, rfl, hQ⟩
def qX8_passes (p1 : Int32) (σ : ps_S) : Option (Int32 × ps_S) :=
  ps_bd (qX8_isWithin p1 0 999 σ) (fun v1 σ2 =>
  if v1 = 0 then
  some ((-3), σ2)
  else
  ps_bd (qX6_copyFrom 44 26 σ2) (fun _ σ5 =>
  ps_bd (qX8_passes_27 p1 ps_N 0 σ5) (fun res σ12 => match res with
  | .inl r => some (r, σ12)
  | .inr v13 =>
    some ((-1), σ12))))
set_option maxRecDepth 100000 in
theorem C_X8_passes {g : pm_G} (p1 : Int32) (σ : ps_S) (P : Int32 → ps_S → Prop) (hK : ps_ok (qX8_passes p1 σ) P) : ps_C g mX8_passes 6 [.ref (g.2.2.1 + 0), .int p1] σ (ps_qI P) := by
  unfold qX8_passes at hK
  refine ps_C.of (ls := [some (.ref (g.2.2.1 + 0)), some (.int p1), none]) 1 (by decide) rfl (Nat.le_of_ble_eq_true rfl) rfl ?_
  refine pm_ild d_X8_passes_0 rfl ?_
  refine pm_ki d_X8_passes_1 ?_
  refine pm_ki d_X8_passes_2 ?_
  refine ps_cSI d_X8_passes_5 ms_X8_isWithin (As := [.int p1, .int 0, .int 999]) rfl rfl (ps_room.of (by omega) (by decide)) (Nat.le_of_ble_eq_true rfl) (C_X8_isWithin p1 0 999 σ _ (ps_bdE hK)) ?_
  intro v1 σ2 hT
  clear hK
  have hK := hT
  clear hT
  refine pm_if_ne d_X8_passes_8 (fun c3 => ?_) (fun c3 => ?_)
  · replace hK := ps_ifF c3 hK
    refine pm_ald d_X8_passes_14 rfl ?_
    refine ps_getR (q := 44) d_X8_passes_15 at_0 f_0_0_7 rfl ?_
    refine pm_ald d_X8_passes_18 rfl ?_
    refine ps_getR (q := 26) d_X8_passes_19 at_0 f_0_0_6 rfl ?_
    refine ps_cVV d_X8_passes_22 mv_X6_copyFrom ps_St44.at0 ob_5_0 rfl (As := [.ref (g.2.2.1 + 26)]) rfl rfl (ps_room.of (by omega) (by decide)) (Nat.le_of_ble_eq_true rfl) (C_X6_copyFrom 44 ps_St44 26 ps_St26 σ2 _ (ps_bdE hK)) ?_
    intro σ5 hT
    clear hK
    have hK := hT
    clear hT
    refine pm_ki d_X8_passes_25 ?_
    refine pm_ist2 d_X8_passes_26 rfl (by decide) ?_
    refine L_X8_passes_27 _ (by decide) p1 _ _ _ (ps_ok.mono (ps_bdE hK) ?_)
    intro res σ12 hT
    clear hK
    match res, hT with
    | .inl r, hT => exact ps_so hT
    | .inr v13, hT =>
      have hK := hT
      clear hT
      refine pm_ki d_X8_passes_65 ?_
      have hQ := ps_so hK
      exact ps_iret rfl d_X8_passes_66 ⟨_, rfl, hQ⟩
  · replace hK := ps_ifT c3 hK
    refine pm_ki d_X8_passes_11 ?_
    have hQ := ps_so hK
    exact ps_iret rfl d_X8_passes_13 ⟨_, rfl, hQ⟩
def qX8_pause (p1 : Int32) (p2 : Int32) (σ : ps_S) : Option (Int32 × ps_S) :=
  ps_bd (qX8_isWriter p1 σ) (fun v1 σ2 =>
  if v1 = 0 then
  some ((-2), σ2)
  else
  if p2 < 1 then
  some ((-3), σ2)
  else
  if p2 ≤ 99 then
  ps_bd (qX0_pauseOf 26 p1 p2 σ2) (fun v6 σ7 =>
  some (v6, σ7))
  else
  some ((-3), σ2))
set_option maxRecDepth 100000 in
theorem C_X8_pause {g : pm_G} (p1 : Int32) (p2 : Int32) (σ : ps_S) (P : Int32 → ps_S → Prop) (hK : ps_ok (qX8_pause p1 p2 σ) P) : ps_C g mX8_pause 3 [.ref (g.2.2.1 + 0), .int p1, .int p2] σ (ps_qI P) := by
  unfold qX8_pause at hK
  refine ps_C.of (ls := [some (.ref (g.2.2.1 + 0)), some (.int p1), some (.int p2)]) 0 (by decide) rfl (Nat.le_of_ble_eq_true rfl) rfl ?_
  refine pm_ald d_X8_pause_0 rfl ?_
  refine pm_ild d_X8_pause_1 rfl ?_
  refine ps_cVI d_X8_pause_2 mv_X8_isWriter at_0 ob_0_0 rfl (As := [.int p1]) rfl rfl (ps_room.of (by omega) (by decide)) (Nat.le_of_ble_eq_true rfl) (C_X8_isWriter p1 σ _ (ps_bdE hK)) ?_
  intro v1 σ2 hT
  clear hK
  have hK := hT
  clear hT
  refine pm_if_ne d_X8_pause_5 (fun c3 => ?_) (fun c3 => ?_)
  · replace hK := ps_ifF c3 hK
    refine pm_ild d_X8_pause_11 rfl ?_
    refine pm_ki d_X8_pause_12 ?_
    refine pm_icmp_lt d_X8_pause_13 (fun c4 => ?_) (fun c4 => ?_)
    · replace hK := ps_ifT c4 hK
      refine pm_ki d_X8_pause_22 ?_
      have hQ := ps_so hK
      exact ps_iret rfl d_X8_pause_24 ⟨_, rfl, hQ⟩
    · replace hK := ps_ifF c4 hK
      refine pm_ild d_X8_pause_16 rfl ?_
      refine pm_ki d_X8_pause_17 ?_
      refine pm_icmp_le d_X8_pause_19 (fun c5 => ?_) (fun c5 => ?_)
      · replace hK := ps_ifT c5 hK
        refine pm_ald d_X8_pause_25 rfl ?_
        refine ps_getR (q := 21) d_X8_pause_26 at_0 f_0_0_5 rfl ?_
        refine pm_ald d_X8_pause_29 rfl ?_
        refine ps_getR (q := 26) d_X8_pause_30 at_0 f_0_0_6 rfl ?_
        refine pm_ild d_X8_pause_33 rfl ?_
        refine pm_ild d_X8_pause_34 rfl ?_
        refine ps_cVI d_X8_pause_35 mv_X0_pauseOf at_21 ob_4_0 rfl (As := [.ref (g.2.2.1 + 26), .int p1, .int p2]) rfl rfl (ps_room.of (by omega) (by decide)) (Nat.le_of_ble_eq_true rfl) (C_X0_pauseOf 26 ps_St26 p1 p2 σ2 _ (ps_bdE hK)) ?_
        intro v6 σ7 hT
        clear hK
        have hK := hT
        clear hT
        have hQ := ps_so hK
        exact ps_iret rfl d_X8_pause_38 ⟨_, rfl, hQ⟩
      · replace hK := ps_ifF c5 hK
        refine pm_ki d_X8_pause_22 ?_
        have hQ := ps_so hK
        exact ps_iret rfl d_X8_pause_24 ⟨_, rfl, hQ⟩
  · replace hK := ps_ifT c3 hK
    refine pm_ki d_X8_pause_8 ?_
    have hQ := ps_so hK
    exact ps_iret rfl d_X8_pause_10 ⟨_, rfl, hQ⟩
def qX8_perform (p1 : Int32) (σ : ps_S) : Option (Int32 × ps_S) :=
  ps_bd (qX8_isTray p1 σ) (fun v1 σ2 =>
  if v1 = 0 then
  some ((-2), σ2)
  else
  if ps_in p1 4 = true then
  ps_let (265 + 2 * (p1).toNatClampNeg) fun B6 =>
  ps_let (σ2.1 B6 1) fun v7 =>
  if v7 = 0 then
  ps_bd (qX6_copyFrom 62 26 σ2) (fun _ σ10 =>
  if ps_in p1 4 = true then
  ps_let (265 + 2 * (p1).toNatClampNeg) fun B13 =>
  ps_bd (qX8_doAll 26 B13 σ10) (fun v14 σ15 =>
  if v14 ≤ 0 then
  some (v14, σ15)
  else
  ps_bd (qX8_remember σ15) (fun _ σ18 =>
  some (v14, σ18)))
  else none)
  else
  some ((-6), σ2)
  else none)
set_option maxRecDepth 100000 in
theorem C_X8_perform {g : pm_G} (p1 : Int32) (σ : ps_S) (P : Int32 → ps_S → Prop) (hK : ps_ok (qX8_perform p1 σ) P) : ps_C g mX8_perform 8 [.ref (g.2.2.1 + 0), .int p1] σ (ps_qI P) := by
  unfold qX8_perform at hK
  refine ps_C.of (ls := [some (.ref (g.2.2.1 + 0)), some (.int p1), none]) 1 (by decide) rfl (Nat.le_of_ble_eq_true rfl) rfl ?_
  refine pm_ild d_X8_perform_0 rfl ?_
  refine ps_cSI d_X8_perform_1 ms_X8_isTray (As := [.int p1]) rfl rfl (ps_room.of (by omega) (by decide)) (Nat.le_of_ble_eq_true rfl) (C_X8_isTray p1 σ _ (ps_bdE hK)) ?_
  intro v1 σ2 hT
  clear hK
  have hK := hT
  clear hT
  refine pm_if_ne d_X8_perform_4 (fun c3 => ?_) (fun c3 => ?_)
  · replace hK := ps_ifF c3 hK
    refine pm_ald d_X8_perform_10 rfl ?_
    refine ps_getR (q := 81) d_X8_perform_11 at_0 f_0_0_12 rfl ?_
    refine pm_ild d_X8_perform_14 rfl ?_
    obtain ⟨b4, hT⟩ := ps_gd hK
    replace hK := hT
    clear hT
    obtain ⟨B6, eB6⟩ : ∃ y : Nat, y = (265 + 2 * (p1).toNatClampNeg) := ⟨_, rfl⟩
    refine ps_qald6 (q := B6) d_X8_perform_15 at_81 a_6_1 (ps_in_of b4) eB6.symm ?_
    replace hK := ps_ltE eB6 hK
    have hB6 : ps_Tr B6 := by rw [eB6]; exact ps_Trt _ (ps_in_lt b4)
    refine ps_getI d_X8_perform_16 hB6.at0 f_7_0_1 rfl ?_
    refine ps_topI (fun v7 ev7 => ?_)
    replace hK := ps_ltE ev7 hK
    refine pm_if_eq d_X8_perform_19 (fun c8 => ?_) (fun c8 => ?_)
    · replace hK := ps_ifT c8 hK
      refine pm_ald d_X8_perform_25 rfl ?_
      refine ps_getR (q := 62) d_X8_perform_26 at_0 f_0_0_8 rfl ?_
      refine pm_ald d_X8_perform_29 rfl ?_
      refine ps_getR (q := 26) d_X8_perform_30 at_0 f_0_0_6 rfl ?_
      refine ps_cVV d_X8_perform_33 mv_X6_copyFrom ps_St62.at0 ob_5_0 rfl (As := [.ref (g.2.2.1 + 26)]) rfl rfl (ps_room.of (by omega) (by decide)) (Nat.le_of_ble_eq_true rfl) (C_X6_copyFrom 62 ps_St62 26 ps_St26 σ2 _ (ps_bdE hK)) ?_
      intro σ10 hT
      clear hK
      have hK := hT
      clear hT
      refine pm_ald d_X8_perform_36 rfl ?_
      refine pm_ald d_X8_perform_37 rfl ?_
      refine ps_getR (q := 26) d_X8_perform_38 at_0 f_0_0_6 rfl ?_
      refine pm_ald d_X8_perform_41 rfl ?_
      refine ps_getR (q := 81) d_X8_perform_42 at_0 f_0_0_12 rfl ?_
      refine pm_ild d_X8_perform_45 rfl ?_
      obtain ⟨b11, hT⟩ := ps_gd hK
      replace hK := hT
      clear hT
      obtain ⟨B13, eB13⟩ : ∃ y : Nat, y = (265 + 2 * (p1).toNatClampNeg) := ⟨_, rfl⟩
      refine ps_qald6 (q := B13) d_X8_perform_46 at_81 a_6_1 (ps_in_of b11) eB13.symm ?_
      replace hK := ps_ltE eB13 hK
      have hB13 : ps_Tr B13 := by rw [eB13]; exact ps_Trt _ (ps_in_lt b11)
      refine ps_cVI d_X8_perform_47 mv_X8_doAll at_0 ob_0_0 rfl (As := [.ref (g.2.2.1 + 26), .ref (g.2.2.1 + B13)]) rfl rfl (ps_room.of (by omega) (by decide)) (Nat.le_of_ble_eq_true rfl) (C_X8_doAll 26 ps_St26 B13 hB13 σ10 _ (ps_bdE hK)) ?_
      intro v14 σ15 hT
      clear hK
      have hK := hT
      clear hT
      refine pm_ist2 d_X8_perform_50 rfl (by decide) ?_
      refine pm_ild d_X8_perform_51 rfl ?_
      refine pm_if_le d_X8_perform_52 (fun c16 => ?_) (fun c16 => ?_)
      · replace hK := ps_ifT c16 hK
        refine pm_ild d_X8_perform_59 rfl ?_
        have hQ := ps_so hK
        exact ps_iret rfl d_X8_perform_60 ⟨_, rfl, hQ⟩
      · replace hK := ps_ifF c16 hK
        refine pm_ald d_X8_perform_55 rfl ?_
        refine ps_cVV d_X8_perform_56 mv_X8_remember at_0 ob_0_0 rfl (As := []) rfl rfl (ps_room.of (by omega) (by decide)) (Nat.le_of_ble_eq_true rfl) (C_X8_remember σ15 _ (ps_bdE hK)) ?_
        intro σ18 hT
        clear hK
        have hK := hT
        clear hT
        refine pm_ild d_X8_perform_59 rfl ?_
        have hQ := ps_so hK
        exact ps_iret rfl d_X8_perform_60 ⟨_, rfl, hQ⟩
    · replace hK := ps_ifF c8 hK
      refine pm_ki d_X8_perform_22 ?_
      have hQ := ps_so hK
      exact ps_iret rfl d_X8_perform_24 ⟨_, rfl, hQ⟩
  · replace hK := ps_ifT c3 hK
    refine pm_ki d_X8_perform_7 ?_
    have hQ := ps_so hK
    exact ps_iret rfl d_X8_perform_9 ⟨_, rfl, hQ⟩
def qX8_restore (p1 : Int32) (σ : ps_S) : Option (Int32 × ps_S) :=
  ps_bd (qX8_isWithin p1 0 1 σ) (fun v1 σ2 =>
  if v1 = 0 then
  some ((-2), σ2)
  else
  if ps_in p1 2 = true then
  ps_let (σ2.1 84 (p1).toNatClampNeg) fun v4 =>
  if v4 = 0 then
  some ((-5), σ2)
  else
  if ps_in p1 2 = true then
  ps_let (273 + 27 * (p1).toNatClampNeg) fun B8 =>
  ps_bd (qX2_copyFrom 12 B8 σ2) (fun _ σ10 =>
  ps_bd (qX0_forgetLaws σ10) (fun _ σ12 =>
  if ps_in p1 2 = true then
  ps_let (282 + 27 * (p1).toNatClampNeg) fun B15 =>
  ps_bd (qX6_copyFrom 26 B15 σ12) (fun _ σ17 =>
  ps_let (ps_rI σ17 0 (upd (σ17.1 0) 11 0)) fun σ18 =>
  some (0, σ18))
  else none))
  else none
  else none)
set_option maxRecDepth 100000 in
theorem C_X8_restore {g : pm_G} (p1 : Int32) (σ : ps_S) (P : Int32 → ps_S → Prop) (hK : ps_ok (qX8_restore p1 σ) P) : ps_C g mX8_restore 4 [.ref (g.2.2.1 + 0), .int p1] σ (ps_qI P) := by
  unfold qX8_restore at hK
  refine ps_C.of (ls := [some (.ref (g.2.2.1 + 0)), some (.int p1)]) 0 (by decide) rfl (Nat.le_of_ble_eq_true rfl) rfl ?_
  refine pm_ild d_X8_restore_0 rfl ?_
  refine pm_ki d_X8_restore_1 ?_
  refine pm_ki d_X8_restore_2 ?_
  refine ps_cSI d_X8_restore_3 ms_X8_isWithin (As := [.int p1, .int 0, .int 1]) rfl rfl (ps_room.of (by omega) (by decide)) (Nat.le_of_ble_eq_true rfl) (C_X8_isWithin p1 0 1 σ _ (ps_bdE hK)) ?_
  intro v1 σ2 hT
  clear hK
  have hK := hT
  clear hT
  refine pm_if_ne d_X8_restore_6 (fun c3 => ?_) (fun c3 => ?_)
  · replace hK := ps_ifF c3 hK
    refine pm_ald d_X8_restore_12 rfl ?_
    refine ps_getR (q := 84) d_X8_restore_13 at_0 f_0_0_15 rfl ?_
    refine pm_ild d_X8_restore_16 rfl ?_
    obtain ⟨b19, hT⟩ := ps_gd hK
    replace hK := hT
    clear hT
    refine ps_zald d_X8_restore_17 at_84 a_6_4 (ps_in_of b19) rfl ?_
    refine ps_topI (fun v4 ev4 => ?_)
    replace hK := ps_ltE ev4 hK
    refine pm_if_ne d_X8_restore_18 (fun c5 => ?_) (fun c5 => ?_)
    · replace hK := ps_ifF c5 hK
      refine pm_ald d_X8_restore_24 rfl ?_
      refine ps_getR (q := 12) d_X8_restore_25 at_0 f_0_0_4 rfl ?_
      refine pm_ald d_X8_restore_28 rfl ?_
      refine ps_getR (q := 82) d_X8_restore_29 at_0 f_0_0_13 rfl ?_
      refine pm_ild d_X8_restore_32 rfl ?_
      obtain ⟨b6, hT⟩ := ps_gd hK
      replace hK := hT
      clear hT
      obtain ⟨B8, eB8⟩ : ∃ y : Nat, y = (273 + 27 * (p1).toNatClampNeg) := ⟨_, rfl⟩
      refine ps_qald7 (q := B8) d_X8_restore_33 at_82 a_6_2 (ps_in_of b6) eB8.symm ?_
      replace hK := ps_ltE eB8 hK
      have hB8 : ps_Ho B8 := by rw [eB8]; exact ps_Hoi _ (ps_in_lt b6)
      refine ps_cVV d_X8_restore_34 mv_X2_copyFrom ps_Ho12.at0 ob_2_0 rfl (As := [.ref (g.2.2.1 + B8)]) rfl rfl (ps_room.of (by omega) (by decide)) (Nat.le_of_ble_eq_true rfl) (C_X2_copyFrom 12 ps_Ho12 B8 hB8 σ2 _ (ps_bdE hK)) ?_
      intro σ10 hT
      clear hK
      have hK := hT
      clear hT
      refine pm_ald d_X8_restore_37 rfl ?_
      refine ps_getR (q := 21) d_X8_restore_38 at_0 f_0_0_5 rfl ?_
      refine ps_cVV d_X8_restore_41 mv_X0_forgetLaws at_21 ob_4_0 rfl (As := []) rfl rfl (ps_room.of (by omega) (by decide)) (Nat.le_of_ble_eq_true rfl) (C_X0_forgetLaws σ10 _ (ps_bdE hK)) ?_
      intro σ12 hT
      clear hK
      have hK := hT
      clear hT
      refine pm_ald d_X8_restore_44 rfl ?_
      refine ps_getR (q := 26) d_X8_restore_45 at_0 f_0_0_6 rfl ?_
      refine pm_ald d_X8_restore_48 rfl ?_
      refine ps_getR (q := 83) d_X8_restore_49 at_0 f_0_0_14 rfl ?_
      refine pm_ild d_X8_restore_52 rfl ?_
      obtain ⟨b13, hT⟩ := ps_gd hK
      replace hK := hT
      clear hT
      obtain ⟨B15, eB15⟩ : ∃ y : Nat, y = (282 + 27 * (p1).toNatClampNeg) := ⟨_, rfl⟩
      refine ps_qald5 (q := B15) d_X8_restore_53 at_83 a_6_3 (ps_in_of b13) eB15.symm ?_
      replace hK := ps_ltE eB15 hK
      have hB15 : ps_St B15 := by rw [eB15]; exact ps_Sti _ (ps_in_lt b13)
      refine ps_cVV d_X8_restore_54 mv_X6_copyFrom ps_St26.at0 ob_5_0 rfl (As := [.ref (g.2.2.1 + B15)]) rfl rfl (ps_room.of (by omega) (by decide)) (Nat.le_of_ble_eq_true rfl) (C_X6_copyFrom 26 ps_St26 B15 hB15 σ12 _ (ps_bdE hK)) ?_
      intro σ17 hT
      clear hK
      have hK := hT
      clear hT
      refine pm_ald d_X8_restore_57 rfl ?_
      refine pm_ki d_X8_restore_58 ?_
      refine ps_putI d_X8_restore_59 at_0 f_0_0_11 rfl rfl ?_
      refine ps_nmS (fun σ18 eσ18 => ?_)
      replace hK := ps_ltE eσ18 hK
      refine pm_ki d_X8_restore_62 ?_
      have hQ := ps_so hK
      exact ps_iret rfl d_X8_restore_63 ⟨_, rfl, hQ⟩
    · replace hK := ps_ifT c5 hK
      refine pm_ki d_X8_restore_21 ?_
      have hQ := ps_so hK
      exact ps_iret rfl d_X8_restore_23 ⟨_, rfl, hQ⟩
  · replace hK := ps_ifT c3 hK
    refine pm_ki d_X8_restore_9 ?_
    have hQ := ps_so hK
    exact ps_iret rfl d_X8_restore_11 ⟨_, rfl, hQ⟩
def qX8_set (p1 : Int32) (σ : ps_S) : Option (Int32 × ps_S) :=
  if p1 = 0 then
  ps_let (σ.1 12 0) fun v2 =>
  some (v2, σ)
  else
  if p1 = 1 then
  ps_let (σ.1 12 1) fun v4 =>
  some (v4, σ)
  else
  if p1 = 2 then
  ps_let (σ.1 12 2) fun v6 =>
  some (v6, σ)
  else
  if p1 = 3 then
  ps_let (σ.1 12 3) fun v8 =>
  some (v8, σ)
  else
  if p1 = 4 then
  ps_let (σ.1 12 4) fun v10 =>
  some (v10, σ)
  else
  if p1 = 5 then
  ps_let (σ.1 12 5) fun v12 =>
  some (v12, σ)
  else
  if p1 = 6 then
  ps_let (σ.1 12 6) fun v14 =>
  some (v14, σ)
  else
  if p1 = 7 then
  ps_bd (qX0_freeOf 26 σ) (fun v16 σ17 =>
  some (v16, σ17))
  else
  some ((-2), σ)
set_option maxRecDepth 100000 in
theorem C_X8_set {g : pm_G} (p1 : Int32) (σ : ps_S) (P : Int32 → ps_S → Prop) (hK : ps_ok (qX8_set p1 σ) P) : ps_C g mX8_set 2 [.ref (g.2.2.1 + 0), .int p1] σ (ps_qI P) := by
  unfold qX8_set at hK
  refine ps_C.of (ls := [some (.ref (g.2.2.1 + 0)), some (.int p1)]) 0 (by decide) rfl (Nat.le_of_ble_eq_true rfl) rfl ?_
  refine pm_ild d_X8_set_0 rfl ?_
  by_cases c1 : p1 = 0
  · replace hK := ps_ifT c1 hK
    refine pm_tabIn (tgt := 48) (off := 47) d_X8_set_1 (by rw [c1]; decide) (by rw [c1]; decide) (by rw [c1]; rfl) (by decide) ?_
    refine pm_ald d_X8_set_48 rfl ?_
    refine ps_getR (q := 12) d_X8_set_49 at_0 f_0_0_4 rfl ?_
    refine ps_getI d_X8_set_52 ps_Ho12.at0 f_2_0_0 rfl ?_
    refine ps_topI (fun v2 ev2 => ?_)
    replace hK := ps_ltE ev2 hK
    have hQ := ps_so hK
    exact ps_iret rfl d_X8_set_55 ⟨_, rfl, hQ⟩
  replace hK := ps_ifF c1 hK
  by_cases c3 : p1 = 1
  · replace hK := ps_ifT c3 hK
    refine pm_tabIn (tgt := 56) (off := 55) d_X8_set_1 (by rw [c3]; decide) (by rw [c3]; decide) (by rw [c3]; rfl) (by decide) ?_
    refine pm_ald d_X8_set_56 rfl ?_
    refine ps_getR (q := 12) d_X8_set_57 at_0 f_0_0_4 rfl ?_
    refine ps_getI d_X8_set_60 ps_Ho12.at0 f_2_0_1 rfl ?_
    refine ps_topI (fun v4 ev4 => ?_)
    replace hK := ps_ltE ev4 hK
    have hQ := ps_so hK
    exact ps_iret rfl d_X8_set_63 ⟨_, rfl, hQ⟩
  replace hK := ps_ifF c3 hK
  by_cases c5 : p1 = 2
  · replace hK := ps_ifT c5 hK
    refine pm_tabIn (tgt := 64) (off := 63) d_X8_set_1 (by rw [c5]; decide) (by rw [c5]; decide) (by rw [c5]; rfl) (by decide) ?_
    refine pm_ald d_X8_set_64 rfl ?_
    refine ps_getR (q := 12) d_X8_set_65 at_0 f_0_0_4 rfl ?_
    refine ps_getI d_X8_set_68 ps_Ho12.at0 f_2_0_2 rfl ?_
    refine ps_topI (fun v6 ev6 => ?_)
    replace hK := ps_ltE ev6 hK
    have hQ := ps_so hK
    exact ps_iret rfl d_X8_set_71 ⟨_, rfl, hQ⟩
  replace hK := ps_ifF c5 hK
  by_cases c7 : p1 = 3
  · replace hK := ps_ifT c7 hK
    refine pm_tabIn (tgt := 72) (off := 71) d_X8_set_1 (by rw [c7]; decide) (by rw [c7]; decide) (by rw [c7]; rfl) (by decide) ?_
    refine pm_ald d_X8_set_72 rfl ?_
    refine ps_getR (q := 12) d_X8_set_73 at_0 f_0_0_4 rfl ?_
    refine ps_getI d_X8_set_76 ps_Ho12.at0 f_2_0_3 rfl ?_
    refine ps_topI (fun v8 ev8 => ?_)
    replace hK := ps_ltE ev8 hK
    have hQ := ps_so hK
    exact ps_iret rfl d_X8_set_79 ⟨_, rfl, hQ⟩
  replace hK := ps_ifF c7 hK
  by_cases c9 : p1 = 4
  · replace hK := ps_ifT c9 hK
    refine pm_tabIn (tgt := 80) (off := 79) d_X8_set_1 (by rw [c9]; decide) (by rw [c9]; decide) (by rw [c9]; rfl) (by decide) ?_
    refine pm_ald d_X8_set_80 rfl ?_
    refine ps_getR (q := 12) d_X8_set_81 at_0 f_0_0_4 rfl ?_
    refine ps_getI d_X8_set_84 ps_Ho12.at0 f_2_0_4 rfl ?_
    refine ps_topI (fun v10 ev10 => ?_)
    replace hK := ps_ltE ev10 hK
    have hQ := ps_so hK
    exact ps_iret rfl d_X8_set_87 ⟨_, rfl, hQ⟩
  replace hK := ps_ifF c9 hK
  by_cases c11 : p1 = 5
  · replace hK := ps_ifT c11 hK
    refine pm_tabIn (tgt := 88) (off := 87) d_X8_set_1 (by rw [c11]; decide) (by rw [c11]; decide) (by rw [c11]; rfl) (by decide) ?_
    refine pm_ald d_X8_set_88 rfl ?_
    refine ps_getR (q := 12) d_X8_set_89 at_0 f_0_0_4 rfl ?_
    refine ps_getI d_X8_set_92 ps_Ho12.at0 f_2_0_5 rfl ?_
    refine ps_topI (fun v12 ev12 => ?_)
    replace hK := ps_ltE ev12 hK
    have hQ := ps_so hK
    exact ps_iret rfl d_X8_set_95 ⟨_, rfl, hQ⟩
  replace hK := ps_ifF c11 hK
  by_cases c13 : p1 = 6
  · replace hK := ps_ifT c13 hK
    refine pm_tabIn (tgt := 96) (off := 95) d_X8_set_1 (by rw [c13]; decide) (by rw [c13]; decide) (by rw [c13]; rfl) (by decide) ?_
    refine pm_ald d_X8_set_96 rfl ?_
    refine ps_getR (q := 12) d_X8_set_97 at_0 f_0_0_4 rfl ?_
    refine ps_getI d_X8_set_100 ps_Ho12.at0 f_2_0_6 rfl ?_
    refine ps_topI (fun v14 ev14 => ?_)
    replace hK := ps_ltE ev14 hK
    have hQ := ps_so hK
    exact ps_iret rfl d_X8_set_103 ⟨_, rfl, hQ⟩
  replace hK := ps_ifF c13 hK
  by_cases c15 : p1 = 7
  · replace hK := ps_ifT c15 hK
    refine pm_tabIn (tgt := 104) (off := 103) d_X8_set_1 (by rw [c15]; decide) (by rw [c15]; decide) (by rw [c15]; rfl) (by decide) ?_
    refine pm_ald d_X8_set_104 rfl ?_
    refine ps_getR (q := 21) d_X8_set_105 at_0 f_0_0_5 rfl ?_
    refine pm_ald d_X8_set_108 rfl ?_
    refine ps_getR (q := 26) d_X8_set_109 at_0 f_0_0_6 rfl ?_
    refine ps_cVI d_X8_set_112 mv_X0_freeOf at_21 ob_4_0 rfl (As := [.ref (g.2.2.1 + 26)]) rfl rfl (ps_room.of (by omega) (by decide)) (Nat.le_of_ble_eq_true rfl) (C_X0_freeOf 26 ps_St26 σ _ (ps_bdE hK)) ?_
    intro v16 σ17 hT
    clear hK
    have hK := hT
    clear hT
    have hQ := ps_so hK
    exact ps_iret rfl d_X8_set_115 ⟨_, rfl, hQ⟩
  replace hK := ps_ifF c15 hK
  refine pm_tabOut (tgt := 116) d_X8_set_1 (by decide) (ps_swout (lo := 0) (n := 8) (by decide) (by decide) (fun k hk => match k, hk with | 0, _ => c1 | 1, _ => c3 | 2, _ => c5 | 3, _ => c7 | 4, _ => c9 | 5, _ => c11 | 6, _ => c13 | 7, _ => c15 | k + 8, hk => absurd hk (by omega))) ?_
  refine pm_ki d_X8_set_116 ?_
  have hQ := ps_so hK
  exact ps_iret rfl d_X8_set_118 ⟨_, rfl, hQ⟩
def qX8_speed (p1 : Int32) (p2 : Int32) (σ : ps_S) : Option (Int32 × ps_S) :=
  ps_bd (qX8_canTellSpeed p1 p2 σ) (fun v1 σ2 =>
  if v1 = 0 then
  some ((-11), σ2)
  else
  ps_bd (qX6_copyFrom 62 26 σ2) (fun _ σ5 =>
  if ps_in p1 4 = true then
  ps_let (ps_rI σ5 (26 + 2) (upd (σ5.1 (26 + 2)) (p1).toNatClampNeg p2)) fun σ6 =>
  ps_bd (qX8_remember σ6) (fun _ σ8 =>
  if ps_in p1 4 = true then
  ps_let (σ8.1 (62 + 2) (p1).toNatClampNeg) fun v9 =>
  some (v9, σ8)
  else none)
  else none))
set_option maxRecDepth 100000 in
theorem C_X8_speed {g : pm_G} (p1 : Int32) (p2 : Int32) (σ : ps_S) (P : Int32 → ps_S → Prop) (hK : ps_ok (qX8_speed p1 p2 σ) P) : ps_C g mX8_speed 4 [.ref (g.2.2.1 + 0), .int p1, .int p2] σ (ps_qI P) := by
  unfold qX8_speed at hK
  refine ps_C.of (ls := [some (.ref (g.2.2.1 + 0)), some (.int p1), some (.int p2)]) 0 (by decide) rfl (Nat.le_of_ble_eq_true rfl) rfl ?_
  refine pm_ald d_X8_speed_0 rfl ?_
  refine pm_ild d_X8_speed_1 rfl ?_
  refine pm_ild d_X8_speed_2 rfl ?_
  refine ps_cVI d_X8_speed_3 mv_X8_canTellSpeed at_0 ob_0_0 rfl (As := [.int p1, .int p2]) rfl rfl (ps_room.of (by omega) (by decide)) (Nat.le_of_ble_eq_true rfl) (C_X8_canTellSpeed p1 p2 σ _ (ps_bdE hK)) ?_
  intro v1 σ2 hT
  clear hK
  have hK := hT
  clear hT
  refine pm_if_ne d_X8_speed_6 (fun c3 => ?_) (fun c3 => ?_)
  · replace hK := ps_ifF c3 hK
    refine pm_ald d_X8_speed_12 rfl ?_
    refine ps_getR (q := 62) d_X8_speed_13 at_0 f_0_0_8 rfl ?_
    refine pm_ald d_X8_speed_16 rfl ?_
    refine ps_getR (q := 26) d_X8_speed_17 at_0 f_0_0_6 rfl ?_
    refine ps_cVV d_X8_speed_20 mv_X6_copyFrom ps_St62.at0 ob_5_0 rfl (As := [.ref (g.2.2.1 + 26)]) rfl rfl (ps_room.of (by omega) (by decide)) (Nat.le_of_ble_eq_true rfl) (C_X6_copyFrom 62 ps_St62 26 ps_St26 σ2 _ (ps_bdE hK)) ?_
    intro σ5 hT
    clear hK
    have hK := hT
    clear hT
    refine pm_ald d_X8_speed_23 rfl ?_
    refine ps_getR (q := 26) d_X8_speed_24 at_0 f_0_0_6 rfl ?_
    refine ps_getR (q := (26 + 1)) d_X8_speed_27 ps_St26.at0 f_5_0_0 rfl ?_
    refine ps_getR (q := (26 + 2)) d_X8_speed_30 (ps_St26.at 1 (by decide)) f_5_1_0 rfl ?_
    refine pm_ild d_X8_speed_33 rfl ?_
    refine pm_ild d_X8_speed_34 rfl ?_
    obtain ⟨b11, hT⟩ := ps_gd hK
    replace hK := hT
    clear hT
    refine ps_iast d_X8_speed_35 (ps_St26.at 2 (by decide)) a_5_2 (ps_in_of b11) ?_
    refine ps_nmS (fun σ6 eσ6 => ?_)
    replace hK := ps_ltE eσ6 hK
    refine pm_ald d_X8_speed_36 rfl ?_
    refine ps_cVV d_X8_speed_37 mv_X8_remember at_0 ob_0_0 rfl (As := []) rfl rfl (ps_room.of (by omega) (by decide)) (Nat.le_of_ble_eq_true rfl) (C_X8_remember σ6 _ (ps_bdE hK)) ?_
    intro σ8 hT
    clear hK
    have hK := hT
    clear hT
    refine pm_ald d_X8_speed_40 rfl ?_
    refine ps_getR (q := 62) d_X8_speed_41 at_0 f_0_0_8 rfl ?_
    refine ps_getR (q := (62 + 1)) d_X8_speed_44 ps_St62.at0 f_5_0_0 rfl ?_
    refine ps_getR (q := (62 + 2)) d_X8_speed_47 (ps_St62.at 1 (by decide)) f_5_1_0 rfl ?_
    refine pm_ild d_X8_speed_50 rfl ?_
    obtain ⟨b10, hT⟩ := ps_gd hK
    replace hK := hT
    clear hT
    refine ps_iald d_X8_speed_51 (ps_St62.at 2 (by decide)) a_5_2 (ps_in_of b10) rfl ?_
    refine ps_topI (fun v9 ev9 => ?_)
    replace hK := ps_ltE ev9 hK
    have hQ := ps_so hK
    exact ps_iret rfl d_X8_speed_52 ⟨_, rfl, hQ⟩
  · replace hK := ps_ifT c3 hK
    refine pm_ki d_X8_speed_9 ?_
    have hQ := ps_so hK
    exact ps_iret rfl d_X8_speed_11 ⟨_, rfl, hQ⟩
def qX7_hasBelowZero_2 (B : Nat) : Nat → Int32 → ps_S → Option ((Int32 ⊕ (Int32)) × ps_S)
  | 0, _, _ => none
  | n + 1, x1, σ =>
    ps_let (σ.1 B 3) fun v1 =>
    if v1 ≤ x1 then
    some (.inr x1, σ)
    else
    if ps_in x1 40 = true then
    ps_let (σ.2.1 (B + 1) (x1).toNatClampNeg) fun v3 =>
    if 0 ≤ ((lg_cmp v3 0)) then
    ps_let (x1 + 1) fun v5 =>
    qX7_hasBelowZero_2 B n v5 σ
    else
    some (.inl 1, σ)
    else none
set_option maxRecDepth 100000 in
theorem L_X7_hasBelowZero_2 {g : pm_G} (D : Nat) (hD : 1 ≤ D) {P : Int32 → ps_S → Prop} (B : Nat) (hB : ps_Tr B) : ∀ (n : Nat) (x1 : Int32) (σ : ps_S), ps_ok (qX7_hasBelowZero_2 B n x1 σ) (fun res σ => match res with | .inl r => P r σ | .inr x1 => pm_W g mX7_hasBelowZero (ps_F g D (ps_qI P)) 0 0 29 [some (.ref (g.2.2.1 + B)), some (.int x1)] [] 345 (ps_E g σ)) → pm_W g mX7_hasBelowZero (ps_F g D (ps_qI P)) 0 0 2 [some (.ref (g.2.2.1 + B)), some (.int x1)] [] 345 (ps_E g σ) := by
  intro n
  induction n with
  | zero => intro x1 σ hK; exact (ps_no hK).elim
  | succ n ih =>
    intro x1 σ hK
    rw [qX7_hasBelowZero_2] at hK
    refine pm_ild d_X7_hasBelowZero_2 rfl ?_
    refine pm_ald d_X7_hasBelowZero_3 rfl ?_
    refine ps_getI d_X7_hasBelowZero_4 hB.at0 f_7_0_3 rfl ?_
    refine ps_topI (fun v1 ev1 => ?_)
    replace hK := ps_ltE ev1 hK
    refine pm_icmp_ge d_X7_hasBelowZero_7 (fun c2 => ?_) (fun c2 => ?_)
    · replace hK := ps_ifT c2 hK
      exact ps_so hK
    · replace hK := ps_ifF c2 hK
      refine pm_ald d_X7_hasBelowZero_10 rfl ?_
      refine ps_getR (q := (B + 1)) d_X7_hasBelowZero_11 hB.at0 f_7_0_0 rfl ?_
      refine pm_ild d_X7_hasBelowZero_14 rfl ?_
      obtain ⟨b6, hT⟩ := ps_gd hK
      replace hK := hT
      clear hT
      refine ps_lald d_X7_hasBelowZero_15 (hB.at 1 (by decide)) a_7_1 (ps_in_of b6) rfl ?_
      refine ps_topL (fun v3 ev3 => ?_)
      replace hK := ps_ltE ev3 hK
      refine pm_kl d_X7_hasBelowZero_16 ?_
      refine pm_lcmp d_X7_hasBelowZero_17 ?_
      refine pm_if_ge d_X7_hasBelowZero_18 (fun c4 => ?_) (fun c4 => ?_)
      · replace hK := ps_ifT c4 hK
        refine pm_inc1 d_X7_hasBelowZero_23 rfl ?_
        obtain ⟨v5, ev5⟩ : ∃ y : Int32, y = x1 + 1 := ⟨_, rfl⟩
        rw [← ev5]
        replace hK := ps_ltE ev5 hK
        refine pm_goto d_X7_hasBelowZero_26 ?_
        exact ih _ _ hK
      · replace hK := ps_ifF c4 hK
        refine pm_ki d_X7_hasBelowZero_21 ?_
        have hQ := ps_so hK
        exact ps_zret rfl rfl d_X7_hasBelowZero_22 ⟨_, rfl, hQ⟩
def qX7_hasBelowZero (B : Nat) (σ : ps_S) : Option (Int32 × ps_S) :=
  ps_bd (qX7_hasBelowZero_2 B ps_N 0 σ) (fun res σ7 => match res with
  | .inl r => some (r, σ7)
  | .inr v8 =>
    some (0, σ7))
set_option maxRecDepth 100000 in
theorem C_X7_hasBelowZero {g : pm_G} (B : Nat) (hB : ps_Tr B) (σ : ps_S) (P : Int32 → ps_S → Prop) (hK : ps_ok (qX7_hasBelowZero B σ) P) : ps_C g mX7_hasBelowZero 1 [.ref (g.2.2.1 + B)] σ (ps_qI P) := by
  unfold qX7_hasBelowZero at hK
  refine ps_C.of (ls := [some (.ref (g.2.2.1 + B)), none]) 1 (by decide) rfl (Nat.le_of_ble_eq_true rfl) rfl ?_
  refine pm_ki d_X7_hasBelowZero_0 ?_
  refine pm_ist1 d_X7_hasBelowZero_1 rfl (by decide) ?_
  refine L_X7_hasBelowZero_2 _ (by decide) B hB _ _ _ (ps_ok.mono (ps_bdE hK) ?_)
  intro res σ7 hT
  clear hK
  match res, hT with
  | .inl r, hT => exact ps_so hT
  | .inr v8, hT =>
    have hK := hT
    clear hT
    refine pm_ki d_X7_hasBelowZero_29 ?_
    have hQ := ps_so hK
    exact ps_zret rfl rfl d_X7_hasBelowZero_30 ⟨_, rfl, hQ⟩
def qX8_fits_35 (B1 : Nat) (y2 : Int32) (y3 : Int32) : Nat → Int32 → ps_S → Option ((Int32 ⊕ (Int32)) × ps_S)
  | 0, _, _ => none
  | n + 1, x4, σ =>
    ps_let (σ.1 B1 3) fun v5 =>
    if v5 ≤ x4 then
    some (.inr x4, σ)
    else
    ps_bd (qX8_wroteInSpan y2 σ) (fun v7 σ8 =>
    if ps_in x4 40 = true then
    ps_let (σ8.2.1 (B1 + 1) (x4).toNatClampNeg) fun v9 =>
    if ((lg_cmp (((v7).toInt64)) v9)) = 0 then
    ps_let (x4 + 1) fun v11 =>
    qX8_fits_35 B1 y2 y3 n v11 σ8
    else
    some (.inl 0, σ8)
    else none)
set_option maxRecDepth 100000 in
theorem L_X8_fits_35 {g : pm_G} (D : Nat) (hD : 7 ≤ D) {P : Int32 → ps_S → Prop} (B1 : Nat) (hB1 : ps_Tr B1) (y2 : Int32) (y3 : Int32) : ∀ (n : Nat) (x4 : Int32) (σ : ps_S), ps_ok (qX8_fits_35 B1 y2 y3 n x4 σ) (fun res σ => match res with | .inl r => P r σ | .inr x4 => pm_W g mX8_fits (ps_F g D (ps_qI P)) 0 0 69 [some (.ref (g.2.2.1 + 0)), some (.ref (g.2.2.1 + B1)), some (.int y2), some (.int y3), some (.int x4)] [] 345 (ps_E g σ)) → pm_W g mX8_fits (ps_F g D (ps_qI P)) 0 0 35 [some (.ref (g.2.2.1 + 0)), some (.ref (g.2.2.1 + B1)), some (.int y2), some (.int y3), some (.int x4)] [] 345 (ps_E g σ) := by
  intro n
  induction n with
  | zero => intro x4 σ hK; exact (ps_no hK).elim
  | succ n ih =>
    intro x4 σ hK
    rw [qX8_fits_35] at hK
    refine pm_ild d_X8_fits_35 rfl ?_
    refine pm_ald d_X8_fits_37 rfl ?_
    refine ps_getI d_X8_fits_38 hB1.at0 f_7_0_3 rfl ?_
    refine ps_topI (fun v5 ev5 => ?_)
    replace hK := ps_ltE ev5 hK
    refine pm_icmp_ge d_X8_fits_41 (fun c6 => ?_) (fun c6 => ?_)
    · replace hK := ps_ifT c6 hK
      exact ps_so hK
    · replace hK := ps_ifF c6 hK
      refine pm_ald d_X8_fits_44 rfl ?_
      refine pm_ild d_X8_fits_45 rfl ?_
      refine ps_cVI d_X8_fits_46 mv_X8_wroteInSpan at_0 ob_0_0 rfl (As := [.int y2]) rfl rfl (ps_room.of (by omega) (by decide)) (Nat.le_of_ble_eq_true rfl) (C_X8_wroteInSpan y2 σ _ (ps_bdE hK)) ?_
      intro v7 σ8 hT
      clear hK
      have hK := hT
      clear hT
      refine pm_i2l d_X8_fits_49 ?_
      refine pm_ald d_X8_fits_50 rfl ?_
      refine ps_getR (q := (B1 + 1)) d_X8_fits_51 hB1.at0 f_7_0_0 rfl ?_
      refine pm_ild d_X8_fits_54 rfl ?_
      obtain ⟨b12, hT⟩ := ps_gd hK
      replace hK := hT
      clear hT
      refine ps_lald d_X8_fits_56 (hB1.at 1 (by decide)) a_7_1 (ps_in_of b12) rfl ?_
      refine ps_topL (fun v9 ev9 => ?_)
      replace hK := ps_ltE ev9 hK
      refine pm_lcmp d_X8_fits_57 ?_
      refine pm_if_eq d_X8_fits_58 (fun c10 => ?_) (fun c10 => ?_)
      · replace hK := ps_ifT c10 hK
        refine pm_inc4 d_X8_fits_63 rfl ?_
        obtain ⟨v11, ev11⟩ : ∃ y : Int32, y = x4 + 1 := ⟨_, rfl⟩
        rw [← ev11]
        replace hK := ps_ltE ev11 hK
        refine pm_goto d_X8_fits_66 ?_
        exact ih _ _ hK
      · replace hK := ps_ifF c10 hK
        refine pm_ki d_X8_fits_61 ?_
        have hQ := ps_so hK
        exact ps_zret rfl rfl d_X8_fits_62 ⟨_, rfl, hQ⟩
def qX8_fits (B1 : Nat) (p2 : Int32) (p3 : Int32) (σ : ps_S) : Option (Int32 × ps_S) :=
  ps_bd (qX6_copyFrom 44 26 σ) (fun _ σ2 =>
  if ps_in p2 4 = true then
  ps_let (ps_rI σ2 (44 + 2) (upd (σ2.1 (44 + 2)) (p2).toNatClampNeg p3)) fun σ3 =>
  ps_let (ps_rI σ3 44 (upd (σ3.1 44) 12 p2)) fun σ4 =>
  ps_bd (qX8_fits_35 B1 p2 p3 ps_N 0 σ4) (fun res σ13 => match res with
  | .inl r => some (r, σ13)
  | .inr v14 =>
    some (1, σ13))
  else none)
set_option maxRecDepth 100000 in
theorem C_X8_fits {g : pm_G} (B1 : Nat) (hB1 : ps_Tr B1) (p2 : Int32) (p3 : Int32) (σ : ps_S) (P : Int32 → ps_S → Prop) (hK : ps_ok (qX8_fits B1 p2 p3 σ) P) : ps_C g mX8_fits 7 [.ref (g.2.2.1 + 0), .ref (g.2.2.1 + B1), .int p2, .int p3] σ (ps_qI P) := by
  unfold qX8_fits at hK
  refine ps_C.of (ls := [some (.ref (g.2.2.1 + 0)), some (.ref (g.2.2.1 + B1)), some (.int p2), some (.int p3), none]) 1 (by decide) rfl (Nat.le_of_ble_eq_true rfl) rfl ?_
  refine pm_ald d_X8_fits_0 rfl ?_
  refine ps_getR (q := 44) d_X8_fits_1 at_0 f_0_0_7 rfl ?_
  refine pm_ald d_X8_fits_4 rfl ?_
  refine ps_getR (q := 26) d_X8_fits_5 at_0 f_0_0_6 rfl ?_
  refine ps_cVV d_X8_fits_8 mv_X6_copyFrom ps_St44.at0 ob_5_0 rfl (As := [.ref (g.2.2.1 + 26)]) rfl rfl (ps_room.of (by omega) (by decide)) (Nat.le_of_ble_eq_true rfl) (C_X6_copyFrom 44 ps_St44 26 ps_St26 σ _ (ps_bdE hK)) ?_
  intro σ2 hT
  clear hK
  have hK := hT
  clear hT
  refine pm_ald d_X8_fits_11 rfl ?_
  refine ps_getR (q := 44) d_X8_fits_12 at_0 f_0_0_7 rfl ?_
  refine ps_getR (q := (44 + 1)) d_X8_fits_15 ps_St44.at0 f_5_0_0 rfl ?_
  refine ps_getR (q := (44 + 2)) d_X8_fits_18 (ps_St44.at 1 (by decide)) f_5_1_0 rfl ?_
  refine pm_ild d_X8_fits_21 rfl ?_
  refine pm_ild d_X8_fits_22 rfl ?_
  obtain ⟨b15, hT⟩ := ps_gd hK
  replace hK := hT
  clear hT
  refine ps_iast d_X8_fits_23 (ps_St44.at 2 (by decide)) a_5_2 (ps_in_of b15) ?_
  refine ps_nmS (fun σ3 eσ3 => ?_)
  replace hK := ps_ltE eσ3 hK
  refine pm_ald d_X8_fits_24 rfl ?_
  refine ps_getR (q := 44) d_X8_fits_25 at_0 f_0_0_7 rfl ?_
  refine pm_ild d_X8_fits_28 rfl ?_
  refine ps_putI d_X8_fits_29 ps_St44.at0 f_5_0_12 rfl rfl ?_
  refine ps_nmS (fun σ4 eσ4 => ?_)
  replace hK := ps_ltE eσ4 hK
  refine pm_ki d_X8_fits_32 ?_
  refine pm_ist4 d_X8_fits_33 rfl (by decide) ?_
  refine L_X8_fits_35 _ (by decide) B1 hB1 p2 p3 _ _ _ (ps_ok.mono (ps_bdE hK) ?_)
  intro res σ13 hT
  clear hK
  match res, hT with
  | .inl r, hT => exact ps_so hT
  | .inr v14, hT =>
    have hK := hT
    clear hT
    refine pm_ki d_X8_fits_69 ?_
    have hQ := ps_so hK
    exact ps_zret rfl rfl d_X8_fits_70 ⟨_, rfl, hQ⟩
