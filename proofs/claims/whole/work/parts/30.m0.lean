def qX1_copyFrom (B : Nat) (B1 : Nat) (σ : ps_S) : Option (Unit × ps_S) :=
  ps_let (ps_rI σ (B + 2) (va_cpy (σ.1 (B1 + 2)) (σ.1 (B + 2)) 0 0 4)) fun σ1 =>
  ps_let (ps_rI σ1 (B + 3) (va_cpy (σ1.1 (B1 + 3)) (σ1.1 (B + 3)) 0 0 4)) fun σ2 =>
  ps_let (ps_rI σ2 (B + 4) (va_cpy (σ2.1 (B1 + 4)) (σ2.1 (B + 4)) 0 0 4)) fun σ3 =>
  ps_let (ps_rI σ3 (B + 5) (va_cpy (σ3.1 (B1 + 5)) (σ3.1 (B + 5)) 0 0 4)) fun σ4 =>
  ps_let (ps_rD σ4 (B + 6) (va_cpy (σ4.2.2 (B1 + 6)) (σ4.2.2 (B + 6)) 0 0 4)) fun σ5 =>
  ps_let (ps_rI σ5 (B + 7) (va_cpy (σ5.1 (B1 + 7)) (σ5.1 (B + 7)) 0 0 4)) fun σ6 =>
  ps_let (ps_rI σ6 (B + 8) (va_cpy (σ6.1 (B1 + 8)) (σ6.1 (B + 8)) 0 0 4)) fun σ7 =>
  ps_let (ps_rI σ7 (B + 9) (va_cpy (σ7.1 (B1 + 9)) (σ7.1 (B + 9)) 0 0 4)) fun σ8 =>
  ps_let (ps_rI σ8 (B + 10) (va_cpy (σ8.1 (B1 + 10)) (σ8.1 (B + 10)) 0 0 4)) fun σ9 =>
  some ((), σ9)
set_option maxRecDepth 100000 in
theorem C_X1_copyFrom {g : pm_G} (B : Nat) (hB : ps_St B) (B1 : Nat) (hB1 : ps_St B1) (σ : ps_S) (P : Unit → ps_S → Prop) (hK : ps_ok (qX1_copyFrom B B1 σ) P) : ps_C g mX1_copyFrom 1 [.ref (g.2.2.1 + (B + 1)), .ref (g.2.2.1 + (B1 + 1))] σ (ps_qV P) := by
  unfold qX1_copyFrom at hK
  refine ps_C.of (ls := [some (.ref (g.2.2.1 + (B + 1))), some (.ref (g.2.2.1 + (B1 + 1)))]) 0 (by decide) rfl (Nat.le_of_ble_eq_true rfl) rfl ?_
  refine pm_ald d_X1_copyFrom_0 rfl ?_
  refine ps_getR (q := (B1 + 2)) d_X1_copyFrom_1 (hB1.at 1 (by decide)) f_5_1_0 rfl ?_
  refine pm_ki d_X1_copyFrom_4 ?_
  refine pm_ald d_X1_copyFrom_5 rfl ?_
  refine ps_getR (q := (B + 2)) d_X1_copyFrom_6 (hB.at 1 (by decide)) f_5_1_0 rfl ?_
  refine pm_ki d_X1_copyFrom_9 ?_
  refine pm_ki d_X1_copyFrom_10 ?_
  refine ps_copyi d_X1_copyFrom_11 (hB1.at 2 (by decide)) (hB.at 2 (by decide)) a_5_2 a_5_2 (by decide) (by decide) (by decide) (by decide) (by decide) (ps_roomC (by omega)) (Nat.le_of_ble_eq_true rfl) ?_
  refine ps_nmS (fun σ1 eσ1 => ?_)
  replace hK := ps_ltE eσ1 hK
  refine pm_ald d_X1_copyFrom_14 rfl ?_
  refine ps_getR (q := (B1 + 3)) d_X1_copyFrom_15 (hB1.at 1 (by decide)) f_5_1_1 rfl ?_
  refine pm_ki d_X1_copyFrom_18 ?_
  refine pm_ald d_X1_copyFrom_19 rfl ?_
  refine ps_getR (q := (B + 3)) d_X1_copyFrom_20 (hB.at 1 (by decide)) f_5_1_1 rfl ?_
  refine pm_ki d_X1_copyFrom_23 ?_
  refine pm_ki d_X1_copyFrom_24 ?_
  refine ps_copyi d_X1_copyFrom_25 (hB1.at 3 (by decide)) (hB.at 3 (by decide)) a_5_3 a_5_3 (by decide) (by decide) (by decide) (by decide) (by decide) (ps_roomC (by omega)) (Nat.le_of_ble_eq_true rfl) ?_
  refine ps_nmS (fun σ2 eσ2 => ?_)
  replace hK := ps_ltE eσ2 hK
  refine pm_ald d_X1_copyFrom_28 rfl ?_
  refine ps_getR (q := (B1 + 4)) d_X1_copyFrom_29 (hB1.at 1 (by decide)) f_5_1_2 rfl ?_
  refine pm_ki d_X1_copyFrom_32 ?_
  refine pm_ald d_X1_copyFrom_33 rfl ?_
  refine ps_getR (q := (B + 4)) d_X1_copyFrom_34 (hB.at 1 (by decide)) f_5_1_2 rfl ?_
  refine pm_ki d_X1_copyFrom_37 ?_
  refine pm_ki d_X1_copyFrom_38 ?_
  refine ps_copyi d_X1_copyFrom_39 (hB1.at 4 (by decide)) (hB.at 4 (by decide)) a_5_4 a_5_4 (by decide) (by decide) (by decide) (by decide) (by decide) (ps_roomC (by omega)) (Nat.le_of_ble_eq_true rfl) ?_
  refine ps_nmS (fun σ3 eσ3 => ?_)
  replace hK := ps_ltE eσ3 hK
  refine pm_ald d_X1_copyFrom_42 rfl ?_
  refine ps_getR (q := (B1 + 5)) d_X1_copyFrom_43 (hB1.at 1 (by decide)) f_5_1_3 rfl ?_
  refine pm_ki d_X1_copyFrom_46 ?_
  refine pm_ald d_X1_copyFrom_47 rfl ?_
  refine ps_getR (q := (B + 5)) d_X1_copyFrom_48 (hB.at 1 (by decide)) f_5_1_3 rfl ?_
  refine pm_ki d_X1_copyFrom_51 ?_
  refine pm_ki d_X1_copyFrom_52 ?_
  refine ps_copyi d_X1_copyFrom_53 (hB1.at 5 (by decide)) (hB.at 5 (by decide)) a_5_5 a_5_5 (by decide) (by decide) (by decide) (by decide) (by decide) (ps_roomC (by omega)) (Nat.le_of_ble_eq_true rfl) ?_
  refine ps_nmS (fun σ4 eσ4 => ?_)
  replace hK := ps_ltE eσ4 hK
  refine pm_ald d_X1_copyFrom_56 rfl ?_
  refine ps_getR (q := (B1 + 6)) d_X1_copyFrom_57 (hB1.at 1 (by decide)) f_5_1_4 rfl ?_
  refine pm_ki d_X1_copyFrom_60 ?_
  refine pm_ald d_X1_copyFrom_61 rfl ?_
  refine ps_getR (q := (B + 6)) d_X1_copyFrom_62 (hB.at 1 (by decide)) f_5_1_4 rfl ?_
  refine pm_ki d_X1_copyFrom_65 ?_
  refine pm_ki d_X1_copyFrom_66 ?_
  refine ps_copyd d_X1_copyFrom_67 (hB1.at 6 (by decide)) (hB.at 6 (by decide)) a_5_6 a_5_6 (by decide) (by decide) (by decide) (by decide) (by decide) (ps_roomC (by omega)) (Nat.le_of_ble_eq_true rfl) ?_
  refine ps_nmS (fun σ5 eσ5 => ?_)
  replace hK := ps_ltE eσ5 hK
  refine pm_ald d_X1_copyFrom_70 rfl ?_
  refine ps_getR (q := (B1 + 7)) d_X1_copyFrom_71 (hB1.at 1 (by decide)) f_5_1_5 rfl ?_
  refine pm_ki d_X1_copyFrom_74 ?_
  refine pm_ald d_X1_copyFrom_75 rfl ?_
  refine ps_getR (q := (B + 7)) d_X1_copyFrom_76 (hB.at 1 (by decide)) f_5_1_5 rfl ?_
  refine pm_ki d_X1_copyFrom_79 ?_
  refine pm_ki d_X1_copyFrom_80 ?_
  refine ps_copyi d_X1_copyFrom_81 (hB1.at 7 (by decide)) (hB.at 7 (by decide)) a_5_7 a_5_7 (by decide) (by decide) (by decide) (by decide) (by decide) (ps_roomC (by omega)) (Nat.le_of_ble_eq_true rfl) ?_
  refine ps_nmS (fun σ6 eσ6 => ?_)
  replace hK := ps_ltE eσ6 hK
  refine pm_ald d_X1_copyFrom_84 rfl ?_
  refine ps_getR (q := (B1 + 8)) d_X1_copyFrom_85 (hB1.at 1 (by decide)) f_5_1_6 rfl ?_
  refine pm_ki d_X1_copyFrom_88 ?_
  refine pm_ald d_X1_copyFrom_89 rfl ?_
  refine ps_getR (q := (B + 8)) d_X1_copyFrom_90 (hB.at 1 (by decide)) f_5_1_6 rfl ?_
  refine pm_ki d_X1_copyFrom_93 ?_
  refine pm_ki d_X1_copyFrom_94 ?_
  refine ps_copyi d_X1_copyFrom_95 (hB1.at 8 (by decide)) (hB.at 8 (by decide)) a_5_8 a_5_8 (by decide) (by decide) (by decide) (by decide) (by decide) (ps_roomC (by omega)) (Nat.le_of_ble_eq_true rfl) ?_
  refine ps_nmS (fun σ7 eσ7 => ?_)
  replace hK := ps_ltE eσ7 hK
  refine pm_ald d_X1_copyFrom_98 rfl ?_
  refine ps_getR (q := (B1 + 9)) d_X1_copyFrom_99 (hB1.at 1 (by decide)) f_5_1_7 rfl ?_
  refine pm_ki d_X1_copyFrom_102 ?_
  refine pm_ald d_X1_copyFrom_103 rfl ?_
  refine ps_getR (q := (B + 9)) d_X1_copyFrom_104 (hB.at 1 (by decide)) f_5_1_7 rfl ?_
  refine pm_ki d_X1_copyFrom_107 ?_
  refine pm_ki d_X1_copyFrom_108 ?_
  refine ps_copyi d_X1_copyFrom_109 (hB1.at 9 (by decide)) (hB.at 9 (by decide)) a_5_9 a_5_9 (by decide) (by decide) (by decide) (by decide) (by decide) (ps_roomC (by omega)) (Nat.le_of_ble_eq_true rfl) ?_
  refine ps_nmS (fun σ8 eσ8 => ?_)
  replace hK := ps_ltE eσ8 hK
  refine pm_ald d_X1_copyFrom_112 rfl ?_
  refine ps_getR (q := (B1 + 10)) d_X1_copyFrom_113 (hB1.at 1 (by decide)) f_5_1_8 rfl ?_
  refine pm_ki d_X1_copyFrom_116 ?_
  refine pm_ald d_X1_copyFrom_117 rfl ?_
  refine ps_getR (q := (B + 10)) d_X1_copyFrom_118 (hB.at 1 (by decide)) f_5_1_8 rfl ?_
  refine pm_ki d_X1_copyFrom_121 ?_
  refine pm_ki d_X1_copyFrom_122 ?_
  refine ps_copyi d_X1_copyFrom_123 (hB1.at 10 (by decide)) (hB.at 10 (by decide)) a_5_10 a_5_10 (by decide) (by decide) (by decide) (by decide) (by decide) (ps_roomC (by omega)) (Nat.le_of_ble_eq_true rfl) ?_
  refine ps_nmS (fun σ9 eσ9 => ?_)
  replace hK := ps_ltE eσ9 hK
  have hQ := ps_so hK
  exact ps_vret rfl d_X1_copyFrom_126 ⟨rfl, hQ⟩
def qX6_copyFrom (B : Nat) (B1 : Nat) (σ : ps_S) : Option (Unit × ps_S) :=
  ps_bd (qX1_copyFrom B B1 σ) (fun _ σ2 =>
  ps_let (ps_rI σ2 (B + 11) (va_cpy (σ2.1 (B1 + 11)) (σ2.1 (B + 11)) 0 0 12)) fun σ3 =>
  ps_let (ps_rI σ3 (B + 12) (va_cpy (σ3.1 (B1 + 12)) (σ3.1 (B + 12)) 0 0 12)) fun σ4 =>
  ps_let (ps_rI σ4 (B + 13) (va_cpy (σ4.1 (B1 + 13)) (σ4.1 (B + 13)) 0 0 6)) fun σ5 =>
  ps_let (ps_rI σ5 (B + 14) (va_cpy (σ5.1 (B1 + 14)) (σ5.1 (B + 14)) 0 0 6)) fun σ6 =>
  ps_let (ps_rI σ6 (B + 15) (va_cpy (σ6.1 (B1 + 15)) (σ6.1 (B + 15)) 0 0 6)) fun σ7 =>
  ps_let (ps_rI σ7 (B + 16) (va_cpy (σ7.1 (B1 + 16)) (σ7.1 (B + 16)) 0 0 6)) fun σ8 =>
  ps_let (ps_rI σ8 (B + 17) (va_cpy (σ8.1 (B1 + 17)) (σ8.1 (B + 17)) 0 0 6)) fun σ9 =>
  ps_let (σ9.1 B1 8) fun v10 =>
  ps_let (ps_rI σ9 B (upd (σ9.1 B) 8 v10)) fun σ11 =>
  ps_let (σ11.1 B1 9) fun v12 =>
  ps_let (ps_rI σ11 B (upd (σ11.1 B) 9 v12)) fun σ13 =>
  ps_let (σ13.1 B1 10) fun v14 =>
  ps_let (ps_rI σ13 B (upd (σ13.1 B) 10 v14)) fun σ15 =>
  ps_let (σ15.1 B1 11) fun v16 =>
  ps_let (ps_rI σ15 B (upd (σ15.1 B) 11 v16)) fun σ17 =>
  ps_let (σ17.1 B1 12) fun v18 =>
  ps_let (ps_rI σ17 B (upd (σ17.1 B) 12 v18)) fun σ19 =>
  ps_let (σ19.1 B1 13) fun v20 =>
  if ps_b01 v20 = true then
  ps_let (ps_rI σ19 B (upd (σ19.1 B) 13 v20)) fun σ21 =>
  some ((), σ21)
  else none)
set_option maxRecDepth 100000 in
theorem C_X6_copyFrom {g : pm_G} (B : Nat) (hB : ps_St B) (B1 : Nat) (hB1 : ps_St B1) (σ : ps_S) (P : Unit → ps_S → Prop) (hK : ps_ok (qX6_copyFrom B B1 σ) P) : ps_C g mX6_copyFrom 2 [.ref (g.2.2.1 + B), .ref (g.2.2.1 + B1)] σ (ps_qV P) := by
  unfold qX6_copyFrom at hK
  refine ps_C.of (ls := [some (.ref (g.2.2.1 + B)), some (.ref (g.2.2.1 + B1))]) 0 (by decide) rfl (Nat.le_of_ble_eq_true rfl) rfl ?_
  refine pm_ald d_X6_copyFrom_0 rfl ?_
  refine ps_getR (q := (B + 1)) d_X6_copyFrom_1 hB.at0 f_5_0_0 rfl ?_
  refine pm_ald d_X6_copyFrom_4 rfl ?_
  refine ps_getR (q := (B1 + 1)) d_X6_copyFrom_5 hB1.at0 f_5_0_0 rfl ?_
  refine ps_cVV d_X6_copyFrom_8 mv_X1_copyFrom (hB.at 1 (by decide)) ob_5_1 rfl (As := [.ref (g.2.2.1 + (B1 + 1))]) rfl rfl (ps_room.of (by omega) (by decide)) (Nat.le_of_ble_eq_true rfl) (C_X1_copyFrom B hB B1 hB1 σ _ (ps_bdE hK)) ?_
  intro σ2 hT
  clear hK
  have hK := hT
  clear hT
  refine pm_ald d_X6_copyFrom_11 rfl ?_
  refine ps_getR (q := (B1 + 11)) d_X6_copyFrom_12 hB1.at0 f_5_0_1 rfl ?_
  refine pm_ki d_X6_copyFrom_15 ?_
  refine pm_ald d_X6_copyFrom_16 rfl ?_
  refine ps_getR (q := (B + 11)) d_X6_copyFrom_17 hB.at0 f_5_0_1 rfl ?_
  refine pm_ki d_X6_copyFrom_20 ?_
  refine pm_ki d_X6_copyFrom_21 ?_
  refine ps_copyi d_X6_copyFrom_23 (hB1.at 11 (by decide)) (hB.at 11 (by decide)) a_5_11 a_5_11 (by decide) (by decide) (by decide) (by decide) (by decide) (ps_roomC (by omega)) (Nat.le_of_ble_eq_true rfl) ?_
  refine ps_nmS (fun σ3 eσ3 => ?_)
  replace hK := ps_ltE eσ3 hK
  refine pm_ald d_X6_copyFrom_26 rfl ?_
  refine ps_getR (q := (B1 + 12)) d_X6_copyFrom_27 hB1.at0 f_5_0_2 rfl ?_
  refine pm_ki d_X6_copyFrom_30 ?_
  refine pm_ald d_X6_copyFrom_31 rfl ?_
  refine ps_getR (q := (B + 12)) d_X6_copyFrom_32 hB.at0 f_5_0_2 rfl ?_
  refine pm_ki d_X6_copyFrom_35 ?_
  refine pm_ki d_X6_copyFrom_36 ?_
  refine ps_copyi d_X6_copyFrom_38 (hB1.at 12 (by decide)) (hB.at 12 (by decide)) a_5_12 a_5_12 (by decide) (by decide) (by decide) (by decide) (by decide) (ps_roomC (by omega)) (Nat.le_of_ble_eq_true rfl) ?_
  refine ps_nmS (fun σ4 eσ4 => ?_)
  replace hK := ps_ltE eσ4 hK
  refine pm_ald d_X6_copyFrom_41 rfl ?_
  refine ps_getR (q := (B1 + 13)) d_X6_copyFrom_42 hB1.at0 f_5_0_3 rfl ?_
  refine pm_ki d_X6_copyFrom_45 ?_
  refine pm_ald d_X6_copyFrom_46 rfl ?_
  refine ps_getR (q := (B + 13)) d_X6_copyFrom_47 hB.at0 f_5_0_3 rfl ?_
  refine pm_ki d_X6_copyFrom_50 ?_
  refine pm_ki d_X6_copyFrom_51 ?_
  refine ps_copyi d_X6_copyFrom_53 (hB1.at 13 (by decide)) (hB.at 13 (by decide)) a_5_13 a_5_13 (by decide) (by decide) (by decide) (by decide) (by decide) (ps_roomC (by omega)) (Nat.le_of_ble_eq_true rfl) ?_
  refine ps_nmS (fun σ5 eσ5 => ?_)
  replace hK := ps_ltE eσ5 hK
  refine pm_ald d_X6_copyFrom_56 rfl ?_
  refine ps_getR (q := (B1 + 14)) d_X6_copyFrom_57 hB1.at0 f_5_0_4 rfl ?_
  refine pm_ki d_X6_copyFrom_60 ?_
  refine pm_ald d_X6_copyFrom_61 rfl ?_
  refine ps_getR (q := (B + 14)) d_X6_copyFrom_62 hB.at0 f_5_0_4 rfl ?_
  refine pm_ki d_X6_copyFrom_65 ?_
  refine pm_ki d_X6_copyFrom_66 ?_
  refine ps_copyi d_X6_copyFrom_68 (hB1.at 14 (by decide)) (hB.at 14 (by decide)) a_5_14 a_5_14 (by decide) (by decide) (by decide) (by decide) (by decide) (ps_roomC (by omega)) (Nat.le_of_ble_eq_true rfl) ?_
  refine ps_nmS (fun σ6 eσ6 => ?_)
  replace hK := ps_ltE eσ6 hK
  refine pm_ald d_X6_copyFrom_71 rfl ?_
  refine ps_getR (q := (B1 + 15)) d_X6_copyFrom_72 hB1.at0 f_5_0_5 rfl ?_
  refine pm_ki d_X6_copyFrom_75 ?_
  refine pm_ald d_X6_copyFrom_76 rfl ?_
  refine ps_getR (q := (B + 15)) d_X6_copyFrom_77 hB.at0 f_5_0_5 rfl ?_
  refine pm_ki d_X6_copyFrom_80 ?_
  refine pm_ki d_X6_copyFrom_81 ?_
  refine ps_copyi d_X6_copyFrom_83 (hB1.at 15 (by decide)) (hB.at 15 (by decide)) a_5_15 a_5_15 (by decide) (by decide) (by decide) (by decide) (by decide) (ps_roomC (by omega)) (Nat.le_of_ble_eq_true rfl) ?_
  refine ps_nmS (fun σ7 eσ7 => ?_)
  replace hK := ps_ltE eσ7 hK
  refine pm_ald d_X6_copyFrom_86 rfl ?_
  refine ps_getR (q := (B1 + 16)) d_X6_copyFrom_87 hB1.at0 f_5_0_6 rfl ?_
  refine pm_ki d_X6_copyFrom_90 ?_
  refine pm_ald d_X6_copyFrom_91 rfl ?_
  refine ps_getR (q := (B + 16)) d_X6_copyFrom_92 hB.at0 f_5_0_6 rfl ?_
  refine pm_ki d_X6_copyFrom_95 ?_
  refine pm_ki d_X6_copyFrom_96 ?_
  refine ps_copyi d_X6_copyFrom_98 (hB1.at 16 (by decide)) (hB.at 16 (by decide)) a_5_16 a_5_16 (by decide) (by decide) (by decide) (by decide) (by decide) (ps_roomC (by omega)) (Nat.le_of_ble_eq_true rfl) ?_
  refine ps_nmS (fun σ8 eσ8 => ?_)
  replace hK := ps_ltE eσ8 hK
  refine pm_ald d_X6_copyFrom_101 rfl ?_
  refine ps_getR (q := (B1 + 17)) d_X6_copyFrom_102 hB1.at0 f_5_0_7 rfl ?_
  refine pm_ki d_X6_copyFrom_105 ?_
  refine pm_ald d_X6_copyFrom_106 rfl ?_
  refine ps_getR (q := (B + 17)) d_X6_copyFrom_107 hB.at0 f_5_0_7 rfl ?_
  refine pm_ki d_X6_copyFrom_110 ?_
  refine pm_ki d_X6_copyFrom_111 ?_
  refine ps_copyi d_X6_copyFrom_113 (hB1.at 17 (by decide)) (hB.at 17 (by decide)) a_5_17 a_5_17 (by decide) (by decide) (by decide) (by decide) (by decide) (ps_roomC (by omega)) (Nat.le_of_ble_eq_true rfl) ?_
  refine ps_nmS (fun σ9 eσ9 => ?_)
  replace hK := ps_ltE eσ9 hK
  refine pm_ald d_X6_copyFrom_116 rfl ?_
  refine pm_ald d_X6_copyFrom_117 rfl ?_
  refine ps_getI d_X6_copyFrom_118 hB1.at0 f_5_0_8 rfl ?_
  refine ps_topI (fun v10 ev10 => ?_)
  replace hK := ps_ltE ev10 hK
  refine ps_putI d_X6_copyFrom_121 hB.at0 f_5_0_8 rfl rfl ?_
  refine ps_nmS (fun σ11 eσ11 => ?_)
  replace hK := ps_ltE eσ11 hK
  refine pm_ald d_X6_copyFrom_124 rfl ?_
  refine pm_ald d_X6_copyFrom_125 rfl ?_
  refine ps_getI d_X6_copyFrom_126 hB1.at0 f_5_0_9 rfl ?_
  refine ps_topI (fun v12 ev12 => ?_)
  replace hK := ps_ltE ev12 hK
  refine ps_putI d_X6_copyFrom_129 hB.at0 f_5_0_9 rfl rfl ?_
  refine ps_nmS (fun σ13 eσ13 => ?_)
  replace hK := ps_ltE eσ13 hK
  refine pm_ald d_X6_copyFrom_132 rfl ?_
  refine pm_ald d_X6_copyFrom_133 rfl ?_
  refine ps_getI d_X6_copyFrom_134 hB1.at0 f_5_0_10 rfl ?_
  refine ps_topI (fun v14 ev14 => ?_)
  replace hK := ps_ltE ev14 hK
  refine ps_putI d_X6_copyFrom_137 hB.at0 f_5_0_10 rfl rfl ?_
  refine ps_nmS (fun σ15 eσ15 => ?_)
  replace hK := ps_ltE eσ15 hK
  refine pm_ald d_X6_copyFrom_140 rfl ?_
  refine pm_ald d_X6_copyFrom_141 rfl ?_
  refine ps_getI d_X6_copyFrom_142 hB1.at0 f_5_0_11 rfl ?_
  refine ps_topI (fun v16 ev16 => ?_)
  replace hK := ps_ltE ev16 hK
  refine ps_putI d_X6_copyFrom_145 hB.at0 f_5_0_11 rfl rfl ?_
  refine ps_nmS (fun σ17 eσ17 => ?_)
  replace hK := ps_ltE eσ17 hK
  refine pm_ald d_X6_copyFrom_148 rfl ?_
  refine pm_ald d_X6_copyFrom_149 rfl ?_
  refine ps_getI d_X6_copyFrom_150 hB1.at0 f_5_0_12 rfl ?_
  refine ps_topI (fun v18 ev18 => ?_)
  replace hK := ps_ltE ev18 hK
  refine ps_putI d_X6_copyFrom_153 hB.at0 f_5_0_12 rfl rfl ?_
  refine ps_nmS (fun σ19 eσ19 => ?_)
  replace hK := ps_ltE eσ19 hK
  refine pm_ald d_X6_copyFrom_156 rfl ?_
  refine pm_ald d_X6_copyFrom_157 rfl ?_
  refine ps_getI d_X6_copyFrom_158 hB1.at0 f_5_0_13 rfl ?_
  refine ps_topI (fun v20 ev20 => ?_)
  replace hK := ps_ltE ev20 hK
  obtain ⟨b22, hT⟩ := ps_gd hK
  replace hK := hT
  clear hT
  refine ps_putI d_X6_copyFrom_161 hB.at0 f_5_0_13 (ps_nb b22) (ps_fb b22) ?_
  refine ps_nmS (fun σ21 eσ21 => ?_)
  replace hK := ps_ltE eσ21 hK
  have hQ := ps_so hK
  exact ps_vret rfl d_X6_copyFrom_164 ⟨rfl, hQ⟩
def qX0_closeWindow_7 (B1 : Nat) : Nat → Int32 → ps_S → Option (((Int32)) × ps_S)
  | 0, _, _ => none
  | n + 1, x3, σ =>
    ps_let (σ.1 12 7) fun v1 =>
    if v1 ≤ x3 then
    some (x3, σ)
    else
    if ps_in x3 4 = true then
    ps_let (σ.1 (B1 + 9) (x3).toNatClampNeg) fun v3 =>
    if ps_in x3 4 = true then
    ps_let (σ.1 (B1 + 7) (x3).toNatClampNeg) fun v4 =>
    if ps_in x3 4 = true then
    ps_let (ps_rI σ (B1 + 7) (upd (σ.1 (B1 + 7)) (x3).toNatClampNeg ((((v4 / 2)) + v3)))) fun σ5 =>
    if 0 < v3 then
    if ps_in x3 4 = true then
    ps_let (σ5.2.2 (B1 + 6) (x3).toNatClampNeg) fun v7 =>
    if ps_nn (FP.dmul ((FP.i2d (v3))) 4636737291354636288) = true then
    ps_let (FP.dmul ((FP.i2d (v3))) 4636737291354636288) fun v8 =>
    ps_let (σ5.1 12 4) fun v10 =>
    if ps_nn (FP.ddiv v8 ((FP.i2d (v10)))) = true then
    ps_let (FP.ddiv v8 ((FP.i2d (v10)))) fun v11 =>
    if ps_nn (FP.dsub v11 v7) = true then
    ps_let (FP.dsub v11 v7) fun v13 =>
    if ps_nn (FP.ddiv v13 4620693217682128896) = true then
    ps_let (FP.ddiv v13 4620693217682128896) fun v15 =>
    if ps_nn (FP.dadd v7 v15) = true then
    ps_let (FP.dadd v7 v15) fun v17 =>
    if ps_in x3 4 = true then
    ps_let (ps_rD σ5 (B1 + 6) (vf_upd (σ5.2.2 (B1 + 6)) (x3).toNatClampNeg v17)) fun σ19 =>
    if ps_in x3 4 = true then
    ps_let (ps_rI σ19 (B1 + 9) (upd (σ19.1 (B1 + 9)) (x3).toNatClampNeg 0)) fun σ20 =>
    ps_let (x3 + 1) fun v21 =>
    qX0_closeWindow_7 B1 n v21 σ20
    else none
    else none
    else none
    else none
    else none
    else none
    else none
    else none
    else
    if ps_in x3 4 = true then
    ps_let (σ5.1 (B1 + 3) (x3).toNatClampNeg) fun v25 =>
    if v25 ≤ 0 then
    if ps_in x3 4 = true then
    ps_let (ps_rI σ5 (B1 + 9) (upd (σ5.1 (B1 + 9)) (x3).toNatClampNeg 0)) fun σ27 =>
    ps_let (x3 + 1) fun v28 =>
    qX0_closeWindow_7 B1 n v28 σ27
    else none
    else
    if ps_in x3 4 = true then
    ps_let (σ5.2.2 (B1 + 6) (x3).toNatClampNeg) fun v30 =>
    if ps_nn (FP.dmul ((FP.i2d (v3))) 4636737291354636288) = true then
    ps_let (FP.dmul ((FP.i2d (v3))) 4636737291354636288) fun v31 =>
    ps_let (σ5.1 12 4) fun v33 =>
    if ps_nn (FP.ddiv v31 ((FP.i2d (v33)))) = true then
    ps_let (FP.ddiv v31 ((FP.i2d (v33)))) fun v34 =>
    if ps_nn (FP.dsub v34 v30) = true then
    ps_let (FP.dsub v34 v30) fun v36 =>
    if ps_nn (FP.ddiv v36 4620693217682128896) = true then
    ps_let (FP.ddiv v36 4620693217682128896) fun v38 =>
    if ps_nn (FP.dadd v30 v38) = true then
    ps_let (FP.dadd v30 v38) fun v40 =>
    if ps_in x3 4 = true then
    ps_let (ps_rD σ5 (B1 + 6) (vf_upd (σ5.2.2 (B1 + 6)) (x3).toNatClampNeg v40)) fun σ42 =>
    if ps_in x3 4 = true then
    ps_let (ps_rI σ42 (B1 + 9) (upd (σ42.1 (B1 + 9)) (x3).toNatClampNeg 0)) fun σ43 =>
    ps_let (x3 + 1) fun v44 =>
    qX0_closeWindow_7 B1 n v44 σ43
    else none
    else none
    else none
    else none
    else none
    else none
    else none
    else none
    else none
    else none
    else none
    else none
set_option maxRecDepth 100000 in
theorem L_X0_closeWindow_7 {g : pm_G} (D : Nat) (hD : 1 ≤ D) {P : Unit → ps_S → Prop} (B1 : Nat) (hB1 : ps_St B1) : ∀ (n : Nat) (x3 : Int32) (σ : ps_S), ps_ok (qX0_closeWindow_7 B1 n x3 σ) (fun res σ => match res with | x3 => pm_W g mX0_closeWindow (ps_F g D (ps_qV P)) 0 0 110 [some (.ref (g.2.2.1 + 21)), some (.ref (g.2.2.1 + B1)), some (.ref (g.2.2.1 + (B1 + 1))), some (.int x3), none, none, none] [] 345 (ps_E g σ)) → pm_W g mX0_closeWindow (ps_F g D (ps_qV P)) 0 0 7 [some (.ref (g.2.2.1 + 21)), some (.ref (g.2.2.1 + B1)), some (.ref (g.2.2.1 + (B1 + 1))), some (.int x3), none, none, none] [] 345 (ps_E g σ) := by
  intro n
  induction n with
  | zero => intro x3 σ hK; exact (ps_no hK).elim
  | succ n ih =>
    intro x3 σ hK
    rw [qX0_closeWindow_7] at hK
    refine pm_ild d_X0_closeWindow_7 rfl ?_
    refine pm_ald d_X0_closeWindow_8 rfl ?_
    refine ps_getR (q := 12) d_X0_closeWindow_9 at_21 f_4_0_0 rfl ?_
    refine ps_getI d_X0_closeWindow_12 ps_Ho12.at0 f_2_0_7 rfl ?_
    refine ps_topI (fun v1 ev1 => ?_)
    replace hK := ps_ltE ev1 hK
    refine pm_icmp_ge d_X0_closeWindow_15 (fun c2 => ?_) (fun c2 => ?_)
    · replace hK := ps_ifT c2 hK
      exact ps_so hK
    · replace hK := ps_ifF c2 hK
      refine pm_ald d_X0_closeWindow_18 rfl ?_
      refine ps_getR (q := (B1 + 9)) d_X0_closeWindow_19 (hB1.at 1 (by decide)) f_5_1_7 rfl ?_
      refine pm_ild d_X0_closeWindow_22 rfl ?_
      obtain ⟨b51, hT⟩ := ps_gd hK
      replace hK := hT
      clear hT
      refine ps_iald d_X0_closeWindow_23 (hB1.at 9 (by decide)) a_5_9 (ps_in_of b51) rfl ?_
      refine ps_topI (fun v3 ev3 => ?_)
      replace hK := ps_ltE ev3 hK
      refine pm_ist4 d_X0_closeWindow_24 rfl (by decide) ?_
      refine pm_ald d_X0_closeWindow_26 rfl ?_
      refine ps_getR (q := (B1 + 7)) d_X0_closeWindow_27 (hB1.at 1 (by decide)) f_5_1_5 rfl ?_
      refine pm_ild d_X0_closeWindow_30 rfl ?_
      refine pm_ald d_X0_closeWindow_31 rfl ?_
      refine ps_getR (q := (B1 + 7)) d_X0_closeWindow_32 (hB1.at 1 (by decide)) f_5_1_5 rfl ?_
      refine pm_ild d_X0_closeWindow_35 rfl ?_
      obtain ⟨b50, hT⟩ := ps_gd hK
      replace hK := hT
      clear hT
      refine ps_iald d_X0_closeWindow_36 (hB1.at 7 (by decide)) a_5_7 (ps_in_of b50) rfl ?_
      refine ps_topI (fun v4 ev4 => ?_)
      replace hK := ps_ltE ev4 hK
      refine pm_ki d_X0_closeWindow_37 ?_
      refine pm_idiv d_X0_closeWindow_38 (by decide) ?_
      refine pm_ild d_X0_closeWindow_39 rfl ?_
      refine pm_iadd d_X0_closeWindow_41 ?_
      obtain ⟨b49, hT⟩ := ps_gd hK
      replace hK := hT
      clear hT
      refine ps_iast d_X0_closeWindow_42 (hB1.at 7 (by decide)) a_5_7 (ps_in_of b49) ?_
      refine ps_nmS (fun σ5 eσ5 => ?_)
      replace hK := ps_ltE eσ5 hK
      refine pm_ild d_X0_closeWindow_43 rfl ?_
      refine pm_if_gt d_X0_closeWindow_45 (fun c6 => ?_) (fun c6 => ?_)
      · replace hK := ps_ifT c6 hK
        refine pm_ald d_X0_closeWindow_57 rfl ?_
        refine ps_getR (q := (B1 + 6)) d_X0_closeWindow_58 (hB1.at 1 (by decide)) f_5_1_4 rfl ?_
        refine pm_ild d_X0_closeWindow_61 rfl ?_
        obtain ⟨b24, hT⟩ := ps_gd hK
        replace hK := hT
        clear hT
        refine ps_dald d_X0_closeWindow_62 (hB1.at 6 (by decide)) a_5_6 (ps_in_of b24) rfl ?_
        refine ps_topD (fun v7 ev7 => ?_)
        replace hK := ps_ltE ev7 hK
        refine pm_dst5 d_X0_closeWindow_63 rfl (by decide) ?_
        refine pm_ald d_X0_closeWindow_65 rfl ?_
        refine ps_getR (q := (B1 + 6)) d_X0_closeWindow_66 (hB1.at 1 (by decide)) f_5_1_4 rfl ?_
        refine pm_ild d_X0_closeWindow_69 rfl ?_
        refine pm_dld d_X0_closeWindow_70 rfl ?_
        refine pm_ild d_X0_closeWindow_72 rfl ?_
        refine pm_i2d d_X0_closeWindow_74 ?_
        refine pm_kd d_X0_closeWindow_75 ?_
        obtain ⟨b9, hT⟩ := ps_gd hK
        replace hK := hT
        clear hT
        refine pm_dmul d_X0_closeWindow_78 (ps_nn_of b9) ?_
        refine ps_topD (fun v8 ev8 => ?_)
        replace hK := ps_ltE ev8 hK
        refine pm_ald d_X0_closeWindow_79 rfl ?_
        refine ps_getR (q := 12) d_X0_closeWindow_80 at_21 f_4_0_0 rfl ?_
        refine ps_getI d_X0_closeWindow_83 ps_Ho12.at0 f_2_0_4 rfl ?_
        refine ps_topI (fun v10 ev10 => ?_)
        replace hK := ps_ltE ev10 hK
        refine pm_i2d d_X0_closeWindow_86 ?_
        obtain ⟨b12, hT⟩ := ps_gd hK
        replace hK := hT
        clear hT
        refine pm_ddiv d_X0_closeWindow_87 (ps_nn_of b12) ?_
        refine ps_topD (fun v11 ev11 => ?_)
        replace hK := ps_ltE ev11 hK
        refine pm_dld d_X0_closeWindow_88 rfl ?_
        obtain ⟨b14, hT⟩ := ps_gd hK
        replace hK := hT
        clear hT
        refine pm_dsub d_X0_closeWindow_90 (ps_nn_of b14) ?_
        refine ps_topD (fun v13 ev13 => ?_)
        replace hK := ps_ltE ev13 hK
        refine pm_kd d_X0_closeWindow_91 ?_
        obtain ⟨b16, hT⟩ := ps_gd hK
        replace hK := hT
        clear hT
        refine pm_ddiv d_X0_closeWindow_94 (ps_nn_of b16) ?_
        refine ps_topD (fun v15 ev15 => ?_)
        replace hK := ps_ltE ev15 hK
        obtain ⟨b18, hT⟩ := ps_gd hK
        replace hK := hT
        clear hT
        refine pm_dadd d_X0_closeWindow_95 (ps_nn_of b18) ?_
        refine ps_topD (fun v17 ev17 => ?_)
        replace hK := ps_ltE ev17 hK
        obtain ⟨b23, hT⟩ := ps_gd hK
        replace hK := hT
        clear hT
        refine ps_dast d_X0_closeWindow_96 (hB1.at 6 (by decide)) a_5_6 (ps_in_of b23) ?_
        refine ps_nmS (fun σ19 eσ19 => ?_)
        replace hK := ps_ltE eσ19 hK
        refine pm_ald d_X0_closeWindow_97 rfl ?_
        refine ps_getR (q := (B1 + 9)) d_X0_closeWindow_98 (hB1.at 1 (by decide)) f_5_1_7 rfl ?_
        refine pm_ild d_X0_closeWindow_101 rfl ?_
        refine pm_ki d_X0_closeWindow_102 ?_
        obtain ⟨b22, hT⟩ := ps_gd hK
        replace hK := hT
        clear hT
        refine ps_iast d_X0_closeWindow_103 (hB1.at 9 (by decide)) a_5_9 (ps_in_of b22) ?_
        refine ps_nmS (fun σ20 eσ20 => ?_)
        replace hK := ps_ltE eσ20 hK
        refine pm_inc3 d_X0_closeWindow_104 rfl ?_
        obtain ⟨v21, ev21⟩ : ∃ y : Int32, y = x3 + 1 := ⟨_, rfl⟩
        rw [← ev21]
        replace hK := ps_ltE ev21 hK
        refine pm_goto d_X0_closeWindow_107 ?_
        refine pm_wk (ls' := [some (.ref (g.2.2.1 + 21)), some (.ref (g.2.2.1 + B1)), some (.ref (g.2.2.1 + (B1 + 1))), some (.int v21), none, none, none]) ⟨rfl, ⟨rfl, ⟨rfl, ⟨rfl, trivial⟩⟩⟩⟩ ?_
        exact ih _ _ hK
      · replace hK := ps_ifF c6 hK
        refine pm_ald d_X0_closeWindow_48 rfl ?_
        refine ps_getR (q := (B1 + 3)) d_X0_closeWindow_49 (hB1.at 1 (by decide)) f_5_1_1 rfl ?_
        refine pm_ild d_X0_closeWindow_52 rfl ?_
        obtain ⟨b48, hT⟩ := ps_gd hK
        replace hK := hT
        clear hT
        refine ps_iald d_X0_closeWindow_53 (hB1.at 3 (by decide)) a_5_3 (ps_in_of b48) rfl ?_
        refine ps_topI (fun v25 ev25 => ?_)
        replace hK := ps_ltE ev25 hK
        refine pm_if_le d_X0_closeWindow_54 (fun c26 => ?_) (fun c26 => ?_)
        · replace hK := ps_ifT c26 hK
          refine pm_ald d_X0_closeWindow_97 rfl ?_
          refine ps_getR (q := (B1 + 9)) d_X0_closeWindow_98 (hB1.at 1 (by decide)) f_5_1_7 rfl ?_
          refine pm_ild d_X0_closeWindow_101 rfl ?_
          refine pm_ki d_X0_closeWindow_102 ?_
          obtain ⟨b29, hT⟩ := ps_gd hK
          replace hK := hT
          clear hT
          refine ps_iast d_X0_closeWindow_103 (hB1.at 9 (by decide)) a_5_9 (ps_in_of b29) ?_
          refine ps_nmS (fun σ27 eσ27 => ?_)
          replace hK := ps_ltE eσ27 hK
          refine pm_inc3 d_X0_closeWindow_104 rfl ?_
          obtain ⟨v28, ev28⟩ : ∃ y : Int32, y = x3 + 1 := ⟨_, rfl⟩
          rw [← ev28]
          replace hK := ps_ltE ev28 hK
          refine pm_goto d_X0_closeWindow_107 ?_
          refine pm_wk (ls' := [some (.ref (g.2.2.1 + 21)), some (.ref (g.2.2.1 + B1)), some (.ref (g.2.2.1 + (B1 + 1))), some (.int v28), none, none, none]) ⟨rfl, ⟨rfl, ⟨rfl, ⟨rfl, trivial⟩⟩⟩⟩ ?_
          exact ih _ _ hK
        · replace hK := ps_ifF c26 hK
          refine pm_ald d_X0_closeWindow_57 rfl ?_
          refine ps_getR (q := (B1 + 6)) d_X0_closeWindow_58 (hB1.at 1 (by decide)) f_5_1_4 rfl ?_
          refine pm_ild d_X0_closeWindow_61 rfl ?_
          obtain ⟨b47, hT⟩ := ps_gd hK
          replace hK := hT
          clear hT
          refine ps_dald d_X0_closeWindow_62 (hB1.at 6 (by decide)) a_5_6 (ps_in_of b47) rfl ?_
          refine ps_topD (fun v30 ev30 => ?_)
          replace hK := ps_ltE ev30 hK
          refine pm_dst5 d_X0_closeWindow_63 rfl (by decide) ?_
          refine pm_ald d_X0_closeWindow_65 rfl ?_
          refine ps_getR (q := (B1 + 6)) d_X0_closeWindow_66 (hB1.at 1 (by decide)) f_5_1_4 rfl ?_
          refine pm_ild d_X0_closeWindow_69 rfl ?_
          refine pm_dld d_X0_closeWindow_70 rfl ?_
          refine pm_ild d_X0_closeWindow_72 rfl ?_
          refine pm_i2d d_X0_closeWindow_74 ?_
          refine pm_kd d_X0_closeWindow_75 ?_
          obtain ⟨b32, hT⟩ := ps_gd hK
          replace hK := hT
          clear hT
          refine pm_dmul d_X0_closeWindow_78 (ps_nn_of b32) ?_
          refine ps_topD (fun v31 ev31 => ?_)
          replace hK := ps_ltE ev31 hK
          refine pm_ald d_X0_closeWindow_79 rfl ?_
          refine ps_getR (q := 12) d_X0_closeWindow_80 at_21 f_4_0_0 rfl ?_
          refine ps_getI d_X0_closeWindow_83 ps_Ho12.at0 f_2_0_4 rfl ?_
          refine ps_topI (fun v33 ev33 => ?_)
          replace hK := ps_ltE ev33 hK
          refine pm_i2d d_X0_closeWindow_86 ?_
          obtain ⟨b35, hT⟩ := ps_gd hK
          replace hK := hT
          clear hT
          refine pm_ddiv d_X0_closeWindow_87 (ps_nn_of b35) ?_
          refine ps_topD (fun v34 ev34 => ?_)
          replace hK := ps_ltE ev34 hK
          refine pm_dld d_X0_closeWindow_88 rfl ?_
          obtain ⟨b37, hT⟩ := ps_gd hK
          replace hK := hT
          clear hT
          refine pm_dsub d_X0_closeWindow_90 (ps_nn_of b37) ?_
          refine ps_topD (fun v36 ev36 => ?_)
          replace hK := ps_ltE ev36 hK
          refine pm_kd d_X0_closeWindow_91 ?_
          obtain ⟨b39, hT⟩ := ps_gd hK
          replace hK := hT
          clear hT
          refine pm_ddiv d_X0_closeWindow_94 (ps_nn_of b39) ?_
          refine ps_topD (fun v38 ev38 => ?_)
          replace hK := ps_ltE ev38 hK
          obtain ⟨b41, hT⟩ := ps_gd hK
          replace hK := hT
          clear hT
          refine pm_dadd d_X0_closeWindow_95 (ps_nn_of b41) ?_
          refine ps_topD (fun v40 ev40 => ?_)
          replace hK := ps_ltE ev40 hK
          obtain ⟨b46, hT⟩ := ps_gd hK
          replace hK := hT
          clear hT
          refine ps_dast d_X0_closeWindow_96 (hB1.at 6 (by decide)) a_5_6 (ps_in_of b46) ?_
          refine ps_nmS (fun σ42 eσ42 => ?_)
          replace hK := ps_ltE eσ42 hK
          refine pm_ald d_X0_closeWindow_97 rfl ?_
          refine ps_getR (q := (B1 + 9)) d_X0_closeWindow_98 (hB1.at 1 (by decide)) f_5_1_7 rfl ?_
          refine pm_ild d_X0_closeWindow_101 rfl ?_
          refine pm_ki d_X0_closeWindow_102 ?_
          obtain ⟨b45, hT⟩ := ps_gd hK
          replace hK := hT
          clear hT
          refine ps_iast d_X0_closeWindow_103 (hB1.at 9 (by decide)) a_5_9 (ps_in_of b45) ?_
          refine ps_nmS (fun σ43 eσ43 => ?_)
          replace hK := ps_ltE eσ43 hK
          refine pm_inc3 d_X0_closeWindow_104 rfl ?_
          obtain ⟨v44, ev44⟩ : ∃ y : Int32, y = x3 + 1 := ⟨_, rfl⟩
          rw [← ev44]
          replace hK := ps_ltE ev44 hK
          refine pm_goto d_X0_closeWindow_107 ?_
          refine pm_wk (ls' := [some (.ref (g.2.2.1 + 21)), some (.ref (g.2.2.1 + B1)), some (.ref (g.2.2.1 + (B1 + 1))), some (.int v44), none, none, none]) ⟨rfl, ⟨rfl, ⟨rfl, ⟨rfl, trivial⟩⟩⟩⟩ ?_
          exact ih _ _ hK
def qX0_closeWindow (B1 : Nat) (σ : ps_S) : Option (Unit × ps_S) :=
  ps_bd (qX0_closeWindow_7 B1 ps_N 0 σ) (fun res σ52 => match res with
  | v53 =>
    some ((), σ52))
set_option maxRecDepth 100000 in
theorem C_X0_closeWindow {g : pm_G} (B1 : Nat) (hB1 : ps_St B1) (σ : ps_S) (P : Unit → ps_S → Prop) (hK : ps_ok (qX0_closeWindow B1 σ) P) : ps_C g mX0_closeWindow 1 [.ref (g.2.2.1 + 21), .ref (g.2.2.1 + B1)] σ (ps_qV P) := by
  unfold qX0_closeWindow at hK
  refine ps_C.of (ls := [some (.ref (g.2.2.1 + 21)), some (.ref (g.2.2.1 + B1)), none, none, none, none, none]) 5 (by decide) rfl (Nat.le_of_ble_eq_true rfl) rfl ?_
  refine pm_ald d_X0_closeWindow_0 rfl ?_
  refine ps_getR (q := (B1 + 1)) d_X0_closeWindow_1 hB1.at0 f_5_0_0 rfl ?_
  refine pm_ast2 d_X0_closeWindow_4 rfl (by decide) ?_
  refine pm_ki d_X0_closeWindow_5 ?_
  refine pm_ist3 d_X0_closeWindow_6 rfl (by decide) ?_
  refine L_X0_closeWindow_7 _ (by decide) B1 hB1 _ _ _ (ps_ok.mono (ps_bdE hK) ?_)
  rintro v53 σ52 hT
  clear hK
  have hK := hT
  clear hT
  have hQ := ps_so hK
  exact ps_vret rfl d_X0_closeWindow_110 ⟨rfl, hQ⟩
def qX0_fileInTurn_41 (B1 : Nat) (y2 : Int32) (y3 : Int32) : Nat → Int32 → ps_S → Option ((Int32 ⊕ (Int32)) × ps_S)
  | 0, _, _ => none
  | n + 1, x4, σ =>
    ps_let (σ.1 12 8) fun v8 =>
    if v8 ≤ x4 then
    some (.inr x4, σ)
    else
    ps_let (σ.1 12 8) fun v10 =>
    if v10 = 0 then none else
    ps_let ((((y3 + x4)) - ((y3 + x4)) / v10 * v10)) fun v11 =>
    if ps_in v11 12 = true then
    ps_let (σ.1 (12 + 3) (v11).toNatClampNeg) fun v12 =>
    if v12 = y2 then
    if ps_in v11 12 = true then
    ps_let (σ.1 (B1 + 11) (v11).toNatClampNeg) fun v15 =>
    if v15 ≤ 0 then
    ps_let (x4 + 1) fun v17 =>
    qX0_fileInTurn_41 B1 y2 y3 n v17 σ
    else
    some (.inl v11, σ)
    else none
    else
    ps_let (x4 + 1) fun v14 =>
    qX0_fileInTurn_41 B1 y2 y3 n v14 σ
    else none
set_option maxRecDepth 100000 in
theorem L_X0_fileInTurn_41 {g : pm_G} (D : Nat) (hD : 1 ≤ D) {P : Int32 → ps_S → Prop} (B1 : Nat) (hB1 : ps_St B1) (y2 : Int32) (y3 : Int32) : ∀ (n : Nat) (x4 : Int32) (σ : ps_S), ps_ok (qX0_fileInTurn_41 B1 y2 y3 n x4 σ) (fun res σ => match res with | .inl r => P r σ | .inr x4 => pm_W g mX0_fileInTurn (ps_F g D (ps_qI P)) 0 0 100 [some (.ref (g.2.2.1 + 21)), some (.ref (g.2.2.1 + B1)), some (.int y2), some (.int y3), some (.int x4), none] [] 345 (ps_E g σ)) → pm_W g mX0_fileInTurn (ps_F g D (ps_qI P)) 0 0 41 [some (.ref (g.2.2.1 + 21)), some (.ref (g.2.2.1 + B1)), some (.int y2), some (.int y3), some (.int x4), none] [] 345 (ps_E g σ) := by
  intro n
  induction n with
  | zero => intro x4 σ hK; exact (ps_no hK).elim
  | succ n ih =>
    intro x4 σ hK
    rw [qX0_fileInTurn_41] at hK
    refine pm_ild d_X0_fileInTurn_41 rfl ?_
    refine pm_ald d_X0_fileInTurn_43 rfl ?_
    refine ps_getR (q := 12) d_X0_fileInTurn_44 at_21 f_4_0_0 rfl ?_
    refine ps_getI d_X0_fileInTurn_47 ps_Ho12.at0 f_2_0_8 rfl ?_
    refine ps_topI (fun v8 ev8 => ?_)
    replace hK := ps_ltE ev8 hK
    refine pm_icmp_ge d_X0_fileInTurn_50 (fun c9 => ?_) (fun c9 => ?_)
    · replace hK := ps_ifT c9 hK
      exact ps_so hK
    · replace hK := ps_ifF c9 hK
      refine pm_ild d_X0_fileInTurn_53 rfl ?_
      refine pm_ild d_X0_fileInTurn_54 rfl ?_
      refine pm_iadd d_X0_fileInTurn_56 ?_
      refine pm_ald d_X0_fileInTurn_57 rfl ?_
      refine ps_getR (q := 12) d_X0_fileInTurn_58 at_21 f_4_0_0 rfl ?_
      refine ps_getI d_X0_fileInTurn_61 ps_Ho12.at0 f_2_0_8 rfl ?_
      refine ps_topI (fun v10 ev10 => ?_)
      replace hK := ps_ltE ev10 hK
      by_cases z20 : v10 = 0
      · exact (ps_no (ps_ifT z20 hK)).elim
      replace hK := ps_ifF z20 hK
      refine pm_irem d_X0_fileInTurn_64 z20 ?_
      refine ps_topI (fun v11 ev11 => ?_)
      replace hK := ps_ltE ev11 hK
      refine pm_ist5 d_X0_fileInTurn_65 rfl (by decide) ?_
      refine pm_ald d_X0_fileInTurn_67 rfl ?_
      refine ps_getR (q := 12) d_X0_fileInTurn_68 at_21 f_4_0_0 rfl ?_
      refine ps_getR (q := (12 + 3)) d_X0_fileInTurn_71 ps_Ho12.at0 f_2_0_13 rfl ?_
      refine pm_ild d_X0_fileInTurn_74 rfl ?_
      obtain ⟨b19, hT⟩ := ps_gd hK
      replace hK := hT
      clear hT
      refine ps_iald d_X0_fileInTurn_76 (ps_Ho12.at 3 (by decide)) a_2_3 (ps_in_of b19) rfl ?_
      refine ps_topI (fun v12 ev12 => ?_)
      replace hK := ps_ltE ev12 hK
      refine pm_ild d_X0_fileInTurn_77 rfl ?_
      refine pm_icmp_ne d_X0_fileInTurn_78 (fun c13 => ?_) (fun c13 => ?_)
      · replace hK := ps_ifF c13 hK
        refine pm_inc4 d_X0_fileInTurn_94 rfl ?_
        obtain ⟨v14, ev14⟩ : ∃ y : Int32, y = x4 + 1 := ⟨_, rfl⟩
        rw [← ev14]
        replace hK := ps_ltE ev14 hK
        refine pm_goto d_X0_fileInTurn_97 ?_
        refine pm_wk (ls' := [some (.ref (g.2.2.1 + 21)), some (.ref (g.2.2.1 + B1)), some (.int y2), some (.int y3), some (.int v14), none]) ⟨rfl, ⟨rfl, ⟨rfl, ⟨rfl, ⟨rfl, trivial⟩⟩⟩⟩⟩ ?_
        exact ih _ _ hK
      · replace hK := ps_ifT c13 hK
        refine pm_ald d_X0_fileInTurn_81 rfl ?_
        refine ps_getR (q := (B1 + 11)) d_X0_fileInTurn_82 hB1.at0 f_5_0_1 rfl ?_
        refine pm_ild d_X0_fileInTurn_85 rfl ?_
        obtain ⟨b18, hT⟩ := ps_gd hK
        replace hK := hT
        clear hT
        refine ps_iald d_X0_fileInTurn_87 (hB1.at 11 (by decide)) a_5_11 (ps_in_of b18) rfl ?_
        refine ps_topI (fun v15 ev15 => ?_)
        replace hK := ps_ltE ev15 hK
        refine pm_if_le d_X0_fileInTurn_88 (fun c16 => ?_) (fun c16 => ?_)
        · replace hK := ps_ifT c16 hK
          refine pm_inc4 d_X0_fileInTurn_94 rfl ?_
          obtain ⟨v17, ev17⟩ : ∃ y : Int32, y = x4 + 1 := ⟨_, rfl⟩
          rw [← ev17]
          replace hK := ps_ltE ev17 hK
          refine pm_goto d_X0_fileInTurn_97 ?_
          refine pm_wk (ls' := [some (.ref (g.2.2.1 + 21)), some (.ref (g.2.2.1 + B1)), some (.int y2), some (.int y3), some (.int v17), none]) ⟨rfl, ⟨rfl, ⟨rfl, ⟨rfl, ⟨rfl, trivial⟩⟩⟩⟩⟩ ?_
          exact ih _ _ hK
        · replace hK := ps_ifF c16 hK
          refine pm_ild d_X0_fileInTurn_91 rfl ?_
          have hQ := ps_so hK
          exact ps_iret rfl d_X0_fileInTurn_93 ⟨_, rfl, hQ⟩
def qX0_fileInTurn (B1 : Nat) (p2 : Int32) (σ : ps_S) : Option (Int32 × ps_S) :=
  ps_let (σ.1 B1 9) fun v1 =>
  ps_let (σ.1 12 1) fun v2 =>
  if v1 ≤ v2 then
  some ((-1), σ)
  else
  ps_let (σ.1 12 8) fun v4 =>
  if 0 < v4 then
  if ps_in p2 4 = true then
  ps_let (σ.1 (B1 + 10) (p2).toNatClampNeg) fun v6 =>
  ps_let ((v6 + 1)) fun v7 =>
  ps_bd (qX0_fileInTurn_41 B1 p2 v7 ps_N 0 σ) (fun res σ21 => match res with
  | .inl r => some (r, σ21)
  | .inr v22 =>
    some ((-1), σ21))
  else none
  else
  some ((-1), σ)
set_option maxRecDepth 100000 in
theorem C_X0_fileInTurn {g : pm_G} (B1 : Nat) (hB1 : ps_St B1) (p2 : Int32) (σ : ps_S) (P : Int32 → ps_S → Prop) (hK : ps_ok (qX0_fileInTurn B1 p2 σ) P) : ps_C g mX0_fileInTurn 1 [.ref (g.2.2.1 + 21), .ref (g.2.2.1 + B1), .int p2] σ (ps_qI P) := by
  unfold qX0_fileInTurn at hK
  refine ps_C.of (ls := [some (.ref (g.2.2.1 + 21)), some (.ref (g.2.2.1 + B1)), some (.int p2), none, none, none]) 3 (by decide) rfl (Nat.le_of_ble_eq_true rfl) rfl ?_
  refine pm_ald d_X0_fileInTurn_0 rfl ?_
  refine ps_getI d_X0_fileInTurn_1 hB1.at0 f_5_0_9 rfl ?_
  refine ps_topI (fun v1 ev1 => ?_)
  replace hK := ps_ltE ev1 hK
  refine pm_ald d_X0_fileInTurn_4 rfl ?_
  refine ps_getR (q := 12) d_X0_fileInTurn_5 at_21 f_4_0_0 rfl ?_
  refine ps_getI d_X0_fileInTurn_8 ps_Ho12.at0 f_2_0_1 rfl ?_
  refine ps_topI (fun v2 ev2 => ?_)
  replace hK := ps_ltE ev2 hK
  refine pm_icmp_le d_X0_fileInTurn_11 (fun c3 => ?_) (fun c3 => ?_)
  · replace hK := ps_ifT c3 hK
    refine pm_ki d_X0_fileInTurn_24 ?_
    have hQ := ps_so hK
    exact ps_iret rfl d_X0_fileInTurn_25 ⟨_, rfl, hQ⟩
  · replace hK := ps_ifF c3 hK
    refine pm_ald d_X0_fileInTurn_14 rfl ?_
    refine ps_getR (q := 12) d_X0_fileInTurn_15 at_21 f_4_0_0 rfl ?_
    refine ps_getI d_X0_fileInTurn_18 ps_Ho12.at0 f_2_0_8 rfl ?_
    refine ps_topI (fun v4 ev4 => ?_)
    replace hK := ps_ltE ev4 hK
    refine pm_if_gt d_X0_fileInTurn_21 (fun c5 => ?_) (fun c5 => ?_)
    · replace hK := ps_ifT c5 hK
      refine pm_ald d_X0_fileInTurn_26 rfl ?_
      refine ps_getR (q := (B1 + 1)) d_X0_fileInTurn_27 hB1.at0 f_5_0_0 rfl ?_
      refine ps_getR (q := (B1 + 10)) d_X0_fileInTurn_30 (hB1.at 1 (by decide)) f_5_1_8 rfl ?_
      refine pm_ild d_X0_fileInTurn_33 rfl ?_
      obtain ⟨b23, hT⟩ := ps_gd hK
      replace hK := hT
      clear hT
      refine ps_iald d_X0_fileInTurn_34 (hB1.at 10 (by decide)) a_5_10 (ps_in_of b23) rfl ?_
      refine ps_topI (fun v6 ev6 => ?_)
      replace hK := ps_ltE ev6 hK
      refine pm_ki d_X0_fileInTurn_35 ?_
      refine pm_iadd d_X0_fileInTurn_36 ?_
      refine ps_topI (fun v7 ev7 => ?_)
      replace hK := ps_ltE ev7 hK
      refine pm_ist3 d_X0_fileInTurn_37 rfl (by decide) ?_
      refine pm_ki d_X0_fileInTurn_38 ?_
      refine pm_ist4 d_X0_fileInTurn_39 rfl (by decide) ?_
      refine L_X0_fileInTurn_41 _ (by decide) B1 hB1 p2 v7 _ _ _ (ps_ok.mono (ps_bdE hK) ?_)
      intro res σ21 hT
      clear hK
      match res, hT with
      | .inl r, hT => exact ps_so hT
      | .inr v22, hT =>
        have hK := hT
        clear hT
        refine pm_ki d_X0_fileInTurn_100 ?_
        have hQ := ps_so hK
        exact ps_iret rfl d_X0_fileInTurn_101 ⟨_, rfl, hQ⟩
    · replace hK := ps_ifF c5 hK
      refine pm_ki d_X0_fileInTurn_24 ?_
      have hQ := ps_so hK
      exact ps_iret rfl d_X0_fileInTurn_25 ⟨_, rfl, hQ⟩
def qX0_isOld (B1 : Nat) (p2 : Int32) (σ : ps_S) : Option (Int32 × ps_S) :=
  if ps_in p2 12 = true then
  ps_let (σ.1 (B1 + 11) (p2).toNatClampNeg) fun v1 =>
  if v1 ≤ 0 then
  some (0, σ)
  else
  ps_let (σ.1 B1 8) fun v3 =>
  if ps_in p2 12 = true then
  ps_let (σ.1 (B1 + 12) (p2).toNatClampNeg) fun v4 =>
  ps_let (σ.1 12 2) fun v5 =>
  if ((v3 - v4)) < v5 then
  some (0, σ)
  else
  some (1, σ)
  else none
  else none
set_option maxRecDepth 100000 in
theorem C_X0_isOld {g : pm_G} (B1 : Nat) (hB1 : ps_St B1) (p2 : Int32) (σ : ps_S) (P : Int32 → ps_S → Prop) (hK : ps_ok (qX0_isOld B1 p2 σ) P) : ps_C g mX0_isOld 1 [.ref (g.2.2.1 + 21), .ref (g.2.2.1 + B1), .int p2] σ (ps_qI P) := by
  unfold qX0_isOld at hK
  refine ps_C.of (ls := [some (.ref (g.2.2.1 + 21)), some (.ref (g.2.2.1 + B1)), some (.int p2)]) 0 (by decide) rfl (Nat.le_of_ble_eq_true rfl) rfl ?_
  refine pm_ald d_X0_isOld_0 rfl ?_
  refine ps_getR (q := (B1 + 11)) d_X0_isOld_1 hB1.at0 f_5_0_1 rfl ?_
  refine pm_ild d_X0_isOld_4 rfl ?_
  obtain ⟨b8, hT⟩ := ps_gd hK
  replace hK := hT
  clear hT
  refine ps_iald d_X0_isOld_5 (hB1.at 11 (by decide)) a_5_11 (ps_in_of b8) rfl ?_
  refine ps_topI (fun v1 ev1 => ?_)
  replace hK := ps_ltE ev1 hK
  refine pm_if_le d_X0_isOld_6 (fun c2 => ?_) (fun c2 => ?_)
  · replace hK := ps_ifT c2 hK
    refine pm_ki d_X0_isOld_34 ?_
    have hQ := ps_so hK
    exact ps_zret rfl rfl d_X0_isOld_35 ⟨_, rfl, hQ⟩
  · replace hK := ps_ifF c2 hK
    refine pm_ald d_X0_isOld_9 rfl ?_
    refine ps_getI d_X0_isOld_10 hB1.at0 f_5_0_8 rfl ?_
    refine ps_topI (fun v3 ev3 => ?_)
    replace hK := ps_ltE ev3 hK
    refine pm_ald d_X0_isOld_13 rfl ?_
    refine ps_getR (q := (B1 + 12)) d_X0_isOld_14 hB1.at0 f_5_0_2 rfl ?_
    refine pm_ild d_X0_isOld_17 rfl ?_
    obtain ⟨b7, hT⟩ := ps_gd hK
    replace hK := hT
    clear hT
    refine ps_iald d_X0_isOld_18 (hB1.at 12 (by decide)) a_5_12 (ps_in_of b7) rfl ?_
    refine ps_topI (fun v4 ev4 => ?_)
    replace hK := ps_ltE ev4 hK
    refine pm_isub d_X0_isOld_19 ?_
    refine pm_ald d_X0_isOld_20 rfl ?_
    refine ps_getR (q := 12) d_X0_isOld_21 at_21 f_4_0_0 rfl ?_
    refine ps_getI d_X0_isOld_24 ps_Ho12.at0 f_2_0_2 rfl ?_
    refine ps_topI (fun v5 ev5 => ?_)
    replace hK := ps_ltE ev5 hK
    refine pm_icmp_lt d_X0_isOld_27 (fun c6 => ?_) (fun c6 => ?_)
    · replace hK := ps_ifT c6 hK
      refine pm_ki d_X0_isOld_34 ?_
      have hQ := ps_so hK
      exact ps_zret rfl rfl d_X0_isOld_35 ⟨_, rfl, hQ⟩
    · replace hK := ps_ifF c6 hK
      refine pm_ki d_X0_isOld_30 ?_
      refine pm_goto d_X0_isOld_31 ?_
      have hQ := ps_so hK
      exact ps_zret rfl rfl d_X0_isOld_35 ⟨_, rfl, hQ⟩
def qX0_oldestFile_5 (B1 : Nat) (y2 : Int32) : Nat → Int32 → Int32 → ps_S → Option (((Int32 × Int32)) × ps_S)
  | 0, _, _, _ => none
  | n + 1, x3, x4, σ =>
    ps_let (σ.1 12 8) fun v1 =>
    if v1 ≤ x4 then
    some ((x3, x4), σ)
    else
    if ps_in x4 12 = true then
    ps_let (σ.1 (12 + 3) (x4).toNatClampNeg) fun v3 =>
    if v3 = y2 then
    ps_bd (qX0_isOld B1 x4 σ) (fun v6 σ7 =>
    if v6 = 0 then
    ps_let (x4 + 1) fun v9 =>
    qX0_oldestFile_5 B1 y2 n x3 v9 σ7
    else
    if x3 = ((-1)) then
    ps_let (x4 + 1) fun v11 =>
    qX0_oldestFile_5 B1 y2 n x4 v11 σ7
    else
    if ps_in x4 12 = true then
    ps_let (σ7.1 (B1 + 12) (x4).toNatClampNeg) fun v12 =>
    if ps_in x3 12 = true then
    ps_let (σ7.1 (B1 + 12) (x3).toNatClampNeg) fun v13 =>
    if v13 ≤ v12 then
    ps_let (x4 + 1) fun v15 =>
    qX0_oldestFile_5 B1 y2 n x3 v15 σ7
    else
    ps_let (x4 + 1) fun v16 =>
    qX0_oldestFile_5 B1 y2 n x4 v16 σ7
    else none
    else none)
    else
    ps_let (x4 + 1) fun v5 =>
    qX0_oldestFile_5 B1 y2 n x3 v5 σ
    else none
set_option maxRecDepth 100000 in
theorem L_X0_oldestFile_5 {g : pm_G} (D : Nat) (hD : 2 ≤ D) {P : Int32 → ps_S → Prop} (B1 : Nat) (hB1 : ps_St B1) (y2 : Int32) : ∀ (n : Nat) (x3 : Int32) (x4 : Int32) (σ : ps_S), ps_ok (qX0_oldestFile_5 B1 y2 n x3 x4 σ) (fun res σ => match res with | (x3, x4) => pm_W g mX0_oldestFile (ps_F g D (ps_qI P)) 0 0 71 [some (.ref (g.2.2.1 + 21)), some (.ref (g.2.2.1 + B1)), some (.int y2), some (.int x3), some (.int x4)] [] 345 (ps_E g σ)) → pm_W g mX0_oldestFile (ps_F g D (ps_qI P)) 0 0 5 [some (.ref (g.2.2.1 + 21)), some (.ref (g.2.2.1 + B1)), some (.int y2), some (.int x3), some (.int x4)] [] 345 (ps_E g σ) := by
  intro n
  induction n with
  | zero => intro x3 x4 σ hK; exact (ps_no hK).elim
  | succ n ih =>
    intro x3 x4 σ hK
    rw [qX0_oldestFile_5] at hK
    refine pm_ild d_X0_oldestFile_5 rfl ?_
    refine pm_ald d_X0_oldestFile_7 rfl ?_
    refine ps_getR (q := 12) d_X0_oldestFile_8 at_21 f_4_0_0 rfl ?_
    refine ps_getI d_X0_oldestFile_11 ps_Ho12.at0 f_2_0_8 rfl ?_
    refine ps_topI (fun v1 ev1 => ?_)
    replace hK := ps_ltE ev1 hK
    refine pm_icmp_ge d_X0_oldestFile_14 (fun c2 => ?_) (fun c2 => ?_)
    · replace hK := ps_ifT c2 hK
      exact ps_so hK
    · replace hK := ps_ifF c2 hK
      refine pm_ald d_X0_oldestFile_17 rfl ?_
      refine ps_getR (q := 12) d_X0_oldestFile_18 at_21 f_4_0_0 rfl ?_
      refine ps_getR (q := (12 + 3)) d_X0_oldestFile_21 ps_Ho12.at0 f_2_0_13 rfl ?_
      refine pm_ild d_X0_oldestFile_24 rfl ?_
      obtain ⟨b19, hT⟩ := ps_gd hK
      replace hK := hT
      clear hT
      refine ps_iald d_X0_oldestFile_26 (ps_Ho12.at 3 (by decide)) a_2_3 (ps_in_of b19) rfl ?_
      refine ps_topI (fun v3 ev3 => ?_)
      replace hK := ps_ltE ev3 hK
      refine pm_ild d_X0_oldestFile_27 rfl ?_
      refine pm_icmp_ne d_X0_oldestFile_28 (fun c4 => ?_) (fun c4 => ?_)
      · replace hK := ps_ifF c4 hK
        refine pm_inc4 d_X0_oldestFile_65 rfl ?_
        obtain ⟨v5, ev5⟩ : ∃ y : Int32, y = x4 + 1 := ⟨_, rfl⟩
        rw [← ev5]
        replace hK := ps_ltE ev5 hK
        refine pm_goto d_X0_oldestFile_68 ?_
        exact ih _ _ _ hK
      · replace hK := ps_ifT c4 hK
        refine pm_ald d_X0_oldestFile_31 rfl ?_
        refine pm_ald d_X0_oldestFile_32 rfl ?_
        refine pm_ild d_X0_oldestFile_33 rfl ?_
        refine ps_cVI d_X0_oldestFile_35 mv_X0_isOld at_21 ob_4_0 rfl (As := [.ref (g.2.2.1 + B1), .int x4]) rfl rfl (ps_room.of (by omega) (by decide)) (Nat.le_of_ble_eq_true rfl) (C_X0_isOld B1 hB1 x4 σ _ (ps_bdE hK)) ?_
        intro v6 σ7 hT
        clear hK
        have hK := hT
        clear hT
        refine pm_if_eq d_X0_oldestFile_38 (fun c8 => ?_) (fun c8 => ?_)
        · replace hK := ps_ifT c8 hK
          refine pm_inc4 d_X0_oldestFile_65 rfl ?_
          obtain ⟨v9, ev9⟩ : ∃ y : Int32, y = x4 + 1 := ⟨_, rfl⟩
          rw [← ev9]
          replace hK := ps_ltE ev9 hK
          refine pm_goto d_X0_oldestFile_68 ?_
          exact ih _ _ _ hK
        · replace hK := ps_ifF c8 hK
          refine pm_ild d_X0_oldestFile_41 rfl ?_
          refine pm_ki d_X0_oldestFile_42 ?_
          refine pm_icmp_eq d_X0_oldestFile_43 (fun c10 => ?_) (fun c10 => ?_)
          · replace hK := ps_ifT c10 hK
            refine pm_ild d_X0_oldestFile_62 rfl ?_
            refine pm_ist3 d_X0_oldestFile_64 rfl (by decide) ?_
            refine pm_inc4 d_X0_oldestFile_65 rfl ?_
            obtain ⟨v11, ev11⟩ : ∃ y : Int32, y = x4 + 1 := ⟨_, rfl⟩
            rw [← ev11]
            replace hK := ps_ltE ev11 hK
            refine pm_goto d_X0_oldestFile_68 ?_
            exact ih _ _ _ hK
          · replace hK := ps_ifF c10 hK
            refine pm_ald d_X0_oldestFile_46 rfl ?_
            refine ps_getR (q := (B1 + 12)) d_X0_oldestFile_47 hB1.at0 f_5_0_2 rfl ?_
            refine pm_ild d_X0_oldestFile_50 rfl ?_
            obtain ⟨b18, hT⟩ := ps_gd hK
            replace hK := hT
            clear hT
            refine ps_iald d_X0_oldestFile_52 (hB1.at 12 (by decide)) a_5_12 (ps_in_of b18) rfl ?_
            refine ps_topI (fun v12 ev12 => ?_)
            replace hK := ps_ltE ev12 hK
            refine pm_ald d_X0_oldestFile_53 rfl ?_
            refine ps_getR (q := (B1 + 12)) d_X0_oldestFile_54 hB1.at0 f_5_0_2 rfl ?_
            refine pm_ild d_X0_oldestFile_57 rfl ?_
            obtain ⟨b17, hT⟩ := ps_gd hK
            replace hK := hT
            clear hT
            refine ps_iald d_X0_oldestFile_58 (hB1.at 12 (by decide)) a_5_12 (ps_in_of b17) rfl ?_
            refine ps_topI (fun v13 ev13 => ?_)
            replace hK := ps_ltE ev13 hK
            refine pm_icmp_ge d_X0_oldestFile_59 (fun c14 => ?_) (fun c14 => ?_)
            · replace hK := ps_ifT c14 hK
              refine pm_inc4 d_X0_oldestFile_65 rfl ?_
              obtain ⟨v15, ev15⟩ : ∃ y : Int32, y = x4 + 1 := ⟨_, rfl⟩
              rw [← ev15]
              replace hK := ps_ltE ev15 hK
              refine pm_goto d_X0_oldestFile_68 ?_
              exact ih _ _ _ hK
            · replace hK := ps_ifF c14 hK
              refine pm_ild d_X0_oldestFile_62 rfl ?_
              refine pm_ist3 d_X0_oldestFile_64 rfl (by decide) ?_
              refine pm_inc4 d_X0_oldestFile_65 rfl ?_
              obtain ⟨v16, ev16⟩ : ∃ y : Int32, y = x4 + 1 := ⟨_, rfl⟩
              rw [← ev16]
              replace hK := ps_ltE ev16 hK
              refine pm_goto d_X0_oldestFile_68 ?_
              exact ih _ _ _ hK
def qX0_oldestFile (B1 : Nat) (p2 : Int32) (σ : ps_S) : Option (Int32 × ps_S) :=
  ps_bd (qX0_oldestFile_5 B1 p2 ps_N ((-1)) 0 σ) (fun res σ20 => match res with
  | (v21, v22) =>
    some (v21, σ20))
set_option maxRecDepth 100000 in
theorem C_X0_oldestFile {g : pm_G} (B1 : Nat) (hB1 : ps_St B1) (p2 : Int32) (σ : ps_S) (P : Int32 → ps_S → Prop) (hK : ps_ok (qX0_oldestFile B1 p2 σ) P) : ps_C g mX0_oldestFile 2 [.ref (g.2.2.1 + 21), .ref (g.2.2.1 + B1), .int p2] σ (ps_qI P) := by
  unfold qX0_oldestFile at hK
  refine ps_C.of (ls := [some (.ref (g.2.2.1 + 21)), some (.ref (g.2.2.1 + B1)), some (.int p2), none, none]) 2 (by decide) rfl (Nat.le_of_ble_eq_true rfl) rfl ?_
  refine pm_ki d_X0_oldestFile_0 ?_
  refine pm_ist3 d_X0_oldestFile_1 rfl (by decide) ?_
  refine pm_ki d_X0_oldestFile_2 ?_
  refine pm_ist4 d_X0_oldestFile_3 rfl (by decide) ?_
  refine L_X0_oldestFile_5 _ (by decide) B1 hB1 p2 _ _ _ _ (ps_ok.mono (ps_bdE hK) ?_)
  rintro ⟨v21, v22⟩ σ20 hT
  clear hK
  have hK := hT
  clear hT
  refine pm_ild d_X0_oldestFile_71 rfl ?_
  have hQ := ps_so hK
  exact ps_iret rfl d_X0_oldestFile_72 ⟨_, rfl, hQ⟩
def qX0_fillQueue_8 (B1 : Nat) (y2 : Int32) : Nat → Int32 → ps_S → Option ((Unit ⊕ (Int32)) × ps_S)
  | 0, _, _ => none
  | n + 1, x4, σ =>
    ps_let (σ.1 12 6) fun v1 =>
    if v1 ≤ x4 then
    some (.inr x4, σ)
    else
    if ps_in y2 4 = true then
    ps_let (σ.1 (B1 + 3) (y2).toNatClampNeg) fun v3 =>
    ps_let (σ.1 12 6) fun v4 =>
    if v4 ≤ v3 then
    some (.inr x4, σ)
    else
    ps_bd (qX0_oldestFile B1 y2 σ) (fun v6 σ7 =>
    if v6 = ((-1)) then
    ps_bd (qX0_fileInTurn B1 y2 σ7) (fun v30 σ31 =>
    if v30 = ((-1)) then
    some (.inl (()), σ31)
    else
    if ps_in y2 4 = true then
    ps_let (ps_rI σ31 (B1 + 10) (upd (σ31.1 (B1 + 10)) (y2).toNatClampNeg v30)) fun σ33 =>
    ps_let (σ33.1 12 5) fun v34 =>
    if ps_in v30 12 = true then
    ps_let (σ33.1 (B1 + 11) (v30).toNatClampNeg) fun v35 =>
    ps_let (σ33.1 12 6) fun v36 =>
    if ps_in y2 4 = true then
    ps_let (σ33.1 (B1 + 3) (y2).toNatClampNeg) fun v37 =>
    ps_let (if ((v36 - v37)) < v35 then ((v36 - v37)) else v35) fun v38 =>
    ps_let (if v38 < v34 then v38 else v34) fun v39 =>
    if ps_in v30 12 = true then
    ps_let (σ33.1 (B1 + 11) (v30).toNatClampNeg) fun v40 =>
    if ps_in v30 12 = true then
    ps_let (ps_rI σ33 (B1 + 11) (upd (σ33.1 (B1 + 11)) (v30).toNatClampNeg ((v40 - v39)))) fun σ41 =>
    if ps_in y2 4 = true then
    ps_let (σ41.1 (B1 + 4) (y2).toNatClampNeg) fun v42 =>
    if ps_in y2 4 = true then
    ps_let (ps_rI σ41 (B1 + 4) (upd (σ41.1 (B1 + 4)) (y2).toNatClampNeg ((v42 - v39)))) fun σ43 =>
    if ps_in y2 4 = true then
    ps_let (σ43.1 (B1 + 3) (y2).toNatClampNeg) fun v44 =>
    if ps_in y2 4 = true then
    ps_let (ps_rI σ43 (B1 + 3) (upd (σ43.1 (B1 + 3)) (y2).toNatClampNeg ((v44 + v39)))) fun σ45 =>
    ps_let (x4 + 1) fun v46 =>
    qX0_fillQueue_8 B1 y2 n v46 σ45
    else none
    else none
    else none
    else none
    else none
    else none
    else none
    else none
    else none)
    else
    ps_let (σ7.1 12 5) fun v9 =>
    if ps_in v6 12 = true then
    ps_let (σ7.1 (B1 + 11) (v6).toNatClampNeg) fun v10 =>
    ps_let (σ7.1 12 6) fun v11 =>
    if ps_in y2 4 = true then
    ps_let (σ7.1 (B1 + 3) (y2).toNatClampNeg) fun v12 =>
    ps_let (if ((v11 - v12)) < v10 then ((v11 - v12)) else v10) fun v13 =>
    ps_let (if v13 < v9 then v13 else v9) fun v14 =>
    if ps_in v6 12 = true then
    ps_let (σ7.1 (B1 + 11) (v6).toNatClampNeg) fun v15 =>
    if ps_in v6 12 = true then
    ps_let (ps_rI σ7 (B1 + 11) (upd (σ7.1 (B1 + 11)) (v6).toNatClampNeg ((v15 - v14)))) fun σ16 =>
    if ps_in y2 4 = true then
    ps_let (σ16.1 (B1 + 4) (y2).toNatClampNeg) fun v17 =>
    if ps_in y2 4 = true then
    ps_let (ps_rI σ16 (B1 + 4) (upd (σ16.1 (B1 + 4)) (y2).toNatClampNeg ((v17 - v14)))) fun σ18 =>
    if ps_in y2 4 = true then
    ps_let (σ18.1 (B1 + 3) (y2).toNatClampNeg) fun v19 =>
    if ps_in y2 4 = true then
    ps_let (ps_rI σ18 (B1 + 3) (upd (σ18.1 (B1 + 3)) (y2).toNatClampNeg ((v19 + v14)))) fun σ20 =>
    ps_let (x4 + 1) fun v21 =>
    qX0_fillQueue_8 B1 y2 n v21 σ20
    else none
    else none
    else none
    else none
    else none
    else none
    else none
    else none)
    else none
set_option maxRecDepth 100000 in
theorem L_X0_fillQueue_8 {g : pm_G} (D : Nat) (hD : 3 ≤ D) {P : Unit → ps_S → Prop} (B1 : Nat) (hB1 : ps_St B1) (y2 : Int32) : ∀ (n : Nat) (x4 : Int32) (σ : ps_S), ps_ok (qX0_fillQueue_8 B1 y2 n x4 σ) (fun res σ => match res with | .inl r => P r σ | .inr x4 => pm_W g mX0_fillQueue (ps_F g D (ps_qV P)) 0 0 149 [some (.ref (g.2.2.1 + 21)), some (.ref (g.2.2.1 + B1)), some (.int y2), some (.ref (g.2.2.1 + (B1 + 1))), some (.int x4), none, none] [] 345 (ps_E g σ)) → pm_W g mX0_fillQueue (ps_F g D (ps_qV P)) 0 0 8 [some (.ref (g.2.2.1 + 21)), some (.ref (g.2.2.1 + B1)), some (.int y2), some (.ref (g.2.2.1 + (B1 + 1))), some (.int x4), none, none] [] 345 (ps_E g σ) := by
  intro n
  induction n with
  | zero => intro x4 σ hK; exact (ps_no hK).elim
  | succ n ih =>
    intro x4 σ hK
    rw [qX0_fillQueue_8] at hK
    refine pm_ild d_X0_fillQueue_8 rfl ?_
    refine pm_ald d_X0_fillQueue_10 rfl ?_
    refine ps_getR (q := 12) d_X0_fillQueue_11 at_21 f_4_0_0 rfl ?_
    refine ps_getI d_X0_fillQueue_14 ps_Ho12.at0 f_2_0_6 rfl ?_
    refine ps_topI (fun v1 ev1 => ?_)
    replace hK := ps_ltE ev1 hK
    refine pm_icmp_ge d_X0_fillQueue_17 (fun c2 => ?_) (fun c2 => ?_)
    · replace hK := ps_ifT c2 hK
      exact ps_so hK
    · replace hK := ps_ifF c2 hK
      refine pm_ald d_X0_fillQueue_20 rfl ?_
      refine ps_getR (q := (B1 + 3)) d_X0_fillQueue_21 (hB1.at 1 (by decide)) f_5_1_1 rfl ?_
      refine pm_ild d_X0_fillQueue_24 rfl ?_
      obtain ⟨b56, hT⟩ := ps_gd hK
      replace hK := hT
      clear hT
      refine ps_iald d_X0_fillQueue_25 (hB1.at 3 (by decide)) a_5_3 (ps_in_of b56) rfl ?_
      refine ps_topI (fun v3 ev3 => ?_)
      replace hK := ps_ltE ev3 hK
      refine pm_ald d_X0_fillQueue_26 rfl ?_
      refine ps_getR (q := 12) d_X0_fillQueue_27 at_21 f_4_0_0 rfl ?_
      refine ps_getI d_X0_fillQueue_30 ps_Ho12.at0 f_2_0_6 rfl ?_
      refine ps_topI (fun v4 ev4 => ?_)
      replace hK := ps_ltE ev4 hK
      refine pm_icmp_ge d_X0_fillQueue_33 (fun c5 => ?_) (fun c5 => ?_)
      · replace hK := ps_ifT c5 hK
        exact ps_so hK
      · replace hK := ps_ifF c5 hK
        refine pm_ald d_X0_fillQueue_36 rfl ?_
        refine pm_ald d_X0_fillQueue_37 rfl ?_
        refine pm_ild d_X0_fillQueue_38 rfl ?_
        refine ps_cVI d_X0_fillQueue_39 mv_X0_oldestFile at_21 ob_4_0 rfl (As := [.ref (g.2.2.1 + B1), .int y2]) rfl rfl (ps_room.of (by omega) (by decide)) (Nat.le_of_ble_eq_true rfl) (C_X0_oldestFile B1 hB1 y2 σ _ (ps_bdE hK)) ?_
        intro v6 σ7 hT
        clear hK
        have hK := hT
        clear hT
        refine pm_ist5 d_X0_fillQueue_42 rfl (by decide) ?_
        refine pm_ild d_X0_fillQueue_44 rfl ?_
        refine pm_ki d_X0_fillQueue_46 ?_
        refine pm_icmp_ne d_X0_fillQueue_47 (fun c8 => ?_) (fun c8 => ?_)
        · replace hK := ps_ifF c8 hK
          refine pm_ald d_X0_fillQueue_73 rfl ?_
          refine ps_getR (q := 12) d_X0_fillQueue_74 at_21 f_4_0_0 rfl ?_
          refine ps_getI d_X0_fillQueue_77 ps_Ho12.at0 f_2_0_5 rfl ?_
          refine ps_topI (fun v9 ev9 => ?_)
          replace hK := ps_ltE ev9 hK
          refine pm_ald d_X0_fillQueue_80 rfl ?_
          refine ps_getR (q := (B1 + 11)) d_X0_fillQueue_81 hB1.at0 f_5_0_1 rfl ?_
          refine pm_ild d_X0_fillQueue_84 rfl ?_
          obtain ⟨b29, hT⟩ := ps_gd hK
          replace hK := hT
          clear hT
          refine ps_iald d_X0_fillQueue_86 (hB1.at 11 (by decide)) a_5_11 (ps_in_of b29) rfl ?_
          refine ps_topI (fun v10 ev10 => ?_)
          replace hK := ps_ltE ev10 hK
          refine pm_ald d_X0_fillQueue_87 rfl ?_
          refine ps_getR (q := 12) d_X0_fillQueue_88 at_21 f_4_0_0 rfl ?_
          refine ps_getI d_X0_fillQueue_91 ps_Ho12.at0 f_2_0_6 rfl ?_
          refine ps_topI (fun v11 ev11 => ?_)
          replace hK := ps_ltE ev11 hK
          refine pm_ald d_X0_fillQueue_94 rfl ?_
          refine ps_getR (q := (B1 + 3)) d_X0_fillQueue_95 (hB1.at 1 (by decide)) f_5_1_1 rfl ?_
          refine pm_ild d_X0_fillQueue_98 rfl ?_
          obtain ⟨b28, hT⟩ := ps_gd hK
          replace hK := hT
          clear hT
          refine ps_iald d_X0_fillQueue_99 (hB1.at 3 (by decide)) a_5_3 (ps_in_of b28) rfl ?_
          refine ps_topI (fun v12 ev12 => ?_)
          replace hK := ps_ltE ev12 hK
          refine pm_isub d_X0_fillQueue_100 ?_
          refine pm_mmin d_X0_fillQueue_101 (ps_roomM (by omega)) (Nat.le_of_ble_eq_true rfl) ?_
          refine ps_topI (fun v13 ev13 => ?_)
          replace hK := ps_ltE ev13 hK
          refine pm_mmin d_X0_fillQueue_104 (ps_roomM (by omega)) (Nat.le_of_ble_eq_true rfl) ?_
          refine ps_topI (fun v14 ev14 => ?_)
          replace hK := ps_ltE ev14 hK
          refine pm_ist6 d_X0_fillQueue_107 rfl (by decide) ?_
          refine pm_ald d_X0_fillQueue_109 rfl ?_
          refine ps_getR (q := (B1 + 11)) d_X0_fillQueue_110 hB1.at0 f_5_0_1 rfl ?_
          refine pm_ild d_X0_fillQueue_113 rfl ?_
          refine pm_dup2 d_X0_fillQueue_115 rfl rfl ?_
          obtain ⟨b27, hT⟩ := ps_gd hK
          replace hK := hT
          clear hT
          refine ps_iald d_X0_fillQueue_116 (hB1.at 11 (by decide)) a_5_11 (ps_in_of b27) rfl ?_
          refine ps_topI (fun v15 ev15 => ?_)
          replace hK := ps_ltE ev15 hK
          refine pm_ild d_X0_fillQueue_117 rfl ?_
          refine pm_isub d_X0_fillQueue_119 ?_
          obtain ⟨b26, hT⟩ := ps_gd hK
          replace hK := hT
          clear hT
          refine ps_iast d_X0_fillQueue_120 (hB1.at 11 (by decide)) a_5_11 (ps_in_of b26) ?_
          refine ps_nmS (fun σ16 eσ16 => ?_)
          replace hK := ps_ltE eσ16 hK
          refine pm_ald d_X0_fillQueue_121 rfl ?_
          refine ps_getR (q := (B1 + 4)) d_X0_fillQueue_122 (hB1.at 1 (by decide)) f_5_1_2 rfl ?_
          refine pm_ild d_X0_fillQueue_125 rfl ?_
          refine pm_dup2 d_X0_fillQueue_126 rfl rfl ?_
          obtain ⟨b25, hT⟩ := ps_gd hK
          replace hK := hT
          clear hT
          refine ps_iald d_X0_fillQueue_127 (hB1.at 4 (by decide)) a_5_4 (ps_in_of b25) rfl ?_
          refine ps_topI (fun v17 ev17 => ?_)
          replace hK := ps_ltE ev17 hK
          refine pm_ild d_X0_fillQueue_128 rfl ?_
          refine pm_isub d_X0_fillQueue_130 ?_
          obtain ⟨b24, hT⟩ := ps_gd hK
          replace hK := hT
          clear hT
          refine ps_iast d_X0_fillQueue_131 (hB1.at 4 (by decide)) a_5_4 (ps_in_of b24) ?_
          refine ps_nmS (fun σ18 eσ18 => ?_)
          replace hK := ps_ltE eσ18 hK
          refine pm_ald d_X0_fillQueue_132 rfl ?_
          refine ps_getR (q := (B1 + 3)) d_X0_fillQueue_133 (hB1.at 1 (by decide)) f_5_1_1 rfl ?_
          refine pm_ild d_X0_fillQueue_136 rfl ?_
          refine pm_dup2 d_X0_fillQueue_137 rfl rfl ?_
          obtain ⟨b23, hT⟩ := ps_gd hK
          replace hK := hT
          clear hT
          refine ps_iald d_X0_fillQueue_138 (hB1.at 3 (by decide)) a_5_3 (ps_in_of b23) rfl ?_
          refine ps_topI (fun v19 ev19 => ?_)
          replace hK := ps_ltE ev19 hK
          refine pm_ild d_X0_fillQueue_139 rfl ?_
          refine pm_iadd d_X0_fillQueue_141 ?_
          obtain ⟨b22, hT⟩ := ps_gd hK
          replace hK := hT
          clear hT
          refine ps_iast d_X0_fillQueue_142 (hB1.at 3 (by decide)) a_5_3 (ps_in_of b22) ?_
          refine ps_nmS (fun σ20 eσ20 => ?_)
          replace hK := ps_ltE eσ20 hK
          refine pm_inc4 d_X0_fillQueue_143 rfl ?_
          obtain ⟨v21, ev21⟩ : ∃ y : Int32, y = x4 + 1 := ⟨_, rfl⟩
          rw [← ev21]
          replace hK := ps_ltE ev21 hK
          refine pm_goto d_X0_fillQueue_146 ?_
          refine pm_wk (ls' := [some (.ref (g.2.2.1 + 21)), some (.ref (g.2.2.1 + B1)), some (.int y2), some (.ref (g.2.2.1 + (B1 + 1))), some (.int v21), none, none]) ⟨rfl, ⟨rfl, ⟨rfl, ⟨rfl, ⟨rfl, trivial⟩⟩⟩⟩⟩ ?_
          exact ih _ _ hK
        · replace hK := ps_ifT c8 hK
          refine pm_ald d_X0_fillQueue_50 rfl ?_
          refine pm_ald d_X0_fillQueue_51 rfl ?_
          refine pm_ild d_X0_fillQueue_52 rfl ?_
          refine ps_cVI d_X0_fillQueue_53 mv_X0_fileInTurn at_21 ob_4_0 rfl (As := [.ref (g.2.2.1 + B1), .int y2]) rfl rfl (ps_room.of (by omega) (by decide)) (Nat.le_of_ble_eq_true rfl) (C_X0_fileInTurn B1 hB1 y2 σ7 _ (ps_bdE hK)) ?_
          intro v30 σ31 hT
          clear hK
          have hK := hT
          clear hT
          refine pm_ist5 d_X0_fillQueue_56 rfl (by decide) ?_
          refine pm_ild d_X0_fillQueue_58 rfl ?_
          refine pm_ki d_X0_fillQueue_60 ?_
          refine pm_icmp_ne d_X0_fillQueue_61 (fun c32 => ?_) (fun c32 => ?_)
          · replace hK := ps_ifF c32 hK
            refine pm_ald d_X0_fillQueue_65 rfl ?_
            refine ps_getR (q := (B1 + 10)) d_X0_fillQueue_66 (hB1.at 1 (by decide)) f_5_1_8 rfl ?_
            refine pm_ild d_X0_fillQueue_69 rfl ?_
            refine pm_ild d_X0_fillQueue_70 rfl ?_
            obtain ⟨b55, hT⟩ := ps_gd hK
            replace hK := hT
            clear hT
            refine ps_iast d_X0_fillQueue_72 (hB1.at 10 (by decide)) a_5_10 (ps_in_of b55) ?_
            refine ps_nmS (fun σ33 eσ33 => ?_)
            replace hK := ps_ltE eσ33 hK
            refine pm_ald d_X0_fillQueue_73 rfl ?_
            refine ps_getR (q := 12) d_X0_fillQueue_74 at_21 f_4_0_0 rfl ?_
            refine ps_getI d_X0_fillQueue_77 ps_Ho12.at0 f_2_0_5 rfl ?_
            refine ps_topI (fun v34 ev34 => ?_)
            replace hK := ps_ltE ev34 hK
            refine pm_ald d_X0_fillQueue_80 rfl ?_
            refine ps_getR (q := (B1 + 11)) d_X0_fillQueue_81 hB1.at0 f_5_0_1 rfl ?_
            refine pm_ild d_X0_fillQueue_84 rfl ?_
            obtain ⟨b54, hT⟩ := ps_gd hK
            replace hK := hT
            clear hT
            refine ps_iald d_X0_fillQueue_86 (hB1.at 11 (by decide)) a_5_11 (ps_in_of b54) rfl ?_
            refine ps_topI (fun v35 ev35 => ?_)
            replace hK := ps_ltE ev35 hK
            refine pm_ald d_X0_fillQueue_87 rfl ?_
            refine ps_getR (q := 12) d_X0_fillQueue_88 at_21 f_4_0_0 rfl ?_
            refine ps_getI d_X0_fillQueue_91 ps_Ho12.at0 f_2_0_6 rfl ?_
            refine ps_topI (fun v36 ev36 => ?_)
            replace hK := ps_ltE ev36 hK
            refine pm_ald d_X0_fillQueue_94 rfl ?_
            refine ps_getR (q := (B1 + 3)) d_X0_fillQueue_95 (hB1.at 1 (by decide)) f_5_1_1 rfl ?_
            refine pm_ild d_X0_fillQueue_98 rfl ?_
            obtain ⟨b53, hT⟩ := ps_gd hK
            replace hK := hT
            clear hT
            refine ps_iald d_X0_fillQueue_99 (hB1.at 3 (by decide)) a_5_3 (ps_in_of b53) rfl ?_
            refine ps_topI (fun v37 ev37 => ?_)
            replace hK := ps_ltE ev37 hK
            refine pm_isub d_X0_fillQueue_100 ?_
            refine pm_mmin d_X0_fillQueue_101 (ps_roomM (by omega)) (Nat.le_of_ble_eq_true rfl) ?_
            refine ps_topI (fun v38 ev38 => ?_)
            replace hK := ps_ltE ev38 hK
            refine pm_mmin d_X0_fillQueue_104 (ps_roomM (by omega)) (Nat.le_of_ble_eq_true rfl) ?_
            refine ps_topI (fun v39 ev39 => ?_)
            replace hK := ps_ltE ev39 hK
            refine pm_ist6 d_X0_fillQueue_107 rfl (by decide) ?_
            refine pm_ald d_X0_fillQueue_109 rfl ?_
            refine ps_getR (q := (B1 + 11)) d_X0_fillQueue_110 hB1.at0 f_5_0_1 rfl ?_
            refine pm_ild d_X0_fillQueue_113 rfl ?_
            refine pm_dup2 d_X0_fillQueue_115 rfl rfl ?_
            obtain ⟨b52, hT⟩ := ps_gd hK
            replace hK := hT
            clear hT
            refine ps_iald d_X0_fillQueue_116 (hB1.at 11 (by decide)) a_5_11 (ps_in_of b52) rfl ?_
            refine ps_topI (fun v40 ev40 => ?_)
            replace hK := ps_ltE ev40 hK
            refine pm_ild d_X0_fillQueue_117 rfl ?_
            refine pm_isub d_X0_fillQueue_119 ?_
            obtain ⟨b51, hT⟩ := ps_gd hK
            replace hK := hT
            clear hT
            refine ps_iast d_X0_fillQueue_120 (hB1.at 11 (by decide)) a_5_11 (ps_in_of b51) ?_
            refine ps_nmS (fun σ41 eσ41 => ?_)
            replace hK := ps_ltE eσ41 hK
            refine pm_ald d_X0_fillQueue_121 rfl ?_
            refine ps_getR (q := (B1 + 4)) d_X0_fillQueue_122 (hB1.at 1 (by decide)) f_5_1_2 rfl ?_
            refine pm_ild d_X0_fillQueue_125 rfl ?_
            refine pm_dup2 d_X0_fillQueue_126 rfl rfl ?_
            obtain ⟨b50, hT⟩ := ps_gd hK
            replace hK := hT
            clear hT
            refine ps_iald d_X0_fillQueue_127 (hB1.at 4 (by decide)) a_5_4 (ps_in_of b50) rfl ?_
            refine ps_topI (fun v42 ev42 => ?_)
            replace hK := ps_ltE ev42 hK
            refine pm_ild d_X0_fillQueue_128 rfl ?_
            refine pm_isub d_X0_fillQueue_130 ?_
            obtain ⟨b49, hT⟩ := ps_gd hK
            replace hK := hT
            clear hT
            refine ps_iast d_X0_fillQueue_131 (hB1.at 4 (by decide)) a_5_4 (ps_in_of b49) ?_
            refine ps_nmS (fun σ43 eσ43 => ?_)
            replace hK := ps_ltE eσ43 hK
            refine pm_ald d_X0_fillQueue_132 rfl ?_
            refine ps_getR (q := (B1 + 3)) d_X0_fillQueue_133 (hB1.at 1 (by decide)) f_5_1_1 rfl ?_
            refine pm_ild d_X0_fillQueue_136 rfl ?_
            refine pm_dup2 d_X0_fillQueue_137 rfl rfl ?_
            obtain ⟨b48, hT⟩ := ps_gd hK
            replace hK := hT
            clear hT
            refine ps_iald d_X0_fillQueue_138 (hB1.at 3 (by decide)) a_5_3 (ps_in_of b48) rfl ?_
            refine ps_topI (fun v44 ev44 => ?_)
            replace hK := ps_ltE ev44 hK
            refine pm_ild d_X0_fillQueue_139 rfl ?_
            refine pm_iadd d_X0_fillQueue_141 ?_
            obtain ⟨b47, hT⟩ := ps_gd hK
            replace hK := hT
            clear hT
            refine ps_iast d_X0_fillQueue_142 (hB1.at 3 (by decide)) a_5_3 (ps_in_of b47) ?_
            refine ps_nmS (fun σ45 eσ45 => ?_)
            replace hK := ps_ltE eσ45 hK
            refine pm_inc4 d_X0_fillQueue_143 rfl ?_
            obtain ⟨v46, ev46⟩ : ∃ y : Int32, y = x4 + 1 := ⟨_, rfl⟩
            rw [← ev46]
            replace hK := ps_ltE ev46 hK
            refine pm_goto d_X0_fillQueue_146 ?_
            refine pm_wk (ls' := [some (.ref (g.2.2.1 + 21)), some (.ref (g.2.2.1 + B1)), some (.int y2), some (.ref (g.2.2.1 + (B1 + 1))), some (.int v46), none, none]) ⟨rfl, ⟨rfl, ⟨rfl, ⟨rfl, ⟨rfl, trivial⟩⟩⟩⟩⟩ ?_
            exact ih _ _ hK
          · replace hK := ps_ifT c32 hK
            have hQ := ps_so hK
            exact ps_vret rfl d_X0_fillQueue_64 ⟨rfl, hQ⟩
def qX0_fillQueue (B1 : Nat) (p2 : Int32) (σ : ps_S) : Option (Unit × ps_S) :=
  ps_bd (qX0_fillQueue_8 B1 p2 ps_N 0 σ) (fun res σ57 => match res with
  | .inl r => some (r, σ57)
  | .inr v58 =>
    some ((), σ57))
set_option maxRecDepth 100000 in
theorem C_X0_fillQueue {g : pm_G} (B1 : Nat) (hB1 : ps_St B1) (p2 : Int32) (σ : ps_S) (P : Unit → ps_S → Prop) (hK : ps_ok (qX0_fillQueue B1 p2 σ) P) : ps_C g mX0_fillQueue 3 [.ref (g.2.2.1 + 21), .ref (g.2.2.1 + B1), .int p2] σ (ps_qV P) := by
  unfold qX0_fillQueue at hK
  refine ps_C.of (ls := [some (.ref (g.2.2.1 + 21)), some (.ref (g.2.2.1 + B1)), some (.int p2), none, none, none, none]) 4 (by decide) rfl (Nat.le_of_ble_eq_true rfl) rfl ?_
  refine pm_ald d_X0_fillQueue_0 rfl ?_
  refine ps_getR (q := (B1 + 1)) d_X0_fillQueue_1 hB1.at0 f_5_0_0 rfl ?_
  refine pm_ast3 d_X0_fillQueue_4 rfl (by decide) ?_
  refine pm_ki d_X0_fillQueue_5 ?_
  refine pm_ist4 d_X0_fillQueue_6 rfl (by decide) ?_
  refine L_X0_fillQueue_8 _ (by decide) B1 hB1 p2 _ _ _ (ps_ok.mono (ps_bdE hK) ?_)
  intro res σ57 hT
  clear hK
  match res, hT with
  | .inl r, hT => exact ps_so hT
  | .inr v58, hT =>
    have hK := hT
    clear hT
    have hQ := ps_so hK
    exact ps_vret rfl d_X0_fillQueue_149 ⟨rfl, hQ⟩
def qX0_freeOf (B1 : Nat) (σ : ps_S) : Option (Int32 × ps_S) :=
  ps_let (σ.1 12 1) fun v1 =>
  ps_let (σ.1 B1 10) fun v2 =>
  some ((((v1 + v2)) / 2), σ)
set_option maxRecDepth 100000 in
theorem C_X0_freeOf {g : pm_G} (B1 : Nat) (hB1 : ps_St B1) (σ : ps_S) (P : Int32 → ps_S → Prop) (hK : ps_ok (qX0_freeOf B1 σ) P) : ps_C g mX0_freeOf 1 [.ref (g.2.2.1 + 21), .ref (g.2.2.1 + B1)] σ (ps_qI P) := by
  unfold qX0_freeOf at hK
  refine ps_C.of (ls := [some (.ref (g.2.2.1 + 21)), some (.ref (g.2.2.1 + B1))]) 0 (by decide) rfl (Nat.le_of_ble_eq_true rfl) rfl ?_
  refine pm_ald d_X0_freeOf_0 rfl ?_
  refine ps_getR (q := 12) d_X0_freeOf_1 at_21 f_4_0_0 rfl ?_
  refine ps_getI d_X0_freeOf_4 ps_Ho12.at0 f_2_0_1 rfl ?_
  refine ps_topI (fun v1 ev1 => ?_)
  replace hK := ps_ltE ev1 hK
  refine pm_ald d_X0_freeOf_7 rfl ?_
  refine ps_getI d_X0_freeOf_8 hB1.at0 f_5_0_10 rfl ?_
  refine ps_topI (fun v2 ev2 => ?_)
  replace hK := ps_ltE ev2 hK
  refine pm_iadd d_X0_freeOf_11 ?_
  refine pm_ki d_X0_freeOf_12 ?_
  refine pm_idiv d_X0_freeOf_13 (by decide) ?_
  have hQ := ps_so hK
  exact ps_iret rfl d_X0_freeOf_14 ⟨_, rfl, hQ⟩
def qX0_fromZeroToTwo (p1 : UInt64) (σ : ps_S) : Option (UInt64 × ps_S) :=
  if 0 ≤ ((Op.cmpValue (FP.dcmp p1 FP.dconst0) .g)) then
  if ((Op.cmpValue (FP.dcmp p1 4611686018427387904) .l)) ≤ 0 then
  some (p1, σ)
  else
  some (4611686018427387904, σ)
  else
  some (FP.dconst0, σ)
set_option maxRecDepth 100000 in
theorem C_X0_fromZeroToTwo {g : pm_G} (p1 : UInt64) (σ : ps_S) (P : UInt64 → ps_S → Prop) (hK : ps_ok (qX0_fromZeroToTwo p1 σ) P) : ps_C g mX0_fromZeroToTwo 1 [.double p1] σ (ps_qD P) := by
  unfold qX0_fromZeroToTwo at hK
  refine ps_C.of (ls := [some (.double p1), none]) 0 (by decide) rfl (Nat.le_of_ble_eq_true rfl) rfl ?_
  refine pm_dld d_X0_fromZeroToTwo_0 rfl ?_
  refine pm_kd d_X0_fromZeroToTwo_1 ?_
  refine pm_dcmp d_X0_fromZeroToTwo_2 ?_
  refine pm_if_ge d_X0_fromZeroToTwo_3 (fun c1 => ?_) (fun c1 => ?_)
  · replace hK := ps_ifT c1 hK
    refine pm_dld d_X0_fromZeroToTwo_8 rfl ?_
    refine pm_kd d_X0_fromZeroToTwo_9 ?_
    refine pm_dcmp d_X0_fromZeroToTwo_12 ?_
    refine pm_if_le d_X0_fromZeroToTwo_13 (fun c2 => ?_) (fun c2 => ?_)
    · replace hK := ps_ifT c2 hK
      refine pm_dld d_X0_fromZeroToTwo_22 rfl ?_
      have hQ := ps_so hK
      exact ps_dret rfl d_X0_fromZeroToTwo_23 ⟨_, rfl, hQ⟩
    · replace hK := ps_ifF c2 hK
      refine pm_kd d_X0_fromZeroToTwo_16 ?_
      refine pm_goto d_X0_fromZeroToTwo_19 ?_
      have hQ := ps_so hK
      exact ps_dret rfl d_X0_fromZeroToTwo_23 ⟨_, rfl, hQ⟩
  · replace hK := ps_ifF c1 hK
    refine pm_kd d_X0_fromZeroToTwo_6 ?_
    have hQ := ps_so hK
    exact ps_dret rfl d_X0_fromZeroToTwo_7 ⟨_, rfl, hQ⟩
def qX0_shareOf_5 (B1 : Nat) (y2 : Int32) : Nat → Int32 → Int32 → ps_S → Option (((Int32 × Int32)) × ps_S)
  | 0, _, _, _ => none
  | n + 1, x3, x4, σ =>
    ps_let (σ.1 12 7) fun v1 =>
    if v1 ≤ x4 then
    some ((x3, x4), σ)
    else
    if ps_in x4 4 = true then
    ps_let (σ.1 (B1 + 7) (x4).toNatClampNeg) fun v3 =>
    ps_let ((x3 + v3)) fun v4 =>
    ps_let (x4 + 1) fun v5 =>
    qX0_shareOf_5 B1 y2 n v4 v5 σ
    else none
set_option maxRecDepth 100000 in
theorem L_X0_shareOf_5 {g : pm_G} (D : Nat) (hD : 1 ≤ D) {P : Int32 → ps_S → Prop} (B1 : Nat) (hB1 : ps_St B1) (y2 : Int32) : ∀ (n : Nat) (x3 : Int32) (x4 : Int32) (σ : ps_S), ps_ok (qX0_shareOf_5 B1 y2 n x3 x4 σ) (fun res σ => match res with | (x3, x4) => pm_W g mX0_shareOf (ps_F g D (ps_qI P)) 0 0 36 [some (.ref (g.2.2.1 + 21)), some (.ref (g.2.2.1 + B1)), some (.int y2), some (.int x3), some (.int x4)] [] 345 (ps_E g σ)) → pm_W g mX0_shareOf (ps_F g D (ps_qI P)) 0 0 5 [some (.ref (g.2.2.1 + 21)), some (.ref (g.2.2.1 + B1)), some (.int y2), some (.int x3), some (.int x4)] [] 345 (ps_E g σ) := by
  intro n
  induction n with
  | zero => intro x3 x4 σ hK; exact (ps_no hK).elim
  | succ n ih =>
    intro x3 x4 σ hK
    rw [qX0_shareOf_5] at hK
    refine pm_ild d_X0_shareOf_5 rfl ?_
    refine pm_ald d_X0_shareOf_7 rfl ?_
    refine ps_getR (q := 12) d_X0_shareOf_8 at_21 f_4_0_0 rfl ?_
    refine ps_getI d_X0_shareOf_11 ps_Ho12.at0 f_2_0_7 rfl ?_
    refine ps_topI (fun v1 ev1 => ?_)
    replace hK := ps_ltE ev1 hK
    refine pm_icmp_ge d_X0_shareOf_14 (fun c2 => ?_) (fun c2 => ?_)
    · replace hK := ps_ifT c2 hK
      exact ps_so hK
    · replace hK := ps_ifF c2 hK
      refine pm_ild d_X0_shareOf_17 rfl ?_
      refine pm_ald d_X0_shareOf_18 rfl ?_
      refine ps_getR (q := (B1 + 1)) d_X0_shareOf_19 hB1.at0 f_5_0_0 rfl ?_
      refine ps_getR (q := (B1 + 7)) d_X0_shareOf_22 (hB1.at 1 (by decide)) f_5_1_5 rfl ?_
      refine pm_ild d_X0_shareOf_25 rfl ?_
      obtain ⟨b6, hT⟩ := ps_gd hK
      replace hK := hT
      clear hT
      refine ps_iald d_X0_shareOf_27 (hB1.at 7 (by decide)) a_5_7 (ps_in_of b6) rfl ?_
      refine ps_topI (fun v3 ev3 => ?_)
      replace hK := ps_ltE ev3 hK
      refine pm_iadd d_X0_shareOf_28 ?_
      refine ps_topI (fun v4 ev4 => ?_)
      replace hK := ps_ltE ev4 hK
      refine pm_ist3 d_X0_shareOf_29 rfl (by decide) ?_
      refine pm_inc4 d_X0_shareOf_30 rfl ?_
      obtain ⟨v5, ev5⟩ : ∃ y : Int32, y = x4 + 1 := ⟨_, rfl⟩
      rw [← ev5]
      replace hK := ps_ltE ev5 hK
      refine pm_goto d_X0_shareOf_33 ?_
      exact ih _ _ _ hK
def qX0_shareOf (B1 : Nat) (p2 : Int32) (σ : ps_S) : Option (Int32 × ps_S) :=
  ps_bd (qX0_shareOf_5 B1 p2 ps_N 0 0 σ) (fun res σ7 => match res with
  | (v8, v9) =>
    if v8 ≤ 0 then
    ps_let (σ7.1 12 7) fun v11 =>
    if v11 ≤ 0 then
    ps_let (if 1 < 0 then 0 else 1) fun v13 =>
    some (v13, σ7)
    else
    ps_let (σ7.1 B1 10) fun v14 =>
    ps_let (σ7.1 12 7) fun v15 =>
    if v15 = 0 then none else
    ps_let ((v14 / v15)) fun v16 =>
    ps_let (if 1 < v16 then v16 else 1) fun v17 =>
    some (v17, σ7)
    else
    ps_let (σ7.1 B1 10) fun v19 =>
    if ps_in p2 4 = true then
    ps_let (σ7.1 (B1 + 7) (p2).toNatClampNeg) fun v20 =>
    if v8 = 0 then none else
    ps_let ((((v19 * v20)) / v8)) fun v21 =>
    ps_let (if 1 < v21 then v21 else 1) fun v22 =>
    some (v22, σ7)
    else none)
set_option maxRecDepth 100000 in
theorem C_X0_shareOf {g : pm_G} (B1 : Nat) (hB1 : ps_St B1) (p2 : Int32) (σ : ps_S) (P : Int32 → ps_S → Prop) (hK : ps_ok (qX0_shareOf B1 p2 σ) P) : ps_C g mX0_shareOf 1 [.ref (g.2.2.1 + 21), .ref (g.2.2.1 + B1), .int p2] σ (ps_qI P) := by
  unfold qX0_shareOf at hK
  refine ps_C.of (ls := [some (.ref (g.2.2.1 + 21)), some (.ref (g.2.2.1 + B1)), some (.int p2), none, none]) 2 (by decide) rfl (Nat.le_of_ble_eq_true rfl) rfl ?_
  refine pm_ki d_X0_shareOf_0 ?_
  refine pm_ist3 d_X0_shareOf_1 rfl (by decide) ?_
  refine pm_ki d_X0_shareOf_2 ?_
  refine pm_ist4 d_X0_shareOf_3 rfl (by decide) ?_
  refine L_X0_shareOf_5 _ (by decide) B1 hB1 p2 _ _ _ _ (ps_ok.mono (ps_bdE hK) ?_)
  rintro ⟨v8, v9⟩ σ7 hT
  clear hK
  have hK := hT
  clear hT
  refine pm_ki d_X0_shareOf_36 ?_
  refine pm_ist4 d_X0_shareOf_37 rfl (by decide) ?_
  refine pm_ild d_X0_shareOf_39 rfl ?_
  refine pm_if_le d_X0_shareOf_40 (fun c10 => ?_) (fun c10 => ?_)
  · replace hK := ps_ifT c10 hK
    refine pm_ald d_X0_shareOf_64 rfl ?_
    refine ps_getR (q := 12) d_X0_shareOf_65 at_21 f_4_0_0 rfl ?_
    refine ps_getI d_X0_shareOf_68 ps_Ho12.at0 f_2_0_7 rfl ?_
    refine ps_topI (fun v11 ev11 => ?_)
    replace hK := ps_ltE ev11 hK
    refine pm_if_le d_X0_shareOf_71 (fun c12 => ?_) (fun c12 => ?_)
    · replace hK := ps_ifT c12 hK
      refine pm_ki d_X0_shareOf_88 ?_
      refine pm_ild d_X0_shareOf_89 rfl ?_
      refine pm_mmax d_X0_shareOf_91 (ps_roomM (by omega)) (Nat.le_of_ble_eq_true rfl) ?_
      refine ps_topI (fun v13 ev13 => ?_)
      replace hK := ps_ltE ev13 hK
      have hQ := ps_so hK
      exact ps_iret rfl d_X0_shareOf_94 ⟨_, rfl, hQ⟩
    · replace hK := ps_ifF c12 hK
      refine pm_ald d_X0_shareOf_74 rfl ?_
      refine ps_getI d_X0_shareOf_75 hB1.at0 f_5_0_10 rfl ?_
      refine ps_topI (fun v14 ev14 => ?_)
      replace hK := ps_ltE ev14 hK
      refine pm_ald d_X0_shareOf_78 rfl ?_
      refine ps_getR (q := 12) d_X0_shareOf_79 at_21 f_4_0_0 rfl ?_
      refine ps_getI d_X0_shareOf_82 ps_Ho12.at0 f_2_0_7 rfl ?_
      refine ps_topI (fun v15 ev15 => ?_)
      replace hK := ps_ltE ev15 hK
      by_cases z18 : v15 = 0
      · exact (ps_no (ps_ifT z18 hK)).elim
      replace hK := ps_ifF z18 hK
      refine pm_idiv d_X0_shareOf_85 z18 ?_
      refine ps_topI (fun v16 ev16 => ?_)
      replace hK := ps_ltE ev16 hK
      refine pm_ist4 d_X0_shareOf_86 rfl (by decide) ?_
      refine pm_ki d_X0_shareOf_88 ?_
      refine pm_ild d_X0_shareOf_89 rfl ?_
      refine pm_mmax d_X0_shareOf_91 (ps_roomM (by omega)) (Nat.le_of_ble_eq_true rfl) ?_
      refine ps_topI (fun v17 ev17 => ?_)
      replace hK := ps_ltE ev17 hK
      have hQ := ps_so hK
      exact ps_iret rfl d_X0_shareOf_94 ⟨_, rfl, hQ⟩
  · replace hK := ps_ifF c10 hK
    refine pm_ald d_X0_shareOf_43 rfl ?_
    refine ps_getI d_X0_shareOf_44 hB1.at0 f_5_0_10 rfl ?_
    refine ps_topI (fun v19 ev19 => ?_)
    replace hK := ps_ltE ev19 hK
    refine pm_ald d_X0_shareOf_47 rfl ?_
    refine ps_getR (q := (B1 + 1)) d_X0_shareOf_48 hB1.at0 f_5_0_0 rfl ?_
    refine ps_getR (q := (B1 + 7)) d_X0_shareOf_51 (hB1.at 1 (by decide)) f_5_1_5 rfl ?_
    refine pm_ild d_X0_shareOf_54 rfl ?_
    obtain ⟨b24, hT⟩ := ps_gd hK
    replace hK := hT
    clear hT
    refine ps_iald d_X0_shareOf_55 (hB1.at 7 (by decide)) a_5_7 (ps_in_of b24) rfl ?_
    refine ps_topI (fun v20 ev20 => ?_)
    replace hK := ps_ltE ev20 hK
    refine pm_imul d_X0_shareOf_56 ?_
    refine pm_ild d_X0_shareOf_57 rfl ?_
    by_cases z23 : v8 = 0
    · exact (ps_no (ps_ifT z23 hK)).elim
    replace hK := ps_ifF z23 hK
    refine pm_idiv d_X0_shareOf_58 z23 ?_
    refine ps_topI (fun v21 ev21 => ?_)
    replace hK := ps_ltE ev21 hK
    refine pm_ist4 d_X0_shareOf_59 rfl (by decide) ?_
    refine pm_goto d_X0_shareOf_61 ?_
    refine pm_ki d_X0_shareOf_88 ?_
    refine pm_ild d_X0_shareOf_89 rfl ?_
    refine pm_mmax d_X0_shareOf_91 (ps_roomM (by omega)) (Nat.le_of_ble_eq_true rfl) ?_
    refine ps_topI (fun v22 ev22 => ?_)
    replace hK := ps_ltE ev22 hK
    have hQ := ps_so hK
    exact ps_iret rfl d_X0_shareOf_94 ⟨_, rfl, hQ⟩
def qX0_pauseOf (B1 : Nat) (p2 : Int32) (p3 : Int32) (σ : ps_S) : Option (Int32 × ps_S) :=
  ps_bd (qX0_freeOf B1 σ) (fun v1 σ2 =>
  ps_let (σ2.1 B1 9) fun v3 =>
  if v1 < v3 then
  if ps_in p2 6 = true then
  ps_let (σ2.1 (12 + 5) (p2).toNatClampNeg) fun v5 =>
  ps_let (σ2.1 B1 10) fun v6 =>
  if ps_nn (FP.ddiv ((FP.i2d ((v1 + v6)))) 4611686018427387904) = true then
  ps_let (FP.ddiv ((FP.i2d ((v1 + v6)))) 4611686018427387904) fun v7 =>
  ps_let (σ2.1 B1 9) fun v9 =>
  if ps_nn (FP.dsub v7 ((FP.i2d (v9)))) = true then
  ps_let (FP.dsub v7 ((FP.i2d (v9)))) fun v10 =>
  ps_let (σ2.1 B1 10) fun v12 =>
  if ps_nn (FP.dsub ((FP.i2d (v12))) v7) = true then
  ps_let (FP.dsub ((FP.i2d (v12))) v7) fun v13 =>
  if ps_nn (FP.ddiv v10 v13) = true then
  ps_let (FP.ddiv v10 v13) fun v15 =>
  if ps_nn (FP.dmul v15 v15) = true then
  ps_let (FP.dmul v15 v15) fun v17 =>
  if ps_nn (FP.dmul v17 v15) = true then
  ps_let (FP.dmul v17 v15) fun v19 =>
  if ps_nn (FP.dadd FP.dconst1 v19) = true then
  ps_let (FP.dadd FP.dconst1 v19) fun v21 =>
  ps_bd (qX0_fromZeroToTwo v21 σ2) (fun v23 σ24 =>
  ps_bd (qX0_shareOf B1 v5 σ24) (fun v25 σ26 =>
  if ps_nn (FP.ddiv ((FP.i2d (v25))) 4611686018427387904) = true then
  ps_let (FP.ddiv ((FP.i2d (v25))) 4611686018427387904) fun v27 =>
  if ps_in v5 4 = true then
  ps_let (σ26.1 (B1 + 4) (v5).toNatClampNeg) fun v29 =>
  if ps_in v5 4 = true then
  ps_let (σ26.1 (B1 + 3) (v5).toNatClampNeg) fun v30 =>
  ps_let ((v29 + v30)) fun v31 =>
  if ps_nn (FP.dsub v27 ((FP.i2d (v31)))) = true then
  ps_let (FP.dsub v27 ((FP.i2d (v31)))) fun v32 =>
  if ps_nn (FP.ddiv v32 v27) = true then
  ps_let (FP.ddiv v32 v27) fun v34 =>
  if ps_nn (FP.dadd FP.dconst1 v34) = true then
  ps_let (FP.dadd FP.dconst1 v34) fun v36 =>
  ps_bd (qX0_fromZeroToTwo v36 σ26) (fun v38 σ39 =>
  if ps_in v5 4 = true then
  ps_let (σ39.1 (12 + 2) (v5).toNatClampNeg) fun v40 =>
  ps_let (if 1 < v40 then v40 else 1) fun v41 =>
  if ps_in v5 4 = true then
  ps_let (σ39.2.2 (B1 + 6) (v5).toNatClampNeg) fun v42 =>
  if ps_nn (FP.ddiv v42 ((FP.i2d (v41)))) = true then
  ps_let (FP.ddiv v42 ((FP.i2d (v41)))) fun v43 =>
  if ps_nn (FP.dmul v43 v23) = true then
  ps_let (FP.dmul v43 v23) fun v45 =>
  if ps_nn (FP.dmul v45 v38) = true then
  ps_let (FP.dmul v45 v38) fun v47 =>
  if ps_nn (FP.dmul ((FP.i2d (p3))) 4636737291354636288) = true then
  ps_let (FP.dmul ((FP.i2d (p3))) 4636737291354636288) fun v49 =>
  if ((Op.cmpValue (FP.dcmp v47 FP.dconst1) .l)) < 0 then
  if ps_nn (FP.ddiv v49 FP.dconst1) = true then
  ps_let (FP.ddiv v49 FP.dconst1) fun v52 =>
  ps_let (σ39.1 12 3) fun v54 =>
  if ((Op.cmpValue (FP.dcmp v52 ((FP.i2d (v54)))) .l)) < 0 then
  some ((FP.d2i (v52)), σ39)
  else
  ps_let (σ39.1 12 3) fun v56 =>
  some (v56, σ39)
  else none
  else
  if ps_nn (FP.ddiv v49 v47) = true then
  ps_let (FP.ddiv v49 v47) fun v57 =>
  ps_let (σ39.1 12 3) fun v59 =>
  if ((Op.cmpValue (FP.dcmp v57 ((FP.i2d (v59)))) .l)) < 0 then
  some ((FP.d2i (v57)), σ39)
  else
  ps_let (σ39.1 12 3) fun v61 =>
  some (v61, σ39)
  else none
  else none
  else none
  else none
  else none
  else none
  else none)
  else none
  else none
  else none
  else none
  else none
  else none))
  else none
  else none
  else none
  else none
  else none
  else none
  else none
  else none
  else
  some (0, σ2))
set_option maxRecDepth 100000 in
theorem C_X0_pauseOf {g : pm_G} (B1 : Nat) (hB1 : ps_St B1) (p2 : Int32) (p3 : Int32) (σ : ps_S) (P : Int32 → ps_S → Prop) (hK : ps_ok (qX0_pauseOf B1 p2 p3 σ) P) : ps_C g mX0_pauseOf 2 [.ref (g.2.2.1 + 21), .ref (g.2.2.1 + B1), .int p2, .int p3] σ (ps_qI P) := by
  unfold qX0_pauseOf at hK
  refine ps_C.of (ls := [some (.ref (g.2.2.1 + 21)), some (.ref (g.2.2.1 + B1)), some (.int p2), some (.int p3), none, none, none, none, none, none, none, none, none, none, none, none, none, none, none, none, none, none]) 18 (by decide) rfl (Nat.le_of_ble_eq_true rfl) rfl ?_
  refine pm_ald d_X0_pauseOf_0 rfl ?_
  refine pm_ald d_X0_pauseOf_1 rfl ?_
  refine ps_cVI d_X0_pauseOf_2 mv_X0_freeOf at_21 ob_4_0 rfl (As := [.ref (g.2.2.1 + B1)]) rfl rfl (ps_room.of (by omega) (by decide)) (Nat.le_of_ble_eq_true rfl) (C_X0_freeOf B1 hB1 σ _ (ps_bdE hK)) ?_
  intro v1 σ2 hT
  clear hK
  have hK := hT
  clear hT
  refine pm_ist4 d_X0_pauseOf_5 rfl (by decide) ?_
  refine pm_ald d_X0_pauseOf_7 rfl ?_
  refine ps_getI d_X0_pauseOf_8 hB1.at0 f_5_0_9 rfl ?_
  refine ps_topI (fun v3 ev3 => ?_)
  replace hK := ps_ltE ev3 hK
  refine pm_ild d_X0_pauseOf_11 rfl ?_
  refine pm_icmp_gt d_X0_pauseOf_13 (fun c4 => ?_) (fun c4 => ?_)
  · replace hK := ps_ifT c4 hK
    refine pm_ald d_X0_pauseOf_18 rfl ?_
    refine ps_getR (q := 12) d_X0_pauseOf_19 at_21 f_4_0_0 rfl ?_
    refine ps_getR (q := (12 + 5)) d_X0_pauseOf_22 ps_Ho12.at0 f_2_0_15 rfl ?_
    refine pm_ild d_X0_pauseOf_25 rfl ?_
    obtain ⟨b66, hT⟩ := ps_gd hK
    replace hK := hT
    clear hT
    refine ps_iald d_X0_pauseOf_26 (ps_Ho12.at 5 (by decide)) a_2_5 (ps_in_of b66) rfl ?_
    refine ps_topI (fun v5 ev5 => ?_)
    replace hK := ps_ltE ev5 hK
    refine pm_ist5 d_X0_pauseOf_27 rfl (by decide) ?_
    refine pm_ild d_X0_pauseOf_29 rfl ?_
    refine pm_ald d_X0_pauseOf_31 rfl ?_
    refine ps_getI d_X0_pauseOf_32 hB1.at0 f_5_0_10 rfl ?_
    refine ps_topI (fun v6 ev6 => ?_)
    replace hK := ps_ltE ev6 hK
    refine pm_iadd d_X0_pauseOf_35 ?_
    refine pm_i2d d_X0_pauseOf_36 ?_
    refine pm_kd d_X0_pauseOf_37 ?_
    obtain ⟨b8, hT⟩ := ps_gd hK
    replace hK := hT
    clear hT
    refine pm_ddiv d_X0_pauseOf_40 (ps_nn_of b8) ?_
    refine ps_topD (fun v7 ev7 => ?_)
    replace hK := ps_ltE ev7 hK
    refine pm_dst6 d_X0_pauseOf_41 rfl (by decide) ?_
    refine pm_dld d_X0_pauseOf_43 rfl ?_
    refine pm_ald d_X0_pauseOf_45 rfl ?_
    refine ps_getI d_X0_pauseOf_46 hB1.at0 f_5_0_9 rfl ?_
    refine ps_topI (fun v9 ev9 => ?_)
    replace hK := ps_ltE ev9 hK
    refine pm_i2d d_X0_pauseOf_49 ?_
    obtain ⟨b11, hT⟩ := ps_gd hK
    replace hK := hT
    clear hT
    refine pm_dsub d_X0_pauseOf_50 (ps_nn_of b11) ?_
    refine ps_topD (fun v10 ev10 => ?_)
    replace hK := ps_ltE ev10 hK
    refine pm_ald d_X0_pauseOf_51 rfl ?_
    refine ps_getI d_X0_pauseOf_52 hB1.at0 f_5_0_10 rfl ?_
    refine ps_topI (fun v12 ev12 => ?_)
    replace hK := ps_ltE ev12 hK
    refine pm_i2d d_X0_pauseOf_55 ?_
    refine pm_dld d_X0_pauseOf_56 rfl ?_
    obtain ⟨b14, hT⟩ := ps_gd hK
    replace hK := hT
    clear hT
    refine pm_dsub d_X0_pauseOf_58 (ps_nn_of b14) ?_
    refine ps_topD (fun v13 ev13 => ?_)
    replace hK := ps_ltE ev13 hK
    obtain ⟨b16, hT⟩ := ps_gd hK
    replace hK := hT
    clear hT
    refine pm_ddiv d_X0_pauseOf_59 (ps_nn_of b16) ?_
    refine ps_topD (fun v15 ev15 => ?_)
    replace hK := ps_ltE ev15 hK
    refine pm_dst8 d_X0_pauseOf_60 rfl (by decide) ?_
    refine pm_kd d_X0_pauseOf_62 ?_
    refine pm_dld d_X0_pauseOf_63 rfl ?_
    refine pm_dld d_X0_pauseOf_65 rfl ?_
    obtain ⟨b18, hT⟩ := ps_gd hK
    replace hK := hT
    clear hT
    refine pm_dmul d_X0_pauseOf_67 (ps_nn_of b18) ?_
    refine ps_topD (fun v17 ev17 => ?_)
    replace hK := ps_ltE ev17 hK
    refine pm_dld d_X0_pauseOf_68 rfl ?_
    obtain ⟨b20, hT⟩ := ps_gd hK
    replace hK := hT
    clear hT
    refine pm_dmul d_X0_pauseOf_70 (ps_nn_of b20) ?_
    refine ps_topD (fun v19 ev19 => ?_)
    replace hK := ps_ltE ev19 hK
    obtain ⟨b22, hT⟩ := ps_gd hK
    replace hK := hT
    clear hT
    refine pm_dadd d_X0_pauseOf_71 (ps_nn_of b22) ?_
    refine ps_topD (fun v21 ev21 => ?_)
    replace hK := ps_ltE ev21 hK
    refine ps_cSD d_X0_pauseOf_72 ms_X0_fromZeroToTwo (As := [.double v21]) rfl rfl (ps_room.of (by omega) (by decide)) (Nat.le_of_ble_eq_true rfl) (C_X0_fromZeroToTwo v21 σ2 _ (ps_bdE hK)) ?_
    intro v23 σ24 hT
    clear hK
    have hK := hT
    clear hT
    refine pm_dst10 d_X0_pauseOf_75 rfl (by decide) ?_
    refine pm_ald d_X0_pauseOf_77 rfl ?_
    refine pm_ald d_X0_pauseOf_78 rfl ?_
    refine pm_ild d_X0_pauseOf_79 rfl ?_
    refine ps_cVI d_X0_pauseOf_81 mv_X0_shareOf at_21 ob_4_0 rfl (As := [.ref (g.2.2.1 + B1), .int v5]) rfl rfl (ps_room.of (by omega) (by decide)) (Nat.le_of_ble_eq_true rfl) (C_X0_shareOf B1 hB1 v5 σ24 _ (ps_bdE hK)) ?_
    intro v25 σ26 hT
    clear hK
    have hK := hT
    clear hT
    refine pm_i2d d_X0_pauseOf_84 ?_
    refine pm_kd d_X0_pauseOf_85 ?_
    obtain ⟨b28, hT⟩ := ps_gd hK
    replace hK := hT
    clear hT
    refine pm_ddiv d_X0_pauseOf_88 (ps_nn_of b28) ?_
    refine ps_topD (fun v27 ev27 => ?_)
    replace hK := ps_ltE ev27 hK
    refine pm_dst12 d_X0_pauseOf_89 rfl (by decide) ?_
    refine pm_ald d_X0_pauseOf_91 rfl ?_
    refine ps_getR (q := (B1 + 1)) d_X0_pauseOf_92 hB1.at0 f_5_0_0 rfl ?_
    refine ps_getR (q := (B1 + 4)) d_X0_pauseOf_95 (hB1.at 1 (by decide)) f_5_1_2 rfl ?_
    refine pm_ild d_X0_pauseOf_98 rfl ?_
    obtain ⟨b65, hT⟩ := ps_gd hK
    replace hK := hT
    clear hT
    refine ps_iald d_X0_pauseOf_100 (hB1.at 4 (by decide)) a_5_4 (ps_in_of b65) rfl ?_
    refine ps_topI (fun v29 ev29 => ?_)
    replace hK := ps_ltE ev29 hK
    refine pm_ald d_X0_pauseOf_101 rfl ?_
    refine ps_getR (q := (B1 + 1)) d_X0_pauseOf_102 hB1.at0 f_5_0_0 rfl ?_
    refine ps_getR (q := (B1 + 3)) d_X0_pauseOf_105 (hB1.at 1 (by decide)) f_5_1_1 rfl ?_
    refine pm_ild d_X0_pauseOf_108 rfl ?_
    obtain ⟨b64, hT⟩ := ps_gd hK
    replace hK := hT
    clear hT
    refine ps_iald d_X0_pauseOf_110 (hB1.at 3 (by decide)) a_5_3 (ps_in_of b64) rfl ?_
    refine ps_topI (fun v30 ev30 => ?_)
    replace hK := ps_ltE ev30 hK
    refine pm_iadd d_X0_pauseOf_111 ?_
    refine ps_topI (fun v31 ev31 => ?_)
    replace hK := ps_ltE ev31 hK
    refine pm_ist14 d_X0_pauseOf_112 rfl (by decide) ?_
    refine pm_kd d_X0_pauseOf_114 ?_
    refine pm_dld d_X0_pauseOf_115 rfl ?_
    refine pm_ild d_X0_pauseOf_117 rfl ?_
    refine pm_i2d d_X0_pauseOf_119 ?_
    obtain ⟨b33, hT⟩ := ps_gd hK
    replace hK := hT
    clear hT
    refine pm_dsub d_X0_pauseOf_120 (ps_nn_of b33) ?_
    refine ps_topD (fun v32 ev32 => ?_)
    replace hK := ps_ltE ev32 hK
    refine pm_dld d_X0_pauseOf_121 rfl ?_
    obtain ⟨b35, hT⟩ := ps_gd hK
    replace hK := hT
    clear hT
    refine pm_ddiv d_X0_pauseOf_123 (ps_nn_of b35) ?_
    refine ps_topD (fun v34 ev34 => ?_)
    replace hK := ps_ltE ev34 hK
    obtain ⟨b37, hT⟩ := ps_gd hK
    replace hK := hT
    clear hT
    refine pm_dadd d_X0_pauseOf_124 (ps_nn_of b37) ?_
    refine ps_topD (fun v36 ev36 => ?_)
    replace hK := ps_ltE ev36 hK
    refine ps_cSD d_X0_pauseOf_125 ms_X0_fromZeroToTwo (As := [.double v36]) rfl rfl (ps_room.of (by omega) (by decide)) (Nat.le_of_ble_eq_true rfl) (C_X0_fromZeroToTwo v36 σ26 _ (ps_bdE hK)) ?_
    intro v38 σ39 hT
    clear hK
    have hK := hT
    clear hT
    refine pm_dst15 d_X0_pauseOf_128 rfl (by decide) ?_
    refine pm_ki d_X0_pauseOf_130 ?_
    refine pm_ald d_X0_pauseOf_131 rfl ?_
    refine ps_getR (q := 12) d_X0_pauseOf_132 at_21 f_4_0_0 rfl ?_
    refine ps_getR (q := (12 + 2)) d_X0_pauseOf_135 ps_Ho12.at0 f_2_0_12 rfl ?_
    refine pm_ild d_X0_pauseOf_138 rfl ?_
    obtain ⟨b63, hT⟩ := ps_gd hK
    replace hK := hT
    clear hT
    refine ps_iald d_X0_pauseOf_140 (ps_Ho12.at 2 (by decide)) a_2_2 (ps_in_of b63) rfl ?_
    refine ps_topI (fun v40 ev40 => ?_)
    replace hK := ps_ltE ev40 hK
    refine pm_mmax d_X0_pauseOf_141 (ps_roomM (by omega)) (Nat.le_of_ble_eq_true rfl) ?_
    refine ps_topI (fun v41 ev41 => ?_)
    replace hK := ps_ltE ev41 hK
    refine pm_ist17 d_X0_pauseOf_144 rfl (by decide) ?_
    refine pm_ald d_X0_pauseOf_146 rfl ?_
    refine ps_getR (q := (B1 + 1)) d_X0_pauseOf_147 hB1.at0 f_5_0_0 rfl ?_
    refine ps_getR (q := (B1 + 6)) d_X0_pauseOf_150 (hB1.at 1 (by decide)) f_5_1_4 rfl ?_
    refine pm_ild d_X0_pauseOf_153 rfl ?_
    obtain ⟨b62, hT⟩ := ps_gd hK
    replace hK := hT
    clear hT
    refine ps_dald d_X0_pauseOf_155 (hB1.at 6 (by decide)) a_5_6 (ps_in_of b62) rfl ?_
    refine ps_topD (fun v42 ev42 => ?_)
    replace hK := ps_ltE ev42 hK
    refine pm_ild d_X0_pauseOf_156 rfl ?_
    refine pm_i2d d_X0_pauseOf_158 ?_
    obtain ⟨b44, hT⟩ := ps_gd hK
    replace hK := hT
    clear hT
    refine pm_ddiv d_X0_pauseOf_159 (ps_nn_of b44) ?_
    refine ps_topD (fun v43 ev43 => ?_)
    replace hK := ps_ltE ev43 hK
    refine pm_dld d_X0_pauseOf_160 rfl ?_
    obtain ⟨b46, hT⟩ := ps_gd hK
    replace hK := hT
    clear hT
    refine pm_dmul d_X0_pauseOf_162 (ps_nn_of b46) ?_
    refine ps_topD (fun v45 ev45 => ?_)
    replace hK := ps_ltE ev45 hK
    refine pm_dld d_X0_pauseOf_163 rfl ?_
    obtain ⟨b48, hT⟩ := ps_gd hK
    replace hK := hT
    clear hT
    refine pm_dmul d_X0_pauseOf_165 (ps_nn_of b48) ?_
    refine ps_topD (fun v47 ev47 => ?_)
    replace hK := ps_ltE ev47 hK
    refine pm_dst18 d_X0_pauseOf_166 rfl (by decide) ?_
    refine pm_ild d_X0_pauseOf_168 rfl ?_
    refine pm_i2d d_X0_pauseOf_169 ?_
    refine pm_kd d_X0_pauseOf_170 ?_
    obtain ⟨b50, hT⟩ := ps_gd hK
    replace hK := hT
    clear hT
    refine pm_dmul d_X0_pauseOf_173 (ps_nn_of b50) ?_
    refine ps_topD (fun v49 ev49 => ?_)
    replace hK := ps_ltE ev49 hK
    refine pm_dld d_X0_pauseOf_174 rfl ?_
    refine pm_kd d_X0_pauseOf_176 ?_
    refine pm_dcmp d_X0_pauseOf_177 ?_
    refine pm_if_lt d_X0_pauseOf_178 (fun c51 => ?_) (fun c51 => ?_)
    · replace hK := ps_ifT c51 hK
      refine pm_kd d_X0_pauseOf_186 ?_
      obtain ⟨b53, hT⟩ := ps_gd hK
      replace hK := hT
      clear hT
      refine pm_ddiv d_X0_pauseOf_187 (ps_nn_of b53) ?_
      refine ps_topD (fun v52 ev52 => ?_)
      replace hK := ps_ltE ev52 hK
      refine pm_dst20 d_X0_pauseOf_188 rfl (by decide) ?_
      refine pm_dld d_X0_pauseOf_190 rfl ?_
      refine pm_ald d_X0_pauseOf_192 rfl ?_
      refine ps_getR (q := 12) d_X0_pauseOf_193 at_21 f_4_0_0 rfl ?_
      refine ps_getI d_X0_pauseOf_196 ps_Ho12.at0 f_2_0_3 rfl ?_
      refine ps_topI (fun v54 ev54 => ?_)
      replace hK := ps_ltE ev54 hK
      refine pm_i2d d_X0_pauseOf_199 ?_
      refine pm_dcmp d_X0_pauseOf_200 ?_
      refine pm_if_lt d_X0_pauseOf_201 (fun c55 => ?_) (fun c55 => ?_)
      · replace hK := ps_ifT c55 hK
        refine pm_dld d_X0_pauseOf_214 rfl ?_
        refine pm_d2i d_X0_pauseOf_216 ?_
        have hQ := ps_so hK
        exact ps_iret rfl d_X0_pauseOf_217 ⟨_, rfl, hQ⟩
      · replace hK := ps_ifF c55 hK
        refine pm_ald d_X0_pauseOf_204 rfl ?_
        refine ps_getR (q := 12) d_X0_pauseOf_205 at_21 f_4_0_0 rfl ?_
        refine ps_getI d_X0_pauseOf_208 ps_Ho12.at0 f_2_0_3 rfl ?_
        refine ps_topI (fun v56 ev56 => ?_)
        replace hK := ps_ltE ev56 hK
        refine pm_goto d_X0_pauseOf_211 ?_
        have hQ := ps_so hK
        exact ps_iret rfl d_X0_pauseOf_217 ⟨_, rfl, hQ⟩
    · replace hK := ps_ifF c51 hK
      refine pm_dld d_X0_pauseOf_181 rfl ?_
      refine pm_goto d_X0_pauseOf_183 ?_
      obtain ⟨b58, hT⟩ := ps_gd hK
      replace hK := hT
      clear hT
      refine pm_ddiv d_X0_pauseOf_187 (ps_nn_of b58) ?_
      refine ps_topD (fun v57 ev57 => ?_)
      replace hK := ps_ltE ev57 hK
      refine pm_dst20 d_X0_pauseOf_188 rfl (by decide) ?_
      refine pm_dld d_X0_pauseOf_190 rfl ?_
      refine pm_ald d_X0_pauseOf_192 rfl ?_
      refine ps_getR (q := 12) d_X0_pauseOf_193 at_21 f_4_0_0 rfl ?_
      refine ps_getI d_X0_pauseOf_196 ps_Ho12.at0 f_2_0_3 rfl ?_
      refine ps_topI (fun v59 ev59 => ?_)
      replace hK := ps_ltE ev59 hK
      refine pm_i2d d_X0_pauseOf_199 ?_
      refine pm_dcmp d_X0_pauseOf_200 ?_
      refine pm_if_lt d_X0_pauseOf_201 (fun c60 => ?_) (fun c60 => ?_)
      · replace hK := ps_ifT c60 hK
        refine pm_dld d_X0_pauseOf_214 rfl ?_
        refine pm_d2i d_X0_pauseOf_216 ?_
        have hQ := ps_so hK
        exact ps_iret rfl d_X0_pauseOf_217 ⟨_, rfl, hQ⟩
      · replace hK := ps_ifF c60 hK
        refine pm_ald d_X0_pauseOf_204 rfl ?_
        refine ps_getR (q := 12) d_X0_pauseOf_205 at_21 f_4_0_0 rfl ?_
        refine ps_getI d_X0_pauseOf_208 ps_Ho12.at0 f_2_0_3 rfl ?_
        refine ps_topI (fun v61 ev61 => ?_)
        replace hK := ps_ltE ev61 hK
        refine pm_goto d_X0_pauseOf_211 ?_
        have hQ := ps_so hK
        exact ps_iret rfl d_X0_pauseOf_217 ⟨_, rfl, hQ⟩
  · replace hK := ps_ifF c4 hK
    refine pm_ki d_X0_pauseOf_16 ?_
    have hQ := ps_so hK
    exact ps_iret rfl d_X0_pauseOf_17 ⟨_, rfl, hQ⟩
def qX4_cellOf_20  (y1 : Int32) (y2 : Int32) (y3 : Int32) : Nat → Int32 → ps_S → Option (((Int32)) × ps_S)
  | 0, _, _ => none
  | n + 1, x4, σ =>
    if 100 ≤ x4 then
    some (x4, σ)
    else
    if ps_in ((((y1 * 100)) + x4)) 1000 = true then
    ps_let (ps_rI σ 23 (upd (σ.1 23) ((((y1 * 100)) + x4)).toNatClampNeg ((-1)))) fun σ5 =>
    ps_let (x4 + 1) fun v6 =>
    qX4_cellOf_20 y1 y2 y3 n v6 σ5
    else none
set_option maxRecDepth 100000 in
theorem L_X4_cellOf_20 {g : pm_G} (D : Nat) (hD : 1 ≤ D) {P : Int32 → ps_S → Prop}  (y1 : Int32) (y2 : Int32) (y3 : Int32) : ∀ (n : Nat) (x4 : Int32) (σ : ps_S), ps_ok (qX4_cellOf_20 y1 y2 y3 n x4 σ) (fun res σ => match res with | x4 => pm_W g mX4_cellOf (ps_F g D (ps_qI P)) 0 0 46 [some (.ref (g.2.2.1 + 22)), some (.int y1), some (.int y2), some (.int y3), some (.int x4)] [] 345 (ps_E g σ)) → pm_W g mX4_cellOf (ps_F g D (ps_qI P)) 0 0 20 [some (.ref (g.2.2.1 + 22)), some (.int y1), some (.int y2), some (.int y3), some (.int x4)] [] 345 (ps_E g σ) := by
  intro n
  induction n with
  | zero => intro x4 σ hK; exact (ps_no hK).elim
  | succ n ih =>
    intro x4 σ hK
    rw [qX4_cellOf_20] at hK
    refine pm_ild d_X4_cellOf_20 rfl ?_
    refine pm_ki d_X4_cellOf_22 ?_
    refine pm_icmp_ge d_X4_cellOf_24 (fun c4 => ?_) (fun c4 => ?_)
    · replace hK := ps_ifT c4 hK
      exact ps_so hK
    · replace hK := ps_ifF c4 hK
      refine pm_ald d_X4_cellOf_27 rfl ?_
      refine ps_getR (q := 23) d_X4_cellOf_28 at_22 f_4_1_1 rfl ?_
      refine pm_ild d_X4_cellOf_31 rfl ?_
      refine pm_ki d_X4_cellOf_32 ?_
      refine pm_imul d_X4_cellOf_34 ?_
      refine pm_ild d_X4_cellOf_35 rfl ?_
      refine pm_iadd d_X4_cellOf_37 ?_
      refine pm_ki d_X4_cellOf_38 ?_
      obtain ⟨b7, hT⟩ := ps_gd hK
      replace hK := hT
      clear hT
      refine ps_iast d_X4_cellOf_39 at_23 a_4_2 (ps_in_of b7) ?_
      refine ps_nmS (fun σ5 eσ5 => ?_)
      replace hK := ps_ltE eσ5 hK
      refine pm_inc4 d_X4_cellOf_40 rfl ?_
      obtain ⟨v6, ev6⟩ : ∃ y : Int32, y = x4 + 1 := ⟨_, rfl⟩
      rw [← ev6]
      replace hK := ps_ltE ev6 hK
      refine pm_goto d_X4_cellOf_43 ?_
      exact ih _ _ hK
def qX4_cellOf (p1 : Int32) (p2 : Int32) (p3 : Int32) (σ : ps_S) : Option (Int32 × ps_S) :=
  if ps_in p1 10 = true then
  ps_let (σ.1 24 (p1).toNatClampNeg) fun v1 =>
  if v1 = p2 then
  some ((((p1 * 100)) + ((p3 - p3 / 100 * 100))), σ)
  else
  if ps_in p1 10 = true then
  ps_let (ps_rI σ 24 (upd (σ.1 24) (p1).toNatClampNeg p2)) fun σ3 =>
  ps_bd (qX4_cellOf_20 p1 p2 p3 ps_N 0 σ3) (fun res σ8 => match res with
  | v9 =>
    some ((((p1 * 100)) + ((p3 - p3 / 100 * 100))), σ8))
  else none
  else none
set_option maxRecDepth 100000 in
theorem C_X4_cellOf {g : pm_G} (p1 : Int32) (p2 : Int32) (p3 : Int32) (σ : ps_S) (P : Int32 → ps_S → Prop) (hK : ps_ok (qX4_cellOf p1 p2 p3 σ) P) : ps_C g mX4_cellOf 1 [.ref (g.2.2.1 + 22), .int p1, .int p2, .int p3] σ (ps_qI P) := by
  unfold qX4_cellOf at hK
  refine ps_C.of (ls := [some (.ref (g.2.2.1 + 22)), some (.int p1), some (.int p2), some (.int p3), none]) 1 (by decide) rfl (Nat.le_of_ble_eq_true rfl) rfl ?_
  refine pm_ald d_X4_cellOf_0 rfl ?_
  refine ps_getR (q := 24) d_X4_cellOf_1 at_22 f_4_1_2 rfl ?_
  refine pm_ild d_X4_cellOf_4 rfl ?_
  obtain ⟨b11, hT⟩ := ps_gd hK
  replace hK := hT
  clear hT
  refine ps_iald d_X4_cellOf_5 at_24 a_4_3 (ps_in_of b11) rfl ?_
  refine ps_topI (fun v1 ev1 => ?_)
  replace hK := ps_ltE ev1 hK
  refine pm_ild d_X4_cellOf_6 rfl ?_
  refine pm_icmp_eq d_X4_cellOf_7 (fun c2 => ?_) (fun c2 => ?_)
  · replace hK := ps_ifT c2 hK
    refine pm_ild d_X4_cellOf_46 rfl ?_
    refine pm_ki d_X4_cellOf_47 ?_
    refine pm_imul d_X4_cellOf_49 ?_
    refine pm_ild d_X4_cellOf_50 rfl ?_
    refine pm_ki d_X4_cellOf_51 ?_
    refine pm_irem d_X4_cellOf_53 (by decide) ?_
    refine pm_iadd d_X4_cellOf_54 ?_
    have hQ := ps_so hK
    exact ps_iret rfl d_X4_cellOf_55 ⟨_, rfl, hQ⟩
  · replace hK := ps_ifF c2 hK
    refine pm_ald d_X4_cellOf_10 rfl ?_
    refine ps_getR (q := 24) d_X4_cellOf_11 at_22 f_4_1_2 rfl ?_
    refine pm_ild d_X4_cellOf_14 rfl ?_
    refine pm_ild d_X4_cellOf_15 rfl ?_
    obtain ⟨b10, hT⟩ := ps_gd hK
    replace hK := hT
    clear hT
    refine ps_iast d_X4_cellOf_16 at_24 a_4_3 (ps_in_of b10) ?_
    refine ps_nmS (fun σ3 eσ3 => ?_)
    replace hK := ps_ltE eσ3 hK
    refine pm_ki d_X4_cellOf_17 ?_
    refine pm_ist4 d_X4_cellOf_18 rfl (by decide) ?_
    refine L_X4_cellOf_20 _ (by decide) p1 p2 p3 _ _ _ (ps_ok.mono (ps_bdE hK) ?_)
    rintro v9 σ8 hT
    clear hK
    have hK := hT
    clear hT
    refine pm_ild d_X4_cellOf_46 rfl ?_
    refine pm_ki d_X4_cellOf_47 ?_
    refine pm_imul d_X4_cellOf_49 ?_
    refine pm_ild d_X4_cellOf_50 rfl ?_
    refine pm_ki d_X4_cellOf_51 ?_
    refine pm_irem d_X4_cellOf_53 (by decide) ?_
    refine pm_iadd d_X4_cellOf_54 ?_
    have hQ := ps_so hK
    exact ps_iret rfl d_X4_cellOf_55 ⟨_, rfl, hQ⟩
def qX4_join (p1 : Int32) (p2 : Int64) (p3 : Int64) (σ : ps_S) : Option (Int64 × ps_S) :=
  if p1 = 1006 then
  some ((p2 + p3), σ)
  else
  if p1 = 1007 then
  some ((p2 - p3), σ)
  else
  if p1 = 1008 then
  some ((p2 * p3), σ)
  else
  if p1 = 1009 then
  if ((lg_cmp p2 p3)) = 0 then
  some (1, σ)
  else
  some (0, σ)
  else
  if p1 = 1010 then
  if 0 ≤ ((lg_cmp p2 p3)) then
  some (0, σ)
  else
  some (1, σ)
  else
  if p1 = 1011 then
  if ((lg_cmp p2 p3)) ≤ 0 then
  some (0, σ)
  else
  some (1, σ)
  else
  if p1 = 1012 then
  some ((p2 &&& p3), σ)
  else
  some ((p2 ||| p3), σ)
set_option maxRecDepth 100000 in
theorem C_X4_join {g : pm_G} (p1 : Int32) (p2 : Int64) (p3 : Int64) (σ : ps_S) (P : Int64 → ps_S → Prop) (hK : ps_ok (qX4_join p1 p2 p3 σ) P) : ps_C g mX4_join 1 [.int p1, .long p2, .long p3] σ (ps_qL P) := by
  unfold qX4_join at hK
  refine ps_C.of (ls := [some (.int p1), some (.long p2), none, some (.long p3), none]) 0 (by decide) rfl (Nat.le_of_ble_eq_true rfl) rfl ?_
  refine pm_ild d_X4_join_0 rfl ?_
  by_cases c1 : p1 = 1006
  · replace hK := ps_ifT c1 hK
    refine pm_tabIn (tgt := 44) (off := 43) d_X4_join_1 (by rw [c1]; decide) (by rw [c1]; decide) (by rw [c1]; rfl) (by decide) ?_
    refine pm_lld d_X4_join_44 rfl ?_
    refine pm_lld d_X4_join_45 rfl ?_
    refine pm_ladd d_X4_join_46 ?_
    have hQ := ps_so hK
    exact ps_lret rfl d_X4_join_47 ⟨_, rfl, hQ⟩
  replace hK := ps_ifF c1 hK
  by_cases c2 : p1 = 1007
  · replace hK := ps_ifT c2 hK
    refine pm_tabIn (tgt := 48) (off := 47) d_X4_join_1 (by rw [c2]; decide) (by rw [c2]; decide) (by rw [c2]; rfl) (by decide) ?_
    refine pm_lld d_X4_join_48 rfl ?_
    refine pm_lld d_X4_join_49 rfl ?_
    refine pm_lsub d_X4_join_50 ?_
    have hQ := ps_so hK
    exact ps_lret rfl d_X4_join_51 ⟨_, rfl, hQ⟩
  replace hK := ps_ifF c2 hK
  by_cases c3 : p1 = 1008
  · replace hK := ps_ifT c3 hK
    refine pm_tabIn (tgt := 52) (off := 51) d_X4_join_1 (by rw [c3]; decide) (by rw [c3]; decide) (by rw [c3]; rfl) (by decide) ?_
    refine pm_lld d_X4_join_52 rfl ?_
    refine pm_lld d_X4_join_53 rfl ?_
    refine pm_lmul d_X4_join_54 ?_
    have hQ := ps_so hK
    exact ps_lret rfl d_X4_join_55 ⟨_, rfl, hQ⟩
  replace hK := ps_ifF c3 hK
  by_cases c4 : p1 = 1009
  · replace hK := ps_ifT c4 hK
    refine pm_tabIn (tgt := 56) (off := 55) d_X4_join_1 (by rw [c4]; decide) (by rw [c4]; decide) (by rw [c4]; rfl) (by decide) ?_
    refine pm_lld d_X4_join_56 rfl ?_
    refine pm_lld d_X4_join_57 rfl ?_
    refine pm_lcmp d_X4_join_58 ?_
    refine pm_if_ne d_X4_join_59 (fun c5 => ?_) (fun c5 => ?_)
    · replace hK := ps_ifF c5 hK
      refine pm_kl d_X4_join_66 ?_
      have hQ := ps_so hK
      exact ps_lret rfl d_X4_join_67 ⟨_, rfl, hQ⟩
    · replace hK := ps_ifT c5 hK
      refine pm_kl d_X4_join_62 ?_
      refine pm_goto d_X4_join_63 ?_
      have hQ := ps_so hK
      exact ps_lret rfl d_X4_join_67 ⟨_, rfl, hQ⟩
  replace hK := ps_ifF c4 hK
  by_cases c6 : p1 = 1010
  · replace hK := ps_ifT c6 hK
    refine pm_tabIn (tgt := 68) (off := 67) d_X4_join_1 (by rw [c6]; decide) (by rw [c6]; decide) (by rw [c6]; rfl) (by decide) ?_
    refine pm_lld d_X4_join_68 rfl ?_
    refine pm_lld d_X4_join_69 rfl ?_
    refine pm_lcmp d_X4_join_70 ?_
    refine pm_if_ge d_X4_join_71 (fun c7 => ?_) (fun c7 => ?_)
    · replace hK := ps_ifT c7 hK
      refine pm_kl d_X4_join_78 ?_
      have hQ := ps_so hK
      exact ps_lret rfl d_X4_join_79 ⟨_, rfl, hQ⟩
    · replace hK := ps_ifF c7 hK
      refine pm_kl d_X4_join_74 ?_
      refine pm_goto d_X4_join_75 ?_
      have hQ := ps_so hK
      exact ps_lret rfl d_X4_join_79 ⟨_, rfl, hQ⟩
  replace hK := ps_ifF c6 hK
  by_cases c8 : p1 = 1011
  · replace hK := ps_ifT c8 hK
    refine pm_tabIn (tgt := 80) (off := 79) d_X4_join_1 (by rw [c8]; decide) (by rw [c8]; decide) (by rw [c8]; rfl) (by decide) ?_
    refine pm_lld d_X4_join_80 rfl ?_
    refine pm_lld d_X4_join_81 rfl ?_
    refine pm_lcmp d_X4_join_82 ?_
    refine pm_if_le d_X4_join_83 (fun c9 => ?_) (fun c9 => ?_)
    · replace hK := ps_ifT c9 hK
      refine pm_kl d_X4_join_90 ?_
      have hQ := ps_so hK
      exact ps_lret rfl d_X4_join_91 ⟨_, rfl, hQ⟩
    · replace hK := ps_ifF c9 hK
      refine pm_kl d_X4_join_86 ?_
      refine pm_goto d_X4_join_87 ?_
      have hQ := ps_so hK
      exact ps_lret rfl d_X4_join_91 ⟨_, rfl, hQ⟩
  replace hK := ps_ifF c8 hK
  by_cases c10 : p1 = 1012
  · replace hK := ps_ifT c10 hK
    refine pm_tabIn (tgt := 92) (off := 91) d_X4_join_1 (by rw [c10]; decide) (by rw [c10]; decide) (by rw [c10]; rfl) (by decide) ?_
    refine pm_lld d_X4_join_92 rfl ?_
    refine pm_lld d_X4_join_93 rfl ?_
    refine pm_land d_X4_join_94 ?_
    have hQ := ps_so hK
    exact ps_lret rfl d_X4_join_95 ⟨_, rfl, hQ⟩
  replace hK := ps_ifF c10 hK
  refine pm_tabOut (tgt := 96) d_X4_join_1 (by decide) (ps_swout (lo := 1006) (n := 7) (by decide) (by decide) (fun k hk => match k, hk with | 0, _ => c1 | 1, _ => c2 | 2, _ => c3 | 3, _ => c4 | 4, _ => c6 | 5, _ => c8 | 6, _ => c10 | k + 7, hk => absurd hk (by omega))) ?_
  refine pm_lld d_X4_join_96 rfl ?_
  refine pm_lld d_X4_join_97 rfl ?_
  refine pm_lor d_X4_join_98 ?_
  have hQ := ps_so hK
  exact ps_lret rfl d_X4_join_99 ⟨_, rfl, hQ⟩
def qX4_kept (p1 : Int64) (σ : ps_S) : Option (Int32 × ps_S) :=
  if 0 ≤ ((lg_cmp p1 ((-1000000)))) then
  if ((lg_cmp p1 1000000)) ≤ 0 then
  some (((p1).toInt32), σ)
  else
  some (1000000, σ)
  else
  some ((-1000000), σ)
set_option maxRecDepth 100000 in
theorem C_X4_kept {g : pm_G} (p1 : Int64) (σ : ps_S) (P : Int32 → ps_S → Prop) (hK : ps_ok (qX4_kept p1 σ) P) : ps_C g mX4_kept 1 [.long p1] σ (ps_qI P) := by
  unfold qX4_kept at hK
  refine ps_C.of (ls := [some (.long p1), none]) 0 (by decide) rfl (Nat.le_of_ble_eq_true rfl) rfl ?_
  refine pm_lld d_X4_kept_0 rfl ?_
  refine pm_kl d_X4_kept_1 ?_
  refine pm_lcmp d_X4_kept_4 ?_
  refine pm_if_ge d_X4_kept_5 (fun c1 => ?_) (fun c1 => ?_)
  · replace hK := ps_ifT c1 hK
    refine pm_lld d_X4_kept_11 rfl ?_
    refine pm_kl d_X4_kept_12 ?_
    refine pm_lcmp d_X4_kept_15 ?_
    refine pm_if_le d_X4_kept_16 (fun c2 => ?_) (fun c2 => ?_)
    · replace hK := ps_ifT c2 hK
      refine pm_lld d_X4_kept_24 rfl ?_
      refine pm_l2i d_X4_kept_25 ?_
      have hQ := ps_so hK
      exact ps_iret rfl d_X4_kept_26 ⟨_, rfl, hQ⟩
    · replace hK := ps_ifF c2 hK
      refine pm_ki d_X4_kept_19 ?_
      refine pm_goto d_X4_kept_21 ?_
      have hQ := ps_so hK
      exact ps_iret rfl d_X4_kept_26 ⟨_, rfl, hQ⟩
  · replace hK := ps_ifF c1 hK
    refine pm_ki d_X4_kept_8 ?_
    have hQ := ps_so hK
    exact ps_iret rfl d_X4_kept_10 ⟨_, rfl, hQ⟩
