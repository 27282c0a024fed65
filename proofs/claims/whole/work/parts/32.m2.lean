def qX4_speedOf (B1 : Nat) (p2 : Int32) (σ : ps_S) : Option (Int32 × ps_S) :=
  if ps_in p2 4 = true then
  ps_let (σ.1 (B1 + 2) (p2).toNatClampNeg) fun v1 =>
  ps_let (σ.1 (12 + 7) 4) fun v2 =>
  ps_let (σ.1 (12 + 7) 5) fun v3 =>
  if v2 = v3 then
  some (v1, σ)
  else
  ps_let (σ.1 B1 12) fun v5 =>
  if v5 = p2 then
  some (v1, σ)
  else
  ps_let (σ.1 B1 8) fun v7 =>
  ps_bd (qX4_cellOf ((6 + p2)) v1 v7 σ) (fun v8 σ9 =>
  if ps_in v8 1000 = true then
  ps_let (σ9.1 23 (v8).toNatClampNeg) fun v10 =>
  if v10 = ((-1)) then
  ps_let (σ9.1 (12 + 7) 4) fun v14 =>
  ps_let (σ9.1 (12 + 7) 5) fun v15 =>
  ps_let (σ9.1 B1 8) fun v16 =>
  ps_bd (qX4_reckon v14 v15 v16 v1 p2 0 σ9) (fun v17 σ18 =>
  ps_let (if v17 < 999 then v17 else 999) fun v19 =>
  ps_let (if 0 < v19 then v19 else 0) fun v20 =>
  if ps_in v8 1000 = true then
  ps_let (ps_rI σ18 23 (upd (σ18.1 23) (v8).toNatClampNeg v20)) fun σ21 =>
  if ps_in v8 1000 = true then
  ps_let (σ21.1 23 (v8).toNatClampNeg) fun v22 =>
  some (v22, σ21)
  else none
  else none)
  else
  if ps_in v8 1000 = true then
  ps_let (σ9.1 23 (v8).toNatClampNeg) fun v12 =>
  some (v12, σ9)
  else none
  else none)
  else none
set_option maxRecDepth 100000 in
theorem C_X4_speedOf {g : pm_G} (B1 : Nat) (hB1 : ps_St B1) (p2 : Int32) (σ : ps_S) (P : Int32 → ps_S → Prop) (hK : ps_ok (qX4_speedOf B1 p2 σ) P) : ps_C g mX4_speedOf 3 [.ref (g.2.2.1 + 22), .ref (g.2.2.1 + B1), .int p2] σ (ps_qI P) := by
  unfold qX4_speedOf at hK
  refine ps_C.of (ls := [some (.ref (g.2.2.1 + 22)), some (.ref (g.2.2.1 + B1)), some (.int p2), none, none, none, none]) 4 (by decide) rfl (Nat.le_of_ble_eq_true rfl) rfl ?_
  refine pm_ald d_X4_speedOf_0 rfl ?_
  refine ps_getR (q := (B1 + 1)) d_X4_speedOf_1 hB1.at0 f_5_0_0 rfl ?_
  refine ps_getR (q := (B1 + 2)) d_X4_speedOf_4 (hB1.at 1 (by decide)) f_5_1_0 rfl ?_
  refine pm_ild d_X4_speedOf_7 rfl ?_
  obtain ⟨b26, hT⟩ := ps_gd hK
  replace hK := hT
  clear hT
  refine ps_iald d_X4_speedOf_8 (hB1.at 2 (by decide)) a_5_2 (ps_in_of b26) rfl ?_
  refine ps_topI (fun v1 ev1 => ?_)
  replace hK := ps_ltE ev1 hK
  refine pm_ist3 d_X4_speedOf_9 rfl (by decide) ?_
  refine pm_ald d_X4_speedOf_10 rfl ?_
  refine ps_getR (q := 12) d_X4_speedOf_11 at_22 f_4_1_0 rfl ?_
  refine ps_getR (q := (12 + 7)) d_X4_speedOf_14 ps_Ho12.at0 f_2_0_17 rfl ?_
  refine pm_ast4 d_X4_speedOf_17 rfl (by decide) ?_
  refine pm_ald d_X4_speedOf_19 rfl ?_
  refine ps_getI d_X4_speedOf_21 (ps_Ho12.at 7 (by decide)) f_2_7_4 rfl ?_
  refine ps_topI (fun v2 ev2 => ?_)
  replace hK := ps_ltE ev2 hK
  refine pm_ald d_X4_speedOf_24 rfl ?_
  refine ps_getI d_X4_speedOf_26 (ps_Ho12.at 7 (by decide)) f_2_7_5 rfl ?_
  refine ps_topI (fun v3 ev3 => ?_)
  replace hK := ps_ltE ev3 hK
  refine pm_icmp_eq d_X4_speedOf_29 (fun c4 => ?_) (fun c4 => ?_)
  · replace hK := ps_ifT c4 hK
    refine pm_ild d_X4_speedOf_40 rfl ?_
    have hQ := ps_so hK
    exact ps_iret rfl d_X4_speedOf_41 ⟨_, rfl, hQ⟩
  · replace hK := ps_ifF c4 hK
    refine pm_ald d_X4_speedOf_32 rfl ?_
    refine ps_getI d_X4_speedOf_33 hB1.at0 f_5_0_12 rfl ?_
    refine ps_topI (fun v5 ev5 => ?_)
    replace hK := ps_ltE ev5 hK
    refine pm_ild d_X4_speedOf_36 rfl ?_
    refine pm_icmp_ne d_X4_speedOf_37 (fun c6 => ?_) (fun c6 => ?_)
    · replace hK := ps_ifF c6 hK
      refine pm_ald d_X4_speedOf_42 rfl ?_
      refine pm_ki d_X4_speedOf_43 ?_
      refine pm_ild d_X4_speedOf_45 rfl ?_
      refine pm_iadd d_X4_speedOf_46 ?_
      refine pm_ild d_X4_speedOf_47 rfl ?_
      refine pm_ald d_X4_speedOf_48 rfl ?_
      refine ps_getI d_X4_speedOf_49 hB1.at0 f_5_0_8 rfl ?_
      refine ps_topI (fun v7 ev7 => ?_)
      replace hK := ps_ltE ev7 hK
      refine ps_cVI d_X4_speedOf_52 mv_X4_cellOf at_22 ob_4_1 rfl (As := [.int (6 + p2), .int v1, .int v7]) rfl rfl (ps_room.of (by omega) (by decide)) (Nat.le_of_ble_eq_true rfl) (C_X4_cellOf ((6 + p2)) v1 v7 σ _ (ps_bdE hK)) ?_
      intro v8 σ9 hT
      clear hK
      have hK := hT
      clear hT
      refine pm_ist5 d_X4_speedOf_55 rfl (by decide) ?_
      refine pm_ald d_X4_speedOf_57 rfl ?_
      refine ps_getR (q := 23) d_X4_speedOf_58 at_22 f_4_1_1 rfl ?_
      refine pm_ild d_X4_speedOf_61 rfl ?_
      obtain ⟨b25, hT⟩ := ps_gd hK
      replace hK := hT
      clear hT
      refine ps_iald d_X4_speedOf_63 at_23 a_4_2 (ps_in_of b25) rfl ?_
      refine ps_topI (fun v10 ev10 => ?_)
      replace hK := ps_ltE ev10 hK
      refine pm_ki d_X4_speedOf_64 ?_
      refine pm_icmp_ne d_X4_speedOf_65 (fun c11 => ?_) (fun c11 => ?_)
      · replace hK := ps_ifF c11 hK
        refine pm_ald d_X4_speedOf_110 rfl ?_
        refine ps_getR (q := 23) d_X4_speedOf_111 at_22 f_4_1_1 rfl ?_
        refine pm_ild d_X4_speedOf_114 rfl ?_
        obtain ⟨b13, hT⟩ := ps_gd hK
        replace hK := hT
        clear hT
        refine ps_iald d_X4_speedOf_116 at_23 a_4_2 (ps_in_of b13) rfl ?_
        refine ps_topI (fun v12 ev12 => ?_)
        replace hK := ps_ltE ev12 hK
        have hQ := ps_so hK
        exact ps_iret rfl d_X4_speedOf_117 ⟨_, rfl, hQ⟩
      · replace hK := ps_ifT c11 hK
        refine pm_ald d_X4_speedOf_68 rfl ?_
        refine pm_ald d_X4_speedOf_69 rfl ?_
        refine ps_getI d_X4_speedOf_71 (ps_Ho12.at 7 (by decide)) f_2_7_4 rfl ?_
        refine ps_topI (fun v14 ev14 => ?_)
        replace hK := ps_ltE ev14 hK
        refine pm_ald d_X4_speedOf_74 rfl ?_
        refine ps_getI d_X4_speedOf_76 (ps_Ho12.at 7 (by decide)) f_2_7_5 rfl ?_
        refine ps_topI (fun v15 ev15 => ?_)
        replace hK := ps_ltE ev15 hK
        refine pm_ald d_X4_speedOf_79 rfl ?_
        refine ps_getI d_X4_speedOf_80 hB1.at0 f_5_0_8 rfl ?_
        refine ps_topI (fun v16 ev16 => ?_)
        replace hK := ps_ltE ev16 hK
        refine pm_ild d_X4_speedOf_83 rfl ?_
        refine pm_ild d_X4_speedOf_84 rfl ?_
        refine pm_ki d_X4_speedOf_85 ?_
        refine ps_cVI d_X4_speedOf_86 mv_X4_reckon at_22 ob_4_1 rfl (As := [.int v14, .int v15, .int v16, .int v1, .int p2, .int 0]) rfl rfl (ps_room.of (by omega) (by decide)) (Nat.le_of_ble_eq_true rfl) (C_X4_reckon v14 v15 v16 v1 p2 0 σ9 _ (ps_bdE hK)) ?_
        intro v17 σ18 hT
        clear hK
        have hK := hT
        clear hT
        refine pm_ist6 d_X4_speedOf_89 rfl (by decide) ?_
        refine pm_ald d_X4_speedOf_91 rfl ?_
        refine ps_getR (q := 23) d_X4_speedOf_92 at_22 f_4_1_1 rfl ?_
        refine pm_ild d_X4_speedOf_95 rfl ?_
        refine pm_ki d_X4_speedOf_97 ?_
        refine pm_ki d_X4_speedOf_98 ?_
        refine pm_ild d_X4_speedOf_101 rfl ?_
        refine pm_mmin d_X4_speedOf_103 (ps_roomM (by omega)) (Nat.le_of_ble_eq_true rfl) ?_
        refine ps_topI (fun v19 ev19 => ?_)
        replace hK := ps_ltE ev19 hK
        refine pm_mmax d_X4_speedOf_106 (ps_roomM (by omega)) (Nat.le_of_ble_eq_true rfl) ?_
        refine ps_topI (fun v20 ev20 => ?_)
        replace hK := ps_ltE ev20 hK
        obtain ⟨b24, hT⟩ := ps_gd hK
        replace hK := hT
        clear hT
        refine ps_iast d_X4_speedOf_109 at_23 a_4_2 (ps_in_of b24) ?_
        refine ps_nmS (fun σ21 eσ21 => ?_)
        replace hK := ps_ltE eσ21 hK
        refine pm_ald d_X4_speedOf_110 rfl ?_
        refine ps_getR (q := 23) d_X4_speedOf_111 at_22 f_4_1_1 rfl ?_
        refine pm_ild d_X4_speedOf_114 rfl ?_
        obtain ⟨b23, hT⟩ := ps_gd hK
        replace hK := hT
        clear hT
        refine ps_iald d_X4_speedOf_116 at_23 a_4_2 (ps_in_of b23) rfl ?_
        refine ps_topI (fun v22 ev22 => ?_)
        replace hK := ps_ltE ev22 hK
        have hQ := ps_so hK
        exact ps_iret rfl d_X4_speedOf_117 ⟨_, rfl, hQ⟩
    · replace hK := ps_ifT c6 hK
      refine pm_ild d_X4_speedOf_40 rfl ?_
      have hQ := ps_so hK
      exact ps_iret rfl d_X4_speedOf_41 ⟨_, rfl, hQ⟩
def qX0_writeOut_7 (B1 : Nat) : Nat → Int32 → ps_S → Option (((Int32)) × ps_S)
  | 0, _, _ => none
  | n + 1, x3, σ =>
    ps_let (σ.1 12 7) fun v1 =>
    if v1 ≤ x3 then
    some (x3, σ)
    else
    ps_let (σ.1 B1 11) fun v3 =>
    if v3 = x3 then
    if ps_in x3 4 = true then
    ps_let (σ.1 (B1 + 5) (x3).toNatClampNeg) fun v5 =>
    if ps_in x3 4 = true then
    ps_let (σ.1 (B1 + 3) (x3).toNatClampNeg) fun v6 =>
    ps_let (if v6 < ((v5 / 100)) then v6 else ((v5 / 100))) fun v7 =>
    if ps_in x3 4 = true then
    ps_let (σ.1 (B1 + 3) (x3).toNatClampNeg) fun v8 =>
    if ps_in x3 4 = true then
    ps_let (ps_rI σ (B1 + 3) (upd (σ.1 (B1 + 3)) (x3).toNatClampNeg ((v8 - v7)))) fun σ9 =>
    if ps_in x3 4 = true then
    ps_let (σ9.1 (B1 + 3) (x3).toNatClampNeg) fun v10 =>
    if v10 = 0 then
    if ps_in x3 4 = true then
    ps_let (ps_rI σ9 (B1 + 5) (upd (σ9.1 (B1 + 5)) (x3).toNatClampNeg 0)) fun σ27 =>
    if ps_in x3 4 = true then
    ps_let (σ27.1 (B1 + 8) (x3).toNatClampNeg) fun v28 =>
    if ps_in x3 4 = true then
    ps_let (ps_rI σ27 (B1 + 8) (upd (σ27.1 (B1 + 8)) (x3).toNatClampNeg ((v28 + v7)))) fun σ29 =>
    if ps_in x3 4 = true then
    ps_let (σ29.1 (B1 + 9) (x3).toNatClampNeg) fun v30 =>
    if ps_in x3 4 = true then
    ps_let (ps_rI σ29 (B1 + 9) (upd (σ29.1 (B1 + 9)) (x3).toNatClampNeg ((v30 + v7)))) fun σ31 =>
    ps_let (σ31.1 B1 9) fun v32 =>
    ps_let (ps_rI σ31 B1 (upd (σ31.1 B1) 9 ((v32 - v7)))) fun σ33 =>
    ps_let (x3 + 1) fun v34 =>
    qX0_writeOut_7 B1 n v34 σ33
    else none
    else none
    else none
    else none
    else none
    else
    if ps_in x3 4 = true then
    ps_let (σ9.1 (B1 + 5) (x3).toNatClampNeg) fun v12 =>
    if ps_in x3 4 = true then
    ps_let (ps_rI σ9 (B1 + 5) (upd (σ9.1 (B1 + 5)) (x3).toNatClampNeg ((v12 - ((100 * v7)))))) fun σ13 =>
    if ps_in x3 4 = true then
    ps_let (σ13.1 (B1 + 8) (x3).toNatClampNeg) fun v14 =>
    if ps_in x3 4 = true then
    ps_let (ps_rI σ13 (B1 + 8) (upd (σ13.1 (B1 + 8)) (x3).toNatClampNeg ((v14 + v7)))) fun σ15 =>
    if ps_in x3 4 = true then
    ps_let (σ15.1 (B1 + 9) (x3).toNatClampNeg) fun v16 =>
    if ps_in x3 4 = true then
    ps_let (ps_rI σ15 (B1 + 9) (upd (σ15.1 (B1 + 9)) (x3).toNatClampNeg ((v16 + v7)))) fun σ17 =>
    ps_let (σ17.1 B1 9) fun v18 =>
    ps_let (ps_rI σ17 B1 (upd (σ17.1 B1) 9 ((v18 - v7)))) fun σ19 =>
    ps_let (x3 + 1) fun v20 =>
    qX0_writeOut_7 B1 n v20 σ19
    else none
    else none
    else none
    else none
    else none
    else none
    else none
    else none
    else none
    else none
    else none
    else
    if ps_in x3 4 = true then
    ps_let (σ.1 (B1 + 5) (x3).toNatClampNeg) fun v45 =>
    ps_bd (qX4_speedOf B1 x3 σ) (fun v46 σ47 =>
    if ps_in x3 4 = true then
    ps_let (ps_rI σ47 (B1 + 5) (upd (σ47.1 (B1 + 5)) (x3).toNatClampNeg ((v45 + v46)))) fun σ48 =>
    if ps_in x3 4 = true then
    ps_let (σ48.1 (B1 + 5) (x3).toNatClampNeg) fun v49 =>
    if ps_in x3 4 = true then
    ps_let (σ48.1 (B1 + 3) (x3).toNatClampNeg) fun v50 =>
    ps_let (if v50 < ((v49 / 100)) then v50 else ((v49 / 100))) fun v51 =>
    if ps_in x3 4 = true then
    ps_let (σ48.1 (B1 + 3) (x3).toNatClampNeg) fun v52 =>
    if ps_in x3 4 = true then
    ps_let (ps_rI σ48 (B1 + 3) (upd (σ48.1 (B1 + 3)) (x3).toNatClampNeg ((v52 - v51)))) fun σ53 =>
    if ps_in x3 4 = true then
    ps_let (σ53.1 (B1 + 3) (x3).toNatClampNeg) fun v54 =>
    if v54 = 0 then
    if ps_in x3 4 = true then
    ps_let (ps_rI σ53 (B1 + 5) (upd (σ53.1 (B1 + 5)) (x3).toNatClampNeg 0)) fun σ71 =>
    if ps_in x3 4 = true then
    ps_let (σ71.1 (B1 + 8) (x3).toNatClampNeg) fun v72 =>
    if ps_in x3 4 = true then
    ps_let (ps_rI σ71 (B1 + 8) (upd (σ71.1 (B1 + 8)) (x3).toNatClampNeg ((v72 + v51)))) fun σ73 =>
    if ps_in x3 4 = true then
    ps_let (σ73.1 (B1 + 9) (x3).toNatClampNeg) fun v74 =>
    if ps_in x3 4 = true then
    ps_let (ps_rI σ73 (B1 + 9) (upd (σ73.1 (B1 + 9)) (x3).toNatClampNeg ((v74 + v51)))) fun σ75 =>
    ps_let (σ75.1 B1 9) fun v76 =>
    ps_let (ps_rI σ75 B1 (upd (σ75.1 B1) 9 ((v76 - v51)))) fun σ77 =>
    ps_let (x3 + 1) fun v78 =>
    qX0_writeOut_7 B1 n v78 σ77
    else none
    else none
    else none
    else none
    else none
    else
    if ps_in x3 4 = true then
    ps_let (σ53.1 (B1 + 5) (x3).toNatClampNeg) fun v56 =>
    if ps_in x3 4 = true then
    ps_let (ps_rI σ53 (B1 + 5) (upd (σ53.1 (B1 + 5)) (x3).toNatClampNeg ((v56 - ((100 * v51)))))) fun σ57 =>
    if ps_in x3 4 = true then
    ps_let (σ57.1 (B1 + 8) (x3).toNatClampNeg) fun v58 =>
    if ps_in x3 4 = true then
    ps_let (ps_rI σ57 (B1 + 8) (upd (σ57.1 (B1 + 8)) (x3).toNatClampNeg ((v58 + v51)))) fun σ59 =>
    if ps_in x3 4 = true then
    ps_let (σ59.1 (B1 + 9) (x3).toNatClampNeg) fun v60 =>
    if ps_in x3 4 = true then
    ps_let (ps_rI σ59 (B1 + 9) (upd (σ59.1 (B1 + 9)) (x3).toNatClampNeg ((v60 + v51)))) fun σ61 =>
    ps_let (σ61.1 B1 9) fun v62 =>
    ps_let (ps_rI σ61 B1 (upd (σ61.1 B1) 9 ((v62 - v51)))) fun σ63 =>
    ps_let (x3 + 1) fun v64 =>
    qX0_writeOut_7 B1 n v64 σ63
    else none
    else none
    else none
    else none
    else none
    else none
    else none
    else none
    else none
    else none
    else none
    else none)
    else none
set_option maxRecDepth 100000 in
theorem L_X0_writeOut_7 {g : pm_G} (D : Nat) (hD : 4 ≤ D) {P : Unit → ps_S → Prop} (B1 : Nat) (hB1 : ps_St B1) : ∀ (n : Nat) (x3 : Int32) (σ : ps_S), ps_ok (qX0_writeOut_7 B1 n x3 σ) (fun res σ => match res with | x3 => pm_W g mX0_writeOut (ps_F g D (ps_qV P)) 0 0 145 [some (.ref (g.2.2.1 + 21)), some (.ref (g.2.2.1 + B1)), some (.ref (g.2.2.1 + (B1 + 1))), some (.int x3), none] [] 345 (ps_E g σ)) → pm_W g mX0_writeOut (ps_F g D (ps_qV P)) 0 0 7 [some (.ref (g.2.2.1 + 21)), some (.ref (g.2.2.1 + B1)), some (.ref (g.2.2.1 + (B1 + 1))), some (.int x3), none] [] 345 (ps_E g σ) := by
  intro n
  induction n with
  | zero => intro x3 σ hK; exact (ps_no hK).elim
  | succ n ih =>
    intro x3 σ hK
    rw [qX0_writeOut_7] at hK
    refine pm_ild d_X0_writeOut_7 rfl ?_
    refine pm_ald d_X0_writeOut_8 rfl ?_
    refine ps_getR (q := 12) d_X0_writeOut_9 at_21 f_4_0_0 rfl ?_
    refine ps_getI d_X0_writeOut_12 ps_Ho12.at0 f_2_0_7 rfl ?_
    refine ps_topI (fun v1 ev1 => ?_)
    replace hK := ps_ltE ev1 hK
    refine pm_icmp_ge d_X0_writeOut_15 (fun c2 => ?_) (fun c2 => ?_)
    · replace hK := ps_ifT c2 hK
      exact ps_so hK
    · replace hK := ps_ifF c2 hK
      refine pm_ald d_X0_writeOut_18 rfl ?_
      refine ps_getI d_X0_writeOut_19 hB1.at0 f_5_0_11 rfl ?_
      refine ps_topI (fun v3 ev3 => ?_)
      replace hK := ps_ltE ev3 hK
      refine pm_ild d_X0_writeOut_22 rfl ?_
      refine pm_icmp_eq d_X0_writeOut_23 (fun c4 => ?_) (fun c4 => ?_)
      · replace hK := ps_ifT c4 hK
        refine pm_ald d_X0_writeOut_44 rfl ?_
        refine ps_getR (q := (B1 + 5)) d_X0_writeOut_45 (hB1.at 1 (by decide)) f_5_1_3 rfl ?_
        refine pm_ild d_X0_writeOut_48 rfl ?_
        obtain ⟨b44, hT⟩ := ps_gd hK
        replace hK := hT
        clear hT
        refine ps_iald d_X0_writeOut_49 (hB1.at 5 (by decide)) a_5_5 (ps_in_of b44) rfl ?_
        refine ps_topI (fun v5 ev5 => ?_)
        replace hK := ps_ltE ev5 hK
        refine pm_ki d_X0_writeOut_50 ?_
        refine pm_idiv d_X0_writeOut_52 (by decide) ?_
        refine pm_ald d_X0_writeOut_53 rfl ?_
        refine ps_getR (q := (B1 + 3)) d_X0_writeOut_54 (hB1.at 1 (by decide)) f_5_1_1 rfl ?_
        refine pm_ild d_X0_writeOut_57 rfl ?_
        obtain ⟨b43, hT⟩ := ps_gd hK
        replace hK := hT
        clear hT
        refine ps_iald d_X0_writeOut_58 (hB1.at 3 (by decide)) a_5_3 (ps_in_of b43) rfl ?_
        refine ps_topI (fun v6 ev6 => ?_)
        replace hK := ps_ltE ev6 hK
        refine pm_mmin d_X0_writeOut_59 (ps_roomM (by omega)) (Nat.le_of_ble_eq_true rfl) ?_
        refine ps_topI (fun v7 ev7 => ?_)
        replace hK := ps_ltE ev7 hK
        refine pm_ist4 d_X0_writeOut_62 rfl (by decide) ?_
        refine pm_ald d_X0_writeOut_64 rfl ?_
        refine ps_getR (q := (B1 + 3)) d_X0_writeOut_65 (hB1.at 1 (by decide)) f_5_1_1 rfl ?_
        refine pm_ild d_X0_writeOut_68 rfl ?_
        refine pm_dup2 d_X0_writeOut_69 rfl rfl ?_
        obtain ⟨b42, hT⟩ := ps_gd hK
        replace hK := hT
        clear hT
        refine ps_iald d_X0_writeOut_70 (hB1.at 3 (by decide)) a_5_3 (ps_in_of b42) rfl ?_
        refine ps_topI (fun v8 ev8 => ?_)
        replace hK := ps_ltE ev8 hK
        refine pm_ild d_X0_writeOut_71 rfl ?_
        refine pm_isub d_X0_writeOut_73 ?_
        obtain ⟨b41, hT⟩ := ps_gd hK
        replace hK := hT
        clear hT
        refine ps_iast d_X0_writeOut_74 (hB1.at 3 (by decide)) a_5_3 (ps_in_of b41) ?_
        refine ps_nmS (fun σ9 eσ9 => ?_)
        replace hK := ps_ltE eσ9 hK
        refine pm_ald d_X0_writeOut_75 rfl ?_
        refine ps_getR (q := (B1 + 5)) d_X0_writeOut_76 (hB1.at 1 (by decide)) f_5_1_3 rfl ?_
        refine pm_ild d_X0_writeOut_79 rfl ?_
        refine pm_ald d_X0_writeOut_80 rfl ?_
        refine ps_getR (q := (B1 + 3)) d_X0_writeOut_81 (hB1.at 1 (by decide)) f_5_1_1 rfl ?_
        refine pm_ild d_X0_writeOut_84 rfl ?_
        obtain ⟨b40, hT⟩ := ps_gd hK
        replace hK := hT
        clear hT
        refine ps_iald d_X0_writeOut_85 (hB1.at 3 (by decide)) a_5_3 (ps_in_of b40) rfl ?_
        refine ps_topI (fun v10 ev10 => ?_)
        replace hK := ps_ltE ev10 hK
        refine pm_if_ne d_X0_writeOut_86 (fun c11 => ?_) (fun c11 => ?_)
        · replace hK := ps_ifF c11 hK
          refine pm_ald d_X0_writeOut_93 rfl ?_
          refine ps_getR (q := (B1 + 5)) d_X0_writeOut_94 (hB1.at 1 (by decide)) f_5_1_3 rfl ?_
          refine pm_ild d_X0_writeOut_97 rfl ?_
          obtain ⟨b26, hT⟩ := ps_gd hK
          replace hK := hT
          clear hT
          refine ps_iald d_X0_writeOut_98 (hB1.at 5 (by decide)) a_5_5 (ps_in_of b26) rfl ?_
          refine ps_topI (fun v12 ev12 => ?_)
          replace hK := ps_ltE ev12 hK
          refine pm_ki d_X0_writeOut_99 ?_
          refine pm_ild d_X0_writeOut_101 rfl ?_
          refine pm_imul d_X0_writeOut_103 ?_
          refine pm_isub d_X0_writeOut_104 ?_
          obtain ⟨b25, hT⟩ := ps_gd hK
          replace hK := hT
          clear hT
          refine ps_iast d_X0_writeOut_105 (hB1.at 5 (by decide)) a_5_5 (ps_in_of b25) ?_
          refine ps_nmS (fun σ13 eσ13 => ?_)
          replace hK := ps_ltE eσ13 hK
          refine pm_ald d_X0_writeOut_106 rfl ?_
          refine ps_getR (q := (B1 + 8)) d_X0_writeOut_107 (hB1.at 1 (by decide)) f_5_1_6 rfl ?_
          refine pm_ild d_X0_writeOut_110 rfl ?_
          refine pm_dup2 d_X0_writeOut_111 rfl rfl ?_
          obtain ⟨b24, hT⟩ := ps_gd hK
          replace hK := hT
          clear hT
          refine ps_iald d_X0_writeOut_112 (hB1.at 8 (by decide)) a_5_8 (ps_in_of b24) rfl ?_
          refine ps_topI (fun v14 ev14 => ?_)
          replace hK := ps_ltE ev14 hK
          refine pm_ild d_X0_writeOut_113 rfl ?_
          refine pm_iadd d_X0_writeOut_115 ?_
          obtain ⟨b23, hT⟩ := ps_gd hK
          replace hK := hT
          clear hT
          refine ps_iast d_X0_writeOut_116 (hB1.at 8 (by decide)) a_5_8 (ps_in_of b23) ?_
          refine ps_nmS (fun σ15 eσ15 => ?_)
          replace hK := ps_ltE eσ15 hK
          refine pm_ald d_X0_writeOut_117 rfl ?_
          refine ps_getR (q := (B1 + 9)) d_X0_writeOut_118 (hB1.at 1 (by decide)) f_5_1_7 rfl ?_
          refine pm_ild d_X0_writeOut_121 rfl ?_
          refine pm_dup2 d_X0_writeOut_122 rfl rfl ?_
          obtain ⟨b22, hT⟩ := ps_gd hK
          replace hK := hT
          clear hT
          refine ps_iald d_X0_writeOut_123 (hB1.at 9 (by decide)) a_5_9 (ps_in_of b22) rfl ?_
          refine ps_topI (fun v16 ev16 => ?_)
          replace hK := ps_ltE ev16 hK
          refine pm_ild d_X0_writeOut_124 rfl ?_
          refine pm_iadd d_X0_writeOut_126 ?_
          obtain ⟨b21, hT⟩ := ps_gd hK
          replace hK := hT
          clear hT
          refine ps_iast d_X0_writeOut_127 (hB1.at 9 (by decide)) a_5_9 (ps_in_of b21) ?_
          refine ps_nmS (fun σ17 eσ17 => ?_)
          replace hK := ps_ltE eσ17 hK
          refine pm_ald d_X0_writeOut_128 rfl ?_
          refine pm_dup d_X0_writeOut_129 rfl ?_
          refine ps_getI d_X0_writeOut_130 hB1.at0 f_5_0_9 rfl ?_
          refine ps_topI (fun v18 ev18 => ?_)
          replace hK := ps_ltE ev18 hK
          refine pm_ild d_X0_writeOut_133 rfl ?_
          refine pm_isub d_X0_writeOut_135 ?_
          refine ps_putI d_X0_writeOut_136 hB1.at0 f_5_0_9 rfl rfl ?_
          refine ps_nmS (fun σ19 eσ19 => ?_)
          replace hK := ps_ltE eσ19 hK
          refine pm_inc3 d_X0_writeOut_139 rfl ?_
          obtain ⟨v20, ev20⟩ : ∃ y : Int32, y = x3 + 1 := ⟨_, rfl⟩
          rw [← ev20]
          replace hK := ps_ltE ev20 hK
          refine pm_goto d_X0_writeOut_142 ?_
          refine pm_wk (ls' := [some (.ref (g.2.2.1 + 21)), some (.ref (g.2.2.1 + B1)), some (.ref (g.2.2.1 + (B1 + 1))), some (.int v20), none]) ⟨rfl, ⟨rfl, ⟨rfl, ⟨rfl, trivial⟩⟩⟩⟩ ?_
          exact ih _ _ hK
        · replace hK := ps_ifT c11 hK
          refine pm_ki d_X0_writeOut_89 ?_
          refine pm_goto d_X0_writeOut_90 ?_
          obtain ⟨b39, hT⟩ := ps_gd hK
          replace hK := hT
          clear hT
          refine ps_iast d_X0_writeOut_105 (hB1.at 5 (by decide)) a_5_5 (ps_in_of b39) ?_
          refine ps_nmS (fun σ27 eσ27 => ?_)
          replace hK := ps_ltE eσ27 hK
          refine pm_ald d_X0_writeOut_106 rfl ?_
          refine ps_getR (q := (B1 + 8)) d_X0_writeOut_107 (hB1.at 1 (by decide)) f_5_1_6 rfl ?_
          refine pm_ild d_X0_writeOut_110 rfl ?_
          refine pm_dup2 d_X0_writeOut_111 rfl rfl ?_
          obtain ⟨b38, hT⟩ := ps_gd hK
          replace hK := hT
          clear hT
          refine ps_iald d_X0_writeOut_112 (hB1.at 8 (by decide)) a_5_8 (ps_in_of b38) rfl ?_
          refine ps_topI (fun v28 ev28 => ?_)
          replace hK := ps_ltE ev28 hK
          refine pm_ild d_X0_writeOut_113 rfl ?_
          refine pm_iadd d_X0_writeOut_115 ?_
          obtain ⟨b37, hT⟩ := ps_gd hK
          replace hK := hT
          clear hT
          refine ps_iast d_X0_writeOut_116 (hB1.at 8 (by decide)) a_5_8 (ps_in_of b37) ?_
          refine ps_nmS (fun σ29 eσ29 => ?_)
          replace hK := ps_ltE eσ29 hK
          refine pm_ald d_X0_writeOut_117 rfl ?_
          refine ps_getR (q := (B1 + 9)) d_X0_writeOut_118 (hB1.at 1 (by decide)) f_5_1_7 rfl ?_
          refine pm_ild d_X0_writeOut_121 rfl ?_
          refine pm_dup2 d_X0_writeOut_122 rfl rfl ?_
          obtain ⟨b36, hT⟩ := ps_gd hK
          replace hK := hT
          clear hT
          refine ps_iald d_X0_writeOut_123 (hB1.at 9 (by decide)) a_5_9 (ps_in_of b36) rfl ?_
          refine ps_topI (fun v30 ev30 => ?_)
          replace hK := ps_ltE ev30 hK
          refine pm_ild d_X0_writeOut_124 rfl ?_
          refine pm_iadd d_X0_writeOut_126 ?_
          obtain ⟨b35, hT⟩ := ps_gd hK
          replace hK := hT
          clear hT
          refine ps_iast d_X0_writeOut_127 (hB1.at 9 (by decide)) a_5_9 (ps_in_of b35) ?_
          refine ps_nmS (fun σ31 eσ31 => ?_)
          replace hK := ps_ltE eσ31 hK
          refine pm_ald d_X0_writeOut_128 rfl ?_
          refine pm_dup d_X0_writeOut_129 rfl ?_
          refine ps_getI d_X0_writeOut_130 hB1.at0 f_5_0_9 rfl ?_
          refine ps_topI (fun v32 ev32 => ?_)
          replace hK := ps_ltE ev32 hK
          refine pm_ild d_X0_writeOut_133 rfl ?_
          refine pm_isub d_X0_writeOut_135 ?_
          refine ps_putI d_X0_writeOut_136 hB1.at0 f_5_0_9 rfl rfl ?_
          refine ps_nmS (fun σ33 eσ33 => ?_)
          replace hK := ps_ltE eσ33 hK
          refine pm_inc3 d_X0_writeOut_139 rfl ?_
          obtain ⟨v34, ev34⟩ : ∃ y : Int32, y = x3 + 1 := ⟨_, rfl⟩
          rw [← ev34]
          replace hK := ps_ltE ev34 hK
          refine pm_goto d_X0_writeOut_142 ?_
          refine pm_wk (ls' := [some (.ref (g.2.2.1 + 21)), some (.ref (g.2.2.1 + B1)), some (.ref (g.2.2.1 + (B1 + 1))), some (.int v34), none]) ⟨rfl, ⟨rfl, ⟨rfl, ⟨rfl, trivial⟩⟩⟩⟩ ?_
          exact ih _ _ hK
      · replace hK := ps_ifF c4 hK
        refine pm_ald d_X0_writeOut_26 rfl ?_
        refine ps_getR (q := (B1 + 5)) d_X0_writeOut_27 (hB1.at 1 (by decide)) f_5_1_3 rfl ?_
        refine pm_ild d_X0_writeOut_30 rfl ?_
        refine pm_dup2 d_X0_writeOut_31 rfl rfl ?_
        obtain ⟨b90, hT⟩ := ps_gd hK
        replace hK := hT
        clear hT
        refine ps_iald d_X0_writeOut_32 (hB1.at 5 (by decide)) a_5_5 (ps_in_of b90) rfl ?_
        refine ps_topI (fun v45 ev45 => ?_)
        replace hK := ps_ltE ev45 hK
        refine pm_ald d_X0_writeOut_33 rfl ?_
        refine ps_getR (q := 22) d_X0_writeOut_34 at_21 f_4_0_1 rfl ?_
        refine pm_ald d_X0_writeOut_37 rfl ?_
        refine pm_ild d_X0_writeOut_38 rfl ?_
        refine ps_cVI d_X0_writeOut_39 mv_X4_speedOf at_22 ob_4_1 rfl (As := [.ref (g.2.2.1 + B1), .int x3]) rfl rfl (ps_room.of (by omega) (by decide)) (Nat.le_of_ble_eq_true rfl) (C_X4_speedOf B1 hB1 x3 σ _ (ps_bdE hK)) ?_
        intro v46 σ47 hT
        clear hK
        have hK := hT
        clear hT
        refine pm_iadd d_X0_writeOut_42 ?_
        obtain ⟨b89, hT⟩ := ps_gd hK
        replace hK := hT
        clear hT
        refine ps_iast d_X0_writeOut_43 (hB1.at 5 (by decide)) a_5_5 (ps_in_of b89) ?_
        refine ps_nmS (fun σ48 eσ48 => ?_)
        replace hK := ps_ltE eσ48 hK
        refine pm_ald d_X0_writeOut_44 rfl ?_
        refine ps_getR (q := (B1 + 5)) d_X0_writeOut_45 (hB1.at 1 (by decide)) f_5_1_3 rfl ?_
        refine pm_ild d_X0_writeOut_48 rfl ?_
        obtain ⟨b88, hT⟩ := ps_gd hK
        replace hK := hT
        clear hT
        refine ps_iald d_X0_writeOut_49 (hB1.at 5 (by decide)) a_5_5 (ps_in_of b88) rfl ?_
        refine ps_topI (fun v49 ev49 => ?_)
        replace hK := ps_ltE ev49 hK
        refine pm_ki d_X0_writeOut_50 ?_
        refine pm_idiv d_X0_writeOut_52 (by decide) ?_
        refine pm_ald d_X0_writeOut_53 rfl ?_
        refine ps_getR (q := (B1 + 3)) d_X0_writeOut_54 (hB1.at 1 (by decide)) f_5_1_1 rfl ?_
        refine pm_ild d_X0_writeOut_57 rfl ?_
        obtain ⟨b87, hT⟩ := ps_gd hK
        replace hK := hT
        clear hT
        refine ps_iald d_X0_writeOut_58 (hB1.at 3 (by decide)) a_5_3 (ps_in_of b87) rfl ?_
        refine ps_topI (fun v50 ev50 => ?_)
        replace hK := ps_ltE ev50 hK
        refine pm_mmin d_X0_writeOut_59 (ps_roomM (by omega)) (Nat.le_of_ble_eq_true rfl) ?_
        refine ps_topI (fun v51 ev51 => ?_)
        replace hK := ps_ltE ev51 hK
        refine pm_ist4 d_X0_writeOut_62 rfl (by decide) ?_
        refine pm_ald d_X0_writeOut_64 rfl ?_
        refine ps_getR (q := (B1 + 3)) d_X0_writeOut_65 (hB1.at 1 (by decide)) f_5_1_1 rfl ?_
        refine pm_ild d_X0_writeOut_68 rfl ?_
        refine pm_dup2 d_X0_writeOut_69 rfl rfl ?_
        obtain ⟨b86, hT⟩ := ps_gd hK
        replace hK := hT
        clear hT
        refine ps_iald d_X0_writeOut_70 (hB1.at 3 (by decide)) a_5_3 (ps_in_of b86) rfl ?_
        refine ps_topI (fun v52 ev52 => ?_)
        replace hK := ps_ltE ev52 hK
        refine pm_ild d_X0_writeOut_71 rfl ?_
        refine pm_isub d_X0_writeOut_73 ?_
        obtain ⟨b85, hT⟩ := ps_gd hK
        replace hK := hT
        clear hT
        refine ps_iast d_X0_writeOut_74 (hB1.at 3 (by decide)) a_5_3 (ps_in_of b85) ?_
        refine ps_nmS (fun σ53 eσ53 => ?_)
        replace hK := ps_ltE eσ53 hK
        refine pm_ald d_X0_writeOut_75 rfl ?_
        refine ps_getR (q := (B1 + 5)) d_X0_writeOut_76 (hB1.at 1 (by decide)) f_5_1_3 rfl ?_
        refine pm_ild d_X0_writeOut_79 rfl ?_
        refine pm_ald d_X0_writeOut_80 rfl ?_
        refine ps_getR (q := (B1 + 3)) d_X0_writeOut_81 (hB1.at 1 (by decide)) f_5_1_1 rfl ?_
        refine pm_ild d_X0_writeOut_84 rfl ?_
        obtain ⟨b84, hT⟩ := ps_gd hK
        replace hK := hT
        clear hT
        refine ps_iald d_X0_writeOut_85 (hB1.at 3 (by decide)) a_5_3 (ps_in_of b84) rfl ?_
        refine ps_topI (fun v54 ev54 => ?_)
        replace hK := ps_ltE ev54 hK
        refine pm_if_ne d_X0_writeOut_86 (fun c55 => ?_) (fun c55 => ?_)
        · replace hK := ps_ifF c55 hK
          refine pm_ald d_X0_writeOut_93 rfl ?_
          refine ps_getR (q := (B1 + 5)) d_X0_writeOut_94 (hB1.at 1 (by decide)) f_5_1_3 rfl ?_
          refine pm_ild d_X0_writeOut_97 rfl ?_
          obtain ⟨b70, hT⟩ := ps_gd hK
          replace hK := hT
          clear hT
          refine ps_iald d_X0_writeOut_98 (hB1.at 5 (by decide)) a_5_5 (ps_in_of b70) rfl ?_
          refine ps_topI (fun v56 ev56 => ?_)
          replace hK := ps_ltE ev56 hK
          refine pm_ki d_X0_writeOut_99 ?_
          refine pm_ild d_X0_writeOut_101 rfl ?_
          refine pm_imul d_X0_writeOut_103 ?_
          refine pm_isub d_X0_writeOut_104 ?_
          obtain ⟨b69, hT⟩ := ps_gd hK
          replace hK := hT
          clear hT
          refine ps_iast d_X0_writeOut_105 (hB1.at 5 (by decide)) a_5_5 (ps_in_of b69) ?_
          refine ps_nmS (fun σ57 eσ57 => ?_)
          replace hK := ps_ltE eσ57 hK
          refine pm_ald d_X0_writeOut_106 rfl ?_
          refine ps_getR (q := (B1 + 8)) d_X0_writeOut_107 (hB1.at 1 (by decide)) f_5_1_6 rfl ?_
          refine pm_ild d_X0_writeOut_110 rfl ?_
          refine pm_dup2 d_X0_writeOut_111 rfl rfl ?_
          obtain ⟨b68, hT⟩ := ps_gd hK
          replace hK := hT
          clear hT
          refine ps_iald d_X0_writeOut_112 (hB1.at 8 (by decide)) a_5_8 (ps_in_of b68) rfl ?_
          refine ps_topI (fun v58 ev58 => ?_)
          replace hK := ps_ltE ev58 hK
          refine pm_ild d_X0_writeOut_113 rfl ?_
          refine pm_iadd d_X0_writeOut_115 ?_
          obtain ⟨b67, hT⟩ := ps_gd hK
          replace hK := hT
          clear hT
          refine ps_iast d_X0_writeOut_116 (hB1.at 8 (by decide)) a_5_8 (ps_in_of b67) ?_
          refine ps_nmS (fun σ59 eσ59 => ?_)
          replace hK := ps_ltE eσ59 hK
          refine pm_ald d_X0_writeOut_117 rfl ?_
          refine ps_getR (q := (B1 + 9)) d_X0_writeOut_118 (hB1.at 1 (by decide)) f_5_1_7 rfl ?_
          refine pm_ild d_X0_writeOut_121 rfl ?_
          refine pm_dup2 d_X0_writeOut_122 rfl rfl ?_
          obtain ⟨b66, hT⟩ := ps_gd hK
          replace hK := hT
          clear hT
          refine ps_iald d_X0_writeOut_123 (hB1.at 9 (by decide)) a_5_9 (ps_in_of b66) rfl ?_
          refine ps_topI (fun v60 ev60 => ?_)
          replace hK := ps_ltE ev60 hK
          refine pm_ild d_X0_writeOut_124 rfl ?_
          refine pm_iadd d_X0_writeOut_126 ?_
          obtain ⟨b65, hT⟩ := ps_gd hK
          replace hK := hT
          clear hT
          refine ps_iast d_X0_writeOut_127 (hB1.at 9 (by decide)) a_5_9 (ps_in_of b65) ?_
          refine ps_nmS (fun σ61 eσ61 => ?_)
          replace hK := ps_ltE eσ61 hK
          refine pm_ald d_X0_writeOut_128 rfl ?_
          refine pm_dup d_X0_writeOut_129 rfl ?_
          refine ps_getI d_X0_writeOut_130 hB1.at0 f_5_0_9 rfl ?_
          refine ps_topI (fun v62 ev62 => ?_)
          replace hK := ps_ltE ev62 hK
          refine pm_ild d_X0_writeOut_133 rfl ?_
          refine pm_isub d_X0_writeOut_135 ?_
          refine ps_putI d_X0_writeOut_136 hB1.at0 f_5_0_9 rfl rfl ?_
          refine ps_nmS (fun σ63 eσ63 => ?_)
          replace hK := ps_ltE eσ63 hK
          refine pm_inc3 d_X0_writeOut_139 rfl ?_
          obtain ⟨v64, ev64⟩ : ∃ y : Int32, y = x3 + 1 := ⟨_, rfl⟩
          rw [← ev64]
          replace hK := ps_ltE ev64 hK
          refine pm_goto d_X0_writeOut_142 ?_
          refine pm_wk (ls' := [some (.ref (g.2.2.1 + 21)), some (.ref (g.2.2.1 + B1)), some (.ref (g.2.2.1 + (B1 + 1))), some (.int v64), none]) ⟨rfl, ⟨rfl, ⟨rfl, ⟨rfl, trivial⟩⟩⟩⟩ ?_
          exact ih _ _ hK
        · replace hK := ps_ifT c55 hK
          refine pm_ki d_X0_writeOut_89 ?_
          refine pm_goto d_X0_writeOut_90 ?_
          obtain ⟨b83, hT⟩ := ps_gd hK
          replace hK := hT
          clear hT
          refine ps_iast d_X0_writeOut_105 (hB1.at 5 (by decide)) a_5_5 (ps_in_of b83) ?_
          refine ps_nmS (fun σ71 eσ71 => ?_)
          replace hK := ps_ltE eσ71 hK
          refine pm_ald d_X0_writeOut_106 rfl ?_
          refine ps_getR (q := (B1 + 8)) d_X0_writeOut_107 (hB1.at 1 (by decide)) f_5_1_6 rfl ?_
          refine pm_ild d_X0_writeOut_110 rfl ?_
          refine pm_dup2 d_X0_writeOut_111 rfl rfl ?_
          obtain ⟨b82, hT⟩ := ps_gd hK
          replace hK := hT
          clear hT
          refine ps_iald d_X0_writeOut_112 (hB1.at 8 (by decide)) a_5_8 (ps_in_of b82) rfl ?_
          refine ps_topI (fun v72 ev72 => ?_)
          replace hK := ps_ltE ev72 hK
          refine pm_ild d_X0_writeOut_113 rfl ?_
          refine pm_iadd d_X0_writeOut_115 ?_
          obtain ⟨b81, hT⟩ := ps_gd hK
          replace hK := hT
          clear hT
          refine ps_iast d_X0_writeOut_116 (hB1.at 8 (by decide)) a_5_8 (ps_in_of b81) ?_
          refine ps_nmS (fun σ73 eσ73 => ?_)
          replace hK := ps_ltE eσ73 hK
          refine pm_ald d_X0_writeOut_117 rfl ?_
          refine ps_getR (q := (B1 + 9)) d_X0_writeOut_118 (hB1.at 1 (by decide)) f_5_1_7 rfl ?_
          refine pm_ild d_X0_writeOut_121 rfl ?_
          refine pm_dup2 d_X0_writeOut_122 rfl rfl ?_
          obtain ⟨b80, hT⟩ := ps_gd hK
          replace hK := hT
          clear hT
          refine ps_iald d_X0_writeOut_123 (hB1.at 9 (by decide)) a_5_9 (ps_in_of b80) rfl ?_
          refine ps_topI (fun v74 ev74 => ?_)
          replace hK := ps_ltE ev74 hK
          refine pm_ild d_X0_writeOut_124 rfl ?_
          refine pm_iadd d_X0_writeOut_126 ?_
          obtain ⟨b79, hT⟩ := ps_gd hK
          replace hK := hT
          clear hT
          refine ps_iast d_X0_writeOut_127 (hB1.at 9 (by decide)) a_5_9 (ps_in_of b79) ?_
          refine ps_nmS (fun σ75 eσ75 => ?_)
          replace hK := ps_ltE eσ75 hK
          refine pm_ald d_X0_writeOut_128 rfl ?_
          refine pm_dup d_X0_writeOut_129 rfl ?_
          refine ps_getI d_X0_writeOut_130 hB1.at0 f_5_0_9 rfl ?_
          refine ps_topI (fun v76 ev76 => ?_)
          replace hK := ps_ltE ev76 hK
          refine pm_ild d_X0_writeOut_133 rfl ?_
          refine pm_isub d_X0_writeOut_135 ?_
          refine ps_putI d_X0_writeOut_136 hB1.at0 f_5_0_9 rfl rfl ?_
          refine ps_nmS (fun σ77 eσ77 => ?_)
          replace hK := ps_ltE eσ77 hK
          refine pm_inc3 d_X0_writeOut_139 rfl ?_
          obtain ⟨v78, ev78⟩ : ∃ y : Int32, y = x3 + 1 := ⟨_, rfl⟩
          rw [← ev78]
          replace hK := ps_ltE ev78 hK
          refine pm_goto d_X0_writeOut_142 ?_
          refine pm_wk (ls' := [some (.ref (g.2.2.1 + 21)), some (.ref (g.2.2.1 + B1)), some (.ref (g.2.2.1 + (B1 + 1))), some (.int v78), none]) ⟨rfl, ⟨rfl, ⟨rfl, ⟨rfl, trivial⟩⟩⟩⟩ ?_
          exact ih _ _ hK
def qX0_writeOut (B1 : Nat) (σ : ps_S) : Option (Unit × ps_S) :=
  ps_bd (qX0_writeOut_7 B1 ps_N 0 σ) (fun res σ91 => match res with
  | v92 =>
    some ((), σ91))
set_option maxRecDepth 100000 in
theorem C_X0_writeOut {g : pm_G} (B1 : Nat) (hB1 : ps_St B1) (σ : ps_S) (P : Unit → ps_S → Prop) (hK : ps_ok (qX0_writeOut B1 σ) P) : ps_C g mX0_writeOut 4 [.ref (g.2.2.1 + 21), .ref (g.2.2.1 + B1)] σ (ps_qV P) := by
  unfold qX0_writeOut at hK
  refine ps_C.of (ls := [some (.ref (g.2.2.1 + 21)), some (.ref (g.2.2.1 + B1)), none, none, none]) 3 (by decide) rfl (Nat.le_of_ble_eq_true rfl) rfl ?_
  refine pm_ald d_X0_writeOut_0 rfl ?_
  refine ps_getR (q := (B1 + 1)) d_X0_writeOut_1 hB1.at0 f_5_0_0 rfl ?_
  refine pm_ast2 d_X0_writeOut_4 rfl (by decide) ?_
  refine pm_ki d_X0_writeOut_5 ?_
  refine pm_ist3 d_X0_writeOut_6 rfl (by decide) ?_
  refine L_X0_writeOut_7 _ (by decide) B1 hB1 _ _ _ (ps_ok.mono (ps_bdE hK) ?_)
  rintro v92 σ91 hT
  clear hK
  have hK := hT
  clear hT
  have hQ := ps_so hK
  exact ps_vret rfl d_X0_writeOut_145 ⟨rfl, hQ⟩
def qX0_run_76 (B1 : Nat) (y2 : Int32) (y3 : Int32) (y4 : Int32) : Nat → Int32 → ps_S → Option (((Int32)) × ps_S)
  | 0, _, _ => none
  | n + 1, x5, σ =>
    ps_let (σ.1 12 7) fun v11 =>
    if v11 ≤ x5 then
    some (x5, σ)
    else
    ps_bd (qX0_fillQueue B1 x5 σ) (fun _ σ14 =>
    ps_let (x5 + 1) fun v15 =>
    qX0_run_76 B1 y2 y3 y4 n v15 σ14)
set_option maxRecDepth 100000 in
theorem L_X0_run_76 {g : pm_G} (D : Nat) (hD : 5 ≤ D) {P : Unit → ps_S → Prop} (B1 : Nat) (hB1 : ps_St B1) (y2 : Int32) (y3 : Int32) (y4 : Int32) : ∀ (n : Nat) (x5 : Int32) (σ : ps_S), ps_ok (qX0_run_76 B1 y2 y3 y4 n x5 σ) (fun res σ => match res with | x5 => pm_W g mX0_run (ps_F g D (ps_qV P)) 0 0 101 [some (.ref (g.2.2.1 + 21)), some (.ref (g.2.2.1 + B1)), some (.int y2), some (.int y3), some (.int y4), some (.int x5)] [] 345 (ps_E g σ)) → pm_W g mX0_run (ps_F g D (ps_qV P)) 0 0 76 [some (.ref (g.2.2.1 + 21)), some (.ref (g.2.2.1 + B1)), some (.int y2), some (.int y3), some (.int y4), some (.int x5)] [] 345 (ps_E g σ) := by
  intro n
  induction n with
  | zero => intro x5 σ hK; exact (ps_no hK).elim
  | succ n ih =>
    intro x5 σ hK
    rw [qX0_run_76] at hK
    refine pm_ild d_X0_run_76 rfl ?_
    refine pm_ald d_X0_run_78 rfl ?_
    refine ps_getR (q := 12) d_X0_run_79 at_21 f_4_0_0 rfl ?_
    refine ps_getI d_X0_run_82 ps_Ho12.at0 f_2_0_7 rfl ?_
    refine ps_topI (fun v11 ev11 => ?_)
    replace hK := ps_ltE ev11 hK
    refine pm_icmp_ge d_X0_run_85 (fun c12 => ?_) (fun c12 => ?_)
    · replace hK := ps_ifT c12 hK
      exact ps_so hK
    · replace hK := ps_ifF c12 hK
      refine pm_ald d_X0_run_88 rfl ?_
      refine pm_ald d_X0_run_89 rfl ?_
      refine pm_ild d_X0_run_90 rfl ?_
      refine ps_cVV d_X0_run_92 mv_X0_fillQueue at_21 ob_4_0 rfl (As := [.ref (g.2.2.1 + B1), .int x5]) rfl rfl (ps_room.of (by omega) (by decide)) (Nat.le_of_ble_eq_true rfl) (C_X0_fillQueue B1 hB1 x5 σ _ (ps_bdE hK)) ?_
      intro σ14 hT
      clear hK
      have hK := hT
      clear hT
      refine pm_inc5 d_X0_run_95 rfl ?_
      obtain ⟨v15, ev15⟩ : ∃ y : Int32, y = x5 + 1 := ⟨_, rfl⟩
      rw [← ev15]
      replace hK := ps_ltE ev15 hK
      refine pm_goto d_X0_run_98 ?_
      exact ih _ _ hK
def qX0_run_104 (B1 : Nat) (y2 : Int32) (y3 : Int32) (y4 : Int32) : Nat → Int32 → ps_S → Option (((Int32)) × ps_S)
  | 0, _, _ => none
  | n + 1, x5, σ =>
    if y3 ≤ x5 then
    some (x5, σ)
    else
    ps_let (σ.1 B1 8) fun v19 =>
    if y3 = 0 then none else
    ps_bd (qX0_serve B1 ((((v19 + x5)) - ((v19 + x5)) / y3 * y3)) σ) (fun _ σ21 =>
    ps_let (x5 + 1) fun v22 =>
    qX0_run_104 B1 y2 y3 y4 n v22 σ21)
set_option maxRecDepth 100000 in
theorem L_X0_run_104 {g : pm_G} (D : Nat) (hD : 5 ≤ D) {P : Unit → ps_S → Prop} (B1 : Nat) (hB1 : ps_St B1) (y2 : Int32) (y3 : Int32) (y4 : Int32) : ∀ (n : Nat) (x5 : Int32) (σ : ps_S), ps_ok (qX0_run_104 B1 y2 y3 y4 n x5 σ) (fun res σ => match res with | x5 => pm_W g mX0_run (ps_F g D (ps_qV P)) 0 0 130 [some (.ref (g.2.2.1 + 21)), some (.ref (g.2.2.1 + B1)), some (.int y2), some (.int y3), some (.int y4), some (.int x5)] [] 345 (ps_E g σ)) → pm_W g mX0_run (ps_F g D (ps_qV P)) 0 0 104 [some (.ref (g.2.2.1 + 21)), some (.ref (g.2.2.1 + B1)), some (.int y2), some (.int y3), some (.int y4), some (.int x5)] [] 345 (ps_E g σ) := by
  intro n
  induction n with
  | zero => intro x5 σ hK; exact (ps_no hK).elim
  | succ n ih =>
    intro x5 σ hK
    rw [qX0_run_104] at hK
    refine pm_ild d_X0_run_104 rfl ?_
    refine pm_ild d_X0_run_106 rfl ?_
    refine pm_icmp_ge d_X0_run_107 (fun c18 => ?_) (fun c18 => ?_)
    · replace hK := ps_ifT c18 hK
      exact ps_so hK
    · replace hK := ps_ifF c18 hK
      refine pm_ald d_X0_run_110 rfl ?_
      refine pm_ald d_X0_run_111 rfl ?_
      refine pm_ald d_X0_run_112 rfl ?_
      refine ps_getI d_X0_run_113 hB1.at0 f_5_0_8 rfl ?_
      refine ps_topI (fun v19 ev19 => ?_)
      replace hK := ps_ltE ev19 hK
      refine pm_ild d_X0_run_116 rfl ?_
      refine pm_iadd d_X0_run_118 ?_
      refine pm_ild d_X0_run_119 rfl ?_
      by_cases z23 : y3 = 0
      · exact (ps_no (ps_ifT z23 hK)).elim
      replace hK := ps_ifF z23 hK
      refine pm_irem d_X0_run_120 z23 ?_
      refine ps_cVV d_X0_run_121 mv_X0_serve at_21 ob_4_0 rfl (As := [.ref (g.2.2.1 + B1), .int (((v19 + x5)) - ((v19 + x5)) / y3 * y3)]) rfl rfl (ps_room.of (by omega) (by decide)) (Nat.le_of_ble_eq_true rfl) (C_X0_serve B1 hB1 ((((v19 + x5)) - ((v19 + x5)) / y3 * y3)) σ _ (ps_bdE hK)) ?_
      intro σ21 hT
      clear hK
      have hK := hT
      clear hT
      refine pm_inc5 d_X0_run_124 rfl ?_
      obtain ⟨v22, ev22⟩ : ∃ y : Int32, y = x5 + 1 := ⟨_, rfl⟩
      rw [← ev22]
      replace hK := ps_ltE ev22 hK
      refine pm_goto d_X0_run_127 ?_
      exact ih _ _ hK
def qX0_run_22 (B1 : Nat) (y2 : Int32) (y3 : Int32) : Nat → Int32 → ps_S → Option (((Int32)) × ps_S)
  | 0, _, _ => none
  | n + 1, x4, σ =>
    if y2 ≤ x4 then
    some (x4, σ)
    else
    ps_let (σ.1 B1 8) fun v5 =>
    ps_let (ps_rI σ B1 (upd (σ.1 B1) 8 ((v5 + 1)))) fun σ6 =>
    ps_bd (qX0_writeOut B1 σ6) (fun _ σ8 =>
    ps_let (σ8.1 12 4) fun v9 =>
    if v9 ≤ 0 then
    ps_bd (qX0_run_76 B1 y2 y3 x4 ps_N 0 σ8) (fun res σ16 => match res with
    | v17 =>
      ps_bd (qX0_run_104 B1 y2 y3 x4 ps_N 0 σ16) (fun res σ24 => match res with
      | v25 =>
        ps_let (x4 + 1) fun v26 =>
        qX0_run_22 B1 y2 y3 n v26 σ24))
    else
    ps_let (σ8.1 B1 8) fun v27 =>
    ps_let (σ8.1 12 4) fun v28 =>
    if v28 = 0 then none else
    if ((v27 - v27 / v28 * v28)) = 0 then
    ps_bd (qX0_closeWindow B1 σ8) (fun _ σ36 =>
    ps_bd (qX0_run_76 B1 y2 y3 x4 ps_N 0 σ36) (fun res σ37 => match res with
    | v38 =>
      ps_bd (qX0_run_104 B1 y2 y3 x4 ps_N 0 σ37) (fun res σ39 => match res with
      | v40 =>
        ps_let (x4 + 1) fun v41 =>
        qX0_run_22 B1 y2 y3 n v41 σ39)))
    else
    ps_bd (qX0_run_76 B1 y2 y3 x4 ps_N 0 σ8) (fun res σ30 => match res with
    | v31 =>
      ps_bd (qX0_run_104 B1 y2 y3 x4 ps_N 0 σ30) (fun res σ32 => match res with
      | v33 =>
        ps_let (x4 + 1) fun v34 =>
        qX0_run_22 B1 y2 y3 n v34 σ32)))
set_option maxRecDepth 100000 in
theorem L_X0_run_22 {g : pm_G} (D : Nat) (hD : 5 ≤ D) {P : Unit → ps_S → Prop} (B1 : Nat) (hB1 : ps_St B1) (y2 : Int32) (y3 : Int32) : ∀ (n : Nat) (x4 : Int32) (σ : ps_S), ps_ok (qX0_run_22 B1 y2 y3 n x4 σ) (fun res σ => match res with | x4 => pm_W g mX0_run (ps_F g D (ps_qV P)) 0 0 136 [some (.ref (g.2.2.1 + 21)), some (.ref (g.2.2.1 + B1)), some (.int y2), some (.int y3), some (.int x4), none] [] 345 (ps_E g σ)) → pm_W g mX0_run (ps_F g D (ps_qV P)) 0 0 22 [some (.ref (g.2.2.1 + 21)), some (.ref (g.2.2.1 + B1)), some (.int y2), some (.int y3), some (.int x4), none] [] 345 (ps_E g σ) := by
  intro n
  induction n with
  | zero => intro x4 σ hK; exact (ps_no hK).elim
  | succ n ih =>
    intro x4 σ hK
    rw [qX0_run_22] at hK
    refine pm_ild d_X0_run_22 rfl ?_
    refine pm_ild d_X0_run_24 rfl ?_
    refine pm_icmp_ge d_X0_run_25 (fun c4 => ?_) (fun c4 => ?_)
    · replace hK := ps_ifT c4 hK
      exact ps_so hK
    · replace hK := ps_ifF c4 hK
      refine pm_ald d_X0_run_28 rfl ?_
      refine pm_dup d_X0_run_29 rfl ?_
      refine ps_getI d_X0_run_30 hB1.at0 f_5_0_8 rfl ?_
      refine ps_topI (fun v5 ev5 => ?_)
      replace hK := ps_ltE ev5 hK
      refine pm_ki d_X0_run_33 ?_
      refine pm_iadd d_X0_run_34 ?_
      refine ps_putI d_X0_run_35 hB1.at0 f_5_0_8 rfl rfl ?_
      refine ps_nmS (fun σ6 eσ6 => ?_)
      replace hK := ps_ltE eσ6 hK
      refine pm_ald d_X0_run_38 rfl ?_
      refine pm_ald d_X0_run_39 rfl ?_
      refine ps_cVV d_X0_run_40 mv_X0_writeOut at_21 ob_4_0 rfl (As := [.ref (g.2.2.1 + B1)]) rfl rfl (ps_room.of (by omega) (by decide)) (Nat.le_of_ble_eq_true rfl) (C_X0_writeOut B1 hB1 σ6 _ (ps_bdE hK)) ?_
      intro σ8 hT
      clear hK
      have hK := hT
      clear hT
      refine pm_ald d_X0_run_43 rfl ?_
      refine ps_getR (q := 12) d_X0_run_44 at_21 f_4_0_0 rfl ?_
      refine ps_getI d_X0_run_47 ps_Ho12.at0 f_2_0_4 rfl ?_
      refine ps_topI (fun v9 ev9 => ?_)
      replace hK := ps_ltE ev9 hK
      refine pm_if_le d_X0_run_50 (fun c10 => ?_) (fun c10 => ?_)
      · replace hK := ps_ifT c10 hK
        refine pm_ki d_X0_run_73 ?_
        refine pm_ist5 d_X0_run_74 rfl (by decide) ?_
        refine L_X0_run_76 D hD B1 hB1 y2 y3 x4 _ _ _ (ps_ok.mono (ps_bdE hK) ?_)
        rintro v17 σ16 hT
        clear hK
        have hK := hT
        clear hT
        refine pm_ki d_X0_run_101 ?_
        refine pm_ist5 d_X0_run_102 rfl (by decide) ?_
        refine L_X0_run_104 D hD B1 hB1 y2 y3 x4 _ _ _ (ps_ok.mono (ps_bdE hK) ?_)
        rintro v25 σ24 hT
        clear hK
        have hK := hT
        clear hT
        refine pm_inc4 d_X0_run_130 rfl ?_
        obtain ⟨v26, ev26⟩ : ∃ y : Int32, y = x4 + 1 := ⟨_, rfl⟩
        rw [← ev26]
        replace hK := ps_ltE ev26 hK
        refine pm_goto d_X0_run_133 ?_
        refine pm_wk (ls' := [some (.ref (g.2.2.1 + 21)), some (.ref (g.2.2.1 + B1)), some (.int y2), some (.int y3), some (.int v26), none]) ⟨rfl, ⟨rfl, ⟨rfl, ⟨rfl, ⟨rfl, trivial⟩⟩⟩⟩⟩ ?_
        exact ih _ _ hK
      · replace hK := ps_ifF c10 hK
        refine pm_ald d_X0_run_53 rfl ?_
        refine ps_getI d_X0_run_54 hB1.at0 f_5_0_8 rfl ?_
        refine ps_topI (fun v27 ev27 => ?_)
        replace hK := ps_ltE ev27 hK
        refine pm_ald d_X0_run_57 rfl ?_
        refine ps_getR (q := 12) d_X0_run_58 at_21 f_4_0_0 rfl ?_
        refine ps_getI d_X0_run_61 ps_Ho12.at0 f_2_0_4 rfl ?_
        refine ps_topI (fun v28 ev28 => ?_)
        replace hK := ps_ltE ev28 hK
        by_cases z42 : v28 = 0
        · exact (ps_no (ps_ifT z42 hK)).elim
        replace hK := ps_ifF z42 hK
        refine pm_irem d_X0_run_64 z42 ?_
        refine pm_if_ne d_X0_run_65 (fun c29 => ?_) (fun c29 => ?_)
        · replace hK := ps_ifF c29 hK
          refine pm_ki d_X0_run_73 ?_
          refine pm_ist5 d_X0_run_74 rfl (by decide) ?_
          refine L_X0_run_76 D hD B1 hB1 y2 y3 x4 _ _ _ (ps_ok.mono (ps_bdE hK) ?_)
          rintro v31 σ30 hT
          clear hK
          have hK := hT
          clear hT
          refine pm_ki d_X0_run_101 ?_
          refine pm_ist5 d_X0_run_102 rfl (by decide) ?_
          refine L_X0_run_104 D hD B1 hB1 y2 y3 x4 _ _ _ (ps_ok.mono (ps_bdE hK) ?_)
          rintro v33 σ32 hT
          clear hK
          have hK := hT
          clear hT
          refine pm_inc4 d_X0_run_130 rfl ?_
          obtain ⟨v34, ev34⟩ : ∃ y : Int32, y = x4 + 1 := ⟨_, rfl⟩
          rw [← ev34]
          replace hK := ps_ltE ev34 hK
          refine pm_goto d_X0_run_133 ?_
          refine pm_wk (ls' := [some (.ref (g.2.2.1 + 21)), some (.ref (g.2.2.1 + B1)), some (.int y2), some (.int y3), some (.int v34), none]) ⟨rfl, ⟨rfl, ⟨rfl, ⟨rfl, ⟨rfl, trivial⟩⟩⟩⟩⟩ ?_
          exact ih _ _ hK
        · replace hK := ps_ifT c29 hK
          refine pm_ald d_X0_run_68 rfl ?_
          refine pm_ald d_X0_run_69 rfl ?_
          refine ps_cVV d_X0_run_70 mv_X0_closeWindow at_21 ob_4_0 rfl (As := [.ref (g.2.2.1 + B1)]) rfl rfl (ps_room.of (by omega) (by decide)) (Nat.le_of_ble_eq_true rfl) (C_X0_closeWindow B1 hB1 σ8 _ (ps_bdE hK)) ?_
          intro σ36 hT
          clear hK
          have hK := hT
          clear hT
          refine pm_ki d_X0_run_73 ?_
          refine pm_ist5 d_X0_run_74 rfl (by decide) ?_
          refine L_X0_run_76 D hD B1 hB1 y2 y3 x4 _ _ _ (ps_ok.mono (ps_bdE hK) ?_)
          rintro v38 σ37 hT
          clear hK
          have hK := hT
          clear hT
          refine pm_ki d_X0_run_101 ?_
          refine pm_ist5 d_X0_run_102 rfl (by decide) ?_
          refine L_X0_run_104 D hD B1 hB1 y2 y3 x4 _ _ _ (ps_ok.mono (ps_bdE hK) ?_)
          rintro v40 σ39 hT
          clear hK
          have hK := hT
          clear hT
          refine pm_inc4 d_X0_run_130 rfl ?_
          obtain ⟨v41, ev41⟩ : ∃ y : Int32, y = x4 + 1 := ⟨_, rfl⟩
          rw [← ev41]
          replace hK := ps_ltE ev41 hK
          refine pm_goto d_X0_run_133 ?_
          refine pm_wk (ls' := [some (.ref (g.2.2.1 + 21)), some (.ref (g.2.2.1 + B1)), some (.int y2), some (.int y3), some (.int v41), none]) ⟨rfl, ⟨rfl, ⟨rfl, ⟨rfl, ⟨rfl, trivial⟩⟩⟩⟩⟩ ?_
          exact ih _ _ hK
def qX0_run (B1 : Nat) (p2 : Int32) (σ : ps_S) : Option (Unit × ps_S) :=
  ps_let (σ.1 B1 13) fun v1 =>
  if v1 = 0 then
  ps_let (σ.1 12 9) fun v3 =>
  ps_bd (qX0_run_22 B1 p2 v3 ps_N 0 σ) (fun res σ43 => match res with
  | v44 =>
    some ((), σ43))
  else
  ps_bd (qX0_run_22 B1 p2 0 ps_N 0 σ) (fun res σ45 => match res with
  | v46 =>
    some ((), σ45))
set_option maxRecDepth 100000 in
theorem C_X0_run {g : pm_G} (B1 : Nat) (hB1 : ps_St B1) (p2 : Int32) (σ : ps_S) (P : Unit → ps_S → Prop) (hK : ps_ok (qX0_run B1 p2 σ) P) : ps_C g mX0_run 5 [.ref (g.2.2.1 + 21), .ref (g.2.2.1 + B1), .int p2] σ (ps_qV P) := by
  unfold qX0_run at hK
  refine ps_C.of (ls := [some (.ref (g.2.2.1 + 21)), some (.ref (g.2.2.1 + B1)), some (.int p2), none, none, none]) 3 (by decide) rfl (Nat.le_of_ble_eq_true rfl) rfl ?_
  refine pm_ald d_X0_run_0 rfl ?_
  refine ps_getI d_X0_run_1 hB1.at0 f_5_0_13 rfl ?_
  refine ps_topI (fun v1 ev1 => ?_)
  replace hK := ps_ltE ev1 hK
  refine pm_if_eq d_X0_run_4 (fun c2 => ?_) (fun c2 => ?_)
  · replace hK := ps_ifT c2 hK
    refine pm_ald d_X0_run_11 rfl ?_
    refine ps_getR (q := 12) d_X0_run_12 at_21 f_4_0_0 rfl ?_
    refine ps_getI d_X0_run_15 ps_Ho12.at0 f_2_0_9 rfl ?_
    refine ps_topI (fun v3 ev3 => ?_)
    replace hK := ps_ltE ev3 hK
    refine pm_ist3 d_X0_run_18 rfl (by decide) ?_
    refine pm_ki d_X0_run_19 ?_
    refine pm_ist4 d_X0_run_20 rfl (by decide) ?_
    refine L_X0_run_22 _ (by decide) B1 hB1 p2 v3 _ _ _ (ps_ok.mono (ps_bdE hK) ?_)
    rintro v44 σ43 hT
    clear hK
    have hK := hT
    clear hT
    have hQ := ps_so hK
    exact ps_vret rfl d_X0_run_136 ⟨rfl, hQ⟩
  · replace hK := ps_ifF c2 hK
    refine pm_ki d_X0_run_7 ?_
    refine pm_goto d_X0_run_8 ?_
    refine pm_ist3 d_X0_run_18 rfl (by decide) ?_
    refine pm_ki d_X0_run_19 ?_
    refine pm_ist4 d_X0_run_20 rfl (by decide) ?_
    refine L_X0_run_22 _ (by decide) B1 hB1 p2 0 _ _ _ (ps_ok.mono (ps_bdE hK) ?_)
    rintro v46 σ45 hT
    clear hK
    have hK := hT
    clear hT
    have hQ := ps_so hK
    exact ps_vret rfl d_X0_run_136 ⟨rfl, hQ⟩
def qX8_isNeverHeld_2  (y1 : Int32) (y2 : Int32) : Nat → Int32 → ps_S → Option ((Int32 ⊕ (Int32)) × ps_S)
  | 0, _, _ => none
  | n + 1, x3, σ =>
    if y2 ≤ x3 then
    some (.inr x3, σ)
    else
    ps_bd (qX0_run 44 1 σ) (fun _ σ3 =>
    if ps_in y1 6 = true then
    ps_let (σ3.1 (44 + 17) (y1).toNatClampNeg) fun v4 =>
    if ps_in y1 6 = true then
    ps_let (σ3.1 (26 + 17) (y1).toNatClampNeg) fun v5 =>
    if v4 = v5 then
    ps_let (x3 + 1) fun v7 =>
    qX8_isNeverHeld_2 y1 y2 n v7 σ3
    else
    some (.inl 0, σ3)
    else none
    else none)
set_option maxRecDepth 100000 in
theorem L_X8_isNeverHeld_2 {g : pm_G} (D : Nat) (hD : 6 ≤ D) {P : Int32 → ps_S → Prop}  (y1 : Int32) (y2 : Int32) : ∀ (n : Nat) (x3 : Int32) (σ : ps_S), ps_ok (qX8_isNeverHeld_2 y1 y2 n x3 σ) (fun res σ => match res with | .inl r => P r σ | .inr x3 => pm_W g mX8_isNeverHeld (ps_F g D (ps_qI P)) 0 0 48 [some (.ref (g.2.2.1 + 0)), some (.int y1), some (.int y2), some (.int x3)] [] 345 (ps_E g σ)) → pm_W g mX8_isNeverHeld (ps_F g D (ps_qI P)) 0 0 2 [some (.ref (g.2.2.1 + 0)), some (.int y1), some (.int y2), some (.int x3)] [] 345 (ps_E g σ) := by
  intro n
  induction n with
  | zero => intro x3 σ hK; exact (ps_no hK).elim
  | succ n ih =>
    intro x3 σ hK
    rw [qX8_isNeverHeld_2] at hK
    refine pm_ild d_X8_isNeverHeld_2 rfl ?_
    refine pm_ild d_X8_isNeverHeld_3 rfl ?_
    refine pm_icmp_ge d_X8_isNeverHeld_4 (fun c1 => ?_) (fun c1 => ?_)
    · replace hK := ps_ifT c1 hK
      exact ps_so hK
    · replace hK := ps_ifF c1 hK
      refine pm_ald d_X8_isNeverHeld_7 rfl ?_
      refine ps_getR (q := 21) d_X8_isNeverHeld_8 at_0 f_0_0_5 rfl ?_
      refine pm_ald d_X8_isNeverHeld_11 rfl ?_
      refine ps_getR (q := 44) d_X8_isNeverHeld_12 at_0 f_0_0_7 rfl ?_
      refine pm_ki d_X8_isNeverHeld_15 ?_
      refine ps_cVV d_X8_isNeverHeld_16 mv_X0_run at_21 ob_4_0 rfl (As := [.ref (g.2.2.1 + 44), .int 1]) rfl rfl (ps_room.of (by omega) (by decide)) (Nat.le_of_ble_eq_true rfl) (C_X0_run 44 ps_St44 1 σ _ (ps_bdE hK)) ?_
      intro σ3 hT
      clear hK
      have hK := hT
      clear hT
      refine pm_ald d_X8_isNeverHeld_19 rfl ?_
      refine ps_getR (q := 44) d_X8_isNeverHeld_20 at_0 f_0_0_7 rfl ?_
      refine ps_getR (q := (44 + 17)) d_X8_isNeverHeld_23 ps_St44.at0 f_5_0_7 rfl ?_
      refine pm_ild d_X8_isNeverHeld_26 rfl ?_
      obtain ⟨b9, hT⟩ := ps_gd hK
      replace hK := hT
      clear hT
      refine ps_iald d_X8_isNeverHeld_27 (ps_St44.at 17 (by decide)) a_5_17 (ps_in_of b9) rfl ?_
      refine ps_topI (fun v4 ev4 => ?_)
      replace hK := ps_ltE ev4 hK
      refine pm_ald d_X8_isNeverHeld_28 rfl ?_
      refine ps_getR (q := 26) d_X8_isNeverHeld_29 at_0 f_0_0_6 rfl ?_
      refine ps_getR (q := (26 + 17)) d_X8_isNeverHeld_32 ps_St26.at0 f_5_0_7 rfl ?_
      refine pm_ild d_X8_isNeverHeld_35 rfl ?_
      obtain ⟨b8, hT⟩ := ps_gd hK
      replace hK := hT
      clear hT
      refine ps_iald d_X8_isNeverHeld_36 (ps_St26.at 17 (by decide)) a_5_17 (ps_in_of b8) rfl ?_
      refine ps_topI (fun v5 ev5 => ?_)
      replace hK := ps_ltE ev5 hK
      refine pm_icmp_eq d_X8_isNeverHeld_37 (fun c6 => ?_) (fun c6 => ?_)
      · replace hK := ps_ifT c6 hK
        refine pm_inc3 d_X8_isNeverHeld_42 rfl ?_
        obtain ⟨v7, ev7⟩ : ∃ y : Int32, y = x3 + 1 := ⟨_, rfl⟩
        rw [← ev7]
        replace hK := ps_ltE ev7 hK
        refine pm_goto d_X8_isNeverHeld_45 ?_
        exact ih _ _ hK
      · replace hK := ps_ifF c6 hK
        refine pm_ki d_X8_isNeverHeld_40 ?_
        have hQ := ps_so hK
        exact ps_zret rfl rfl d_X8_isNeverHeld_41 ⟨_, rfl, hQ⟩
def qX8_isNeverHeld (p1 : Int32) (p2 : Int32) (σ : ps_S) : Option (Int32 × ps_S) :=
  ps_bd (qX8_isNeverHeld_2 p1 p2 ps_N 0 σ) (fun res σ10 => match res with
  | .inl r => some (r, σ10)
  | .inr v11 =>
    some (1, σ10))
set_option maxRecDepth 100000 in
theorem C_X8_isNeverHeld {g : pm_G} (p1 : Int32) (p2 : Int32) (σ : ps_S) (P : Int32 → ps_S → Prop) (hK : ps_ok (qX8_isNeverHeld p1 p2 σ) P) : ps_C g mX8_isNeverHeld 6 [.ref (g.2.2.1 + 0), .int p1, .int p2] σ (ps_qI P) := by
  unfold qX8_isNeverHeld at hK
  refine ps_C.of (ls := [some (.ref (g.2.2.1 + 0)), some (.int p1), some (.int p2), none]) 1 (by decide) rfl (Nat.le_of_ble_eq_true rfl) rfl ?_
  refine pm_ki d_X8_isNeverHeld_0 ?_
  refine pm_ist3 d_X8_isNeverHeld_1 rfl (by decide) ?_
  refine L_X8_isNeverHeld_2 _ (by decide) p1 p2 _ _ _ (ps_ok.mono (ps_bdE hK) ?_)
  intro res σ10 hT
  clear hK
  match res, hT with
  | .inl r, hT => exact ps_so hT
  | .inr v11, hT =>
    have hK := hT
    clear hT
    refine pm_ki d_X8_isNeverHeld_48 ?_
    have hQ := ps_so hK
    exact ps_zret rfl rfl d_X8_isNeverHeld_49 ⟨_, rfl, hQ⟩
def qX8_isWithin (p1 : Int32) (p2 : Int32) (p3 : Int32) (σ : ps_S) : Option (Int32 × ps_S) :=
  if p1 < p2 then
  some (0, σ)
  else
  if p3 < p1 then
  some (0, σ)
  else
  some (1, σ)
set_option maxRecDepth 100000 in
theorem C_X8_isWithin {g : pm_G} (p1 : Int32) (p2 : Int32) (p3 : Int32) (σ : ps_S) (P : Int32 → ps_S → Prop) (hK : ps_ok (qX8_isWithin p1 p2 p3 σ) P) : ps_C g mX8_isWithin 1 [.int p1, .int p2, .int p3] σ (ps_qI P) := by
  unfold qX8_isWithin at hK
  refine ps_C.of (ls := [some (.int p1), some (.int p2), some (.int p3)]) 0 (by decide) rfl (Nat.le_of_ble_eq_true rfl) rfl ?_
  refine pm_ild d_X8_isWithin_0 rfl ?_
  refine pm_ild d_X8_isWithin_1 rfl ?_
  refine pm_icmp_lt d_X8_isWithin_2 (fun c1 => ?_) (fun c1 => ?_)
  · replace hK := ps_ifT c1 hK
    refine pm_ki d_X8_isWithin_14 ?_
    have hQ := ps_so hK
    exact ps_zret rfl rfl d_X8_isWithin_15 ⟨_, rfl, hQ⟩
  · replace hK := ps_ifF c1 hK
    refine pm_ild d_X8_isWithin_5 rfl ?_
    refine pm_ild d_X8_isWithin_6 rfl ?_
    refine pm_icmp_gt d_X8_isWithin_7 (fun c2 => ?_) (fun c2 => ?_)
    · replace hK := ps_ifT c2 hK
      refine pm_ki d_X8_isWithin_14 ?_
      have hQ := ps_so hK
      exact ps_zret rfl rfl d_X8_isWithin_15 ⟨_, rfl, hQ⟩
    · replace hK := ps_ifF c2 hK
      refine pm_ki d_X8_isWithin_10 ?_
      refine pm_goto d_X8_isWithin_11 ?_
      have hQ := ps_so hK
      exact ps_zret rfl rfl d_X8_isWithin_15 ⟨_, rfl, hQ⟩
def qX8_isWriter (p1 : Int32) (σ : ps_S) : Option (Int32 × ps_S) :=
  if p1 < 0 then
  some (0, σ)
  else
  ps_let (σ.1 12 9) fun v2 =>
  if v2 ≤ p1 then
  some (0, σ)
  else
  some (1, σ)
set_option maxRecDepth 100000 in
theorem C_X8_isWriter {g : pm_G} (p1 : Int32) (σ : ps_S) (P : Int32 → ps_S → Prop) (hK : ps_ok (qX8_isWriter p1 σ) P) : ps_C g mX8_isWriter 1 [.ref (g.2.2.1 + 0), .int p1] σ (ps_qI P) := by
  unfold qX8_isWriter at hK
  refine ps_C.of (ls := [some (.ref (g.2.2.1 + 0)), some (.int p1)]) 0 (by decide) rfl (Nat.le_of_ble_eq_true rfl) rfl ?_
  refine pm_ild d_X8_isWriter_0 rfl ?_
  refine pm_if_lt d_X8_isWriter_1 (fun c1 => ?_) (fun c1 => ?_)
  · replace hK := ps_ifT c1 hK
    refine pm_ki d_X8_isWriter_19 ?_
    have hQ := ps_so hK
    exact ps_zret rfl rfl d_X8_isWriter_20 ⟨_, rfl, hQ⟩
  · replace hK := ps_ifF c1 hK
    refine pm_ild d_X8_isWriter_4 rfl ?_
    refine pm_ald d_X8_isWriter_5 rfl ?_
    refine ps_getR (q := 12) d_X8_isWriter_6 at_0 f_0_0_4 rfl ?_
    refine ps_getI d_X8_isWriter_9 ps_Ho12.at0 f_2_0_9 rfl ?_
    refine ps_topI (fun v2 ev2 => ?_)
    replace hK := ps_ltE ev2 hK
    refine pm_icmp_ge d_X8_isWriter_12 (fun c3 => ?_) (fun c3 => ?_)
    · replace hK := ps_ifT c3 hK
      refine pm_ki d_X8_isWriter_19 ?_
      have hQ := ps_so hK
      exact ps_zret rfl rfl d_X8_isWriter_20 ⟨_, rfl, hQ⟩
    · replace hK := ps_ifF c3 hK
      refine pm_ki d_X8_isWriter_15 ?_
      refine pm_goto d_X8_isWriter_16 ?_
      have hQ := ps_so hK
      exact ps_zret rfl rfl d_X8_isWriter_20 ⟨_, rfl, hQ⟩
def qX8_bears_27  (y1 : Int32) (y2 : Int32) : Nat → Int32 → ps_S → Option ((Int32 ⊕ (Int32)) × ps_S)
  | 0, _, _ => none
  | n + 1, x3, σ =>
    if x3 < 0 then
    some (.inr x3, σ)
    else
    ps_bd (qX6_copyFrom 44 26 σ) (fun _ σ9 =>
    if ps_in y1 6 = true then
    ps_let (ps_rI σ9 (44 + 13) (upd (σ9.1 (44 + 13)) (y1).toNatClampNeg x3)) fun σ10 =>
    ps_bd (qX8_isNeverHeld y1 y2 σ10) (fun v11 σ12 =>
    if v11 = 0 then
    ps_let (x3 + (-1)) fun v14 =>
    qX8_bears_27 y1 y2 n v14 σ12
    else
    some (.inl x3, σ12))
    else none)
set_option maxRecDepth 100000 in
theorem L_X8_bears_27 {g : pm_G} (D : Nat) (hD : 7 ≤ D) {P : Int32 → ps_S → Prop}  (y1 : Int32) (y2 : Int32) : ∀ (n : Nat) (x3 : Int32) (σ : ps_S), ps_ok (qX8_bears_27 y1 y2 n x3 σ) (fun res σ => match res with | .inl r => P r σ | .inr x3 => pm_W g mX8_bears (ps_F g D (ps_qI P)) 0 0 69 [some (.ref (g.2.2.1 + 0)), some (.int y1), some (.int y2), some (.int x3)] [] 345 (ps_E g σ)) → pm_W g mX8_bears (ps_F g D (ps_qI P)) 0 0 27 [some (.ref (g.2.2.1 + 0)), some (.int y1), some (.int y2), some (.int x3)] [] 345 (ps_E g σ) := by
  intro n
  induction n with
  | zero => intro x3 σ hK; exact (ps_no hK).elim
  | succ n ih =>
    intro x3 σ hK
    rw [qX8_bears_27] at hK
    refine pm_ild d_X8_bears_27 rfl ?_
    refine pm_if_lt d_X8_bears_28 (fun c7 => ?_) (fun c7 => ?_)
    · replace hK := ps_ifT c7 hK
      exact ps_so hK
    · replace hK := ps_ifF c7 hK
      refine pm_ald d_X8_bears_31 rfl ?_
      refine ps_getR (q := 44) d_X8_bears_32 at_0 f_0_0_7 rfl ?_
      refine pm_ald d_X8_bears_35 rfl ?_
      refine ps_getR (q := 26) d_X8_bears_36 at_0 f_0_0_6 rfl ?_
      refine ps_cVV d_X8_bears_39 mv_X6_copyFrom ps_St44.at0 ob_5_0 rfl (As := [.ref (g.2.2.1 + 26)]) rfl rfl (ps_room.of (by omega) (by decide)) (Nat.le_of_ble_eq_true rfl) (C_X6_copyFrom 44 ps_St44 26 ps_St26 σ _ (ps_bdE hK)) ?_
      intro σ9 hT
      clear hK
      have hK := hT
      clear hT
      refine pm_ald d_X8_bears_42 rfl ?_
      refine ps_getR (q := 44) d_X8_bears_43 at_0 f_0_0_7 rfl ?_
      refine ps_getR (q := (44 + 13)) d_X8_bears_46 ps_St44.at0 f_5_0_3 rfl ?_
      refine pm_ild d_X8_bears_49 rfl ?_
      refine pm_ild d_X8_bears_50 rfl ?_
      obtain ⟨b15, hT⟩ := ps_gd hK
      replace hK := hT
      clear hT
      refine ps_iast d_X8_bears_51 (ps_St44.at 13 (by decide)) a_5_13 (ps_in_of b15) ?_
      refine ps_nmS (fun σ10 eσ10 => ?_)
      replace hK := ps_ltE eσ10 hK
      refine pm_ald d_X8_bears_52 rfl ?_
      refine pm_ild d_X8_bears_53 rfl ?_
      refine pm_ild d_X8_bears_54 rfl ?_
      refine ps_cVI d_X8_bears_55 mv_X8_isNeverHeld at_0 ob_0_0 rfl (As := [.int y1, .int y2]) rfl rfl (ps_room.of (by omega) (by decide)) (Nat.le_of_ble_eq_true rfl) (C_X8_isNeverHeld y1 y2 σ10 _ (ps_bdE hK)) ?_
      intro v11 σ12 hT
      clear hK
      have hK := hT
      clear hT
      refine pm_if_eq d_X8_bears_58 (fun c13 => ?_) (fun c13 => ?_)
      · replace hK := ps_ifT c13 hK
        refine pm_inc3 d_X8_bears_63 rfl ?_
        obtain ⟨v14, ev14⟩ : ∃ y : Int32, y = x3 + (-1) := ⟨_, rfl⟩
        rw [← ev14]
        replace hK := ps_ltE ev14 hK
        refine pm_goto d_X8_bears_66 ?_
        exact ih _ _ hK
      · replace hK := ps_ifF c13 hK
        refine pm_ild d_X8_bears_61 rfl ?_
        have hQ := ps_so hK
        exact ps_iret rfl d_X8_bears_62 ⟨_, rfl, hQ⟩
def qX8_bears (p1 : Int32) (p2 : Int32) (σ : ps_S) : Option (Int32 × ps_S) :=
  ps_bd (qX8_isWriter p1 σ) (fun v1 σ2 =>
  if v1 = 0 then
  some ((-2), σ2)
  else
  ps_bd (qX8_isWithin p2 1 99 σ2) (fun v4 σ5 =>
  if v4 = 0 then
  some ((-3), σ5)
  else
  ps_bd (qX8_bears_27 p1 p2 ps_N 99 σ5) (fun res σ16 => match res with
  | .inl r => some (r, σ16)
  | .inr v17 =>
    some ((-1), σ16))))
set_option maxRecDepth 100000 in
theorem C_X8_bears {g : pm_G} (p1 : Int32) (p2 : Int32) (σ : ps_S) (P : Int32 → ps_S → Prop) (hK : ps_ok (qX8_bears p1 p2 σ) P) : ps_C g mX8_bears 7 [.ref (g.2.2.1 + 0), .int p1, .int p2] σ (ps_qI P) := by
  unfold qX8_bears at hK
  refine ps_C.of (ls := [some (.ref (g.2.2.1 + 0)), some (.int p1), some (.int p2), none]) 1 (by decide) rfl (Nat.le_of_ble_eq_true rfl) rfl ?_
  refine pm_ald d_X8_bears_0 rfl ?_
  refine pm_ild d_X8_bears_1 rfl ?_
  refine ps_cVI d_X8_bears_2 mv_X8_isWriter at_0 ob_0_0 rfl (As := [.int p1]) rfl rfl (ps_room.of (by omega) (by decide)) (Nat.le_of_ble_eq_true rfl) (C_X8_isWriter p1 σ _ (ps_bdE hK)) ?_
  intro v1 σ2 hT
  clear hK
  have hK := hT
  clear hT
  refine pm_if_ne d_X8_bears_5 (fun c3 => ?_) (fun c3 => ?_)
  · replace hK := ps_ifF c3 hK
    refine pm_ild d_X8_bears_11 rfl ?_
    refine pm_ki d_X8_bears_12 ?_
    refine pm_ki d_X8_bears_13 ?_
    refine ps_cSI d_X8_bears_15 ms_X8_isWithin (As := [.int p2, .int 1, .int 99]) rfl rfl (ps_room.of (by omega) (by decide)) (Nat.le_of_ble_eq_true rfl) (C_X8_isWithin p2 1 99 σ2 _ (ps_bdE hK)) ?_
    intro v4 σ5 hT
    clear hK
    have hK := hT
    clear hT
    refine pm_if_ne d_X8_bears_18 (fun c6 => ?_) (fun c6 => ?_)
    · replace hK := ps_ifF c6 hK
      refine pm_ki d_X8_bears_24 ?_
      refine pm_ist3 d_X8_bears_26 rfl (by decide) ?_
      refine L_X8_bears_27 _ (by decide) p1 p2 _ _ _ (ps_ok.mono (ps_bdE hK) ?_)
      intro res σ16 hT
      clear hK
      match res, hT with
      | .inl r, hT => exact ps_so hT
      | .inr v17, hT =>
        have hK := hT
        clear hT
        refine pm_ki d_X8_bears_69 ?_
        have hQ := ps_so hK
        exact ps_iret rfl d_X8_bears_70 ⟨_, rfl, hQ⟩
    · replace hK := ps_ifT c6 hK
      refine pm_ki d_X8_bears_21 ?_
      have hQ := ps_so hK
      exact ps_iret rfl d_X8_bears_23 ⟨_, rfl, hQ⟩
  · replace hK := ps_ifT c3 hK
    refine pm_ki d_X8_bears_8 ?_
    have hQ := ps_so hK
    exact ps_iret rfl d_X8_bears_10 ⟨_, rfl, hQ⟩
def qX8_isDevice (p1 : Int32) (σ : ps_S) : Option (Int32 × ps_S) :=
  if p1 < 0 then
  some (0, σ)
  else
  ps_let (σ.1 12 7) fun v2 =>
  if v2 ≤ p1 then
  some (0, σ)
  else
  some (1, σ)
set_option maxRecDepth 100000 in
theorem C_X8_isDevice {g : pm_G} (p1 : Int32) (σ : ps_S) (P : Int32 → ps_S → Prop) (hK : ps_ok (qX8_isDevice p1 σ) P) : ps_C g mX8_isDevice 1 [.ref (g.2.2.1 + 0), .int p1] σ (ps_qI P) := by
  unfold qX8_isDevice at hK
  refine ps_C.of (ls := [some (.ref (g.2.2.1 + 0)), some (.int p1)]) 0 (by decide) rfl (Nat.le_of_ble_eq_true rfl) rfl ?_
  refine pm_ild d_X8_isDevice_0 rfl ?_
  refine pm_if_lt d_X8_isDevice_1 (fun c1 => ?_) (fun c1 => ?_)
  · replace hK := ps_ifT c1 hK
    refine pm_ki d_X8_isDevice_19 ?_
    have hQ := ps_so hK
    exact ps_zret rfl rfl d_X8_isDevice_20 ⟨_, rfl, hQ⟩
  · replace hK := ps_ifF c1 hK
    refine pm_ild d_X8_isDevice_4 rfl ?_
    refine pm_ald d_X8_isDevice_5 rfl ?_
    refine ps_getR (q := 12) d_X8_isDevice_6 at_0 f_0_0_4 rfl ?_
    refine ps_getI d_X8_isDevice_9 ps_Ho12.at0 f_2_0_7 rfl ?_
    refine ps_topI (fun v2 ev2 => ?_)
    replace hK := ps_ltE ev2 hK
    refine pm_icmp_ge d_X8_isDevice_12 (fun c3 => ?_) (fun c3 => ?_)
    · replace hK := ps_ifT c3 hK
      refine pm_ki d_X8_isDevice_19 ?_
      have hQ := ps_so hK
      exact ps_zret rfl rfl d_X8_isDevice_20 ⟨_, rfl, hQ⟩
    · replace hK := ps_ifF c3 hK
      refine pm_ki d_X8_isDevice_15 ?_
      refine pm_goto d_X8_isDevice_16 ?_
      have hQ := ps_so hK
      exact ps_zret rfl rfl d_X8_isDevice_20 ⟨_, rfl, hQ⟩
def qX8_wroteInSpan (p1 : Int32) (σ : ps_S) : Option (Int32 × ps_S) :=
  if ps_in p1 4 = true then
  ps_let (σ.1 (44 + 8) (p1).toNatClampNeg) fun v1 =>
  ps_bd (qX0_run 44 10 σ) (fun _ σ3 =>
  if ps_in p1 4 = true then
  ps_let (σ3.1 (44 + 8) (p1).toNatClampNeg) fun v4 =>
  some ((v4 - v1), σ3)
  else none)
  else none
set_option maxRecDepth 100000 in
theorem C_X8_wroteInSpan {g : pm_G} (p1 : Int32) (σ : ps_S) (P : Int32 → ps_S → Prop) (hK : ps_ok (qX8_wroteInSpan p1 σ) P) : ps_C g mX8_wroteInSpan 6 [.ref (g.2.2.1 + 0), .int p1] σ (ps_qI P) := by
  unfold qX8_wroteInSpan at hK
  refine ps_C.of (ls := [some (.ref (g.2.2.1 + 0)), some (.int p1), none]) 1 (by decide) rfl (Nat.le_of_ble_eq_true rfl) rfl ?_
  refine pm_ald d_X8_wroteInSpan_0 rfl ?_
  refine ps_getR (q := 44) d_X8_wroteInSpan_1 at_0 f_0_0_7 rfl ?_
  refine ps_getR (q := (44 + 1)) d_X8_wroteInSpan_4 ps_St44.at0 f_5_0_0 rfl ?_
  refine ps_getR (q := (44 + 8)) d_X8_wroteInSpan_7 (ps_St44.at 1 (by decide)) f_5_1_6 rfl ?_
  refine pm_ild d_X8_wroteInSpan_10 rfl ?_
  obtain ⟨b6, hT⟩ := ps_gd hK
  replace hK := hT
  clear hT
  refine ps_iald d_X8_wroteInSpan_11 (ps_St44.at 8 (by decide)) a_5_8 (ps_in_of b6) rfl ?_
  refine ps_topI (fun v1 ev1 => ?_)
  replace hK := ps_ltE ev1 hK
  refine pm_ist2 d_X8_wroteInSpan_12 rfl (by decide) ?_
  refine pm_ald d_X8_wroteInSpan_13 rfl ?_
  refine ps_getR (q := 21) d_X8_wroteInSpan_14 at_0 f_0_0_5 rfl ?_
  refine pm_ald d_X8_wroteInSpan_17 rfl ?_
  refine ps_getR (q := 44) d_X8_wroteInSpan_18 at_0 f_0_0_7 rfl ?_
  refine pm_ki d_X8_wroteInSpan_21 ?_
  refine ps_cVV d_X8_wroteInSpan_23 mv_X0_run at_21 ob_4_0 rfl (As := [.ref (g.2.2.1 + 44), .int 10]) rfl rfl (ps_room.of (by omega) (by decide)) (Nat.le_of_ble_eq_true rfl) (C_X0_run 44 ps_St44 10 σ _ (ps_bdE hK)) ?_
  intro σ3 hT
  clear hK
  have hK := hT
  clear hT
  refine pm_ald d_X8_wroteInSpan_26 rfl ?_
  refine ps_getR (q := 44) d_X8_wroteInSpan_27 at_0 f_0_0_7 rfl ?_
  refine ps_getR (q := (44 + 1)) d_X8_wroteInSpan_30 ps_St44.at0 f_5_0_0 rfl ?_
  refine ps_getR (q := (44 + 8)) d_X8_wroteInSpan_33 (ps_St44.at 1 (by decide)) f_5_1_6 rfl ?_
  refine pm_ild d_X8_wroteInSpan_36 rfl ?_
  obtain ⟨b5, hT⟩ := ps_gd hK
  replace hK := hT
  clear hT
  refine ps_iald d_X8_wroteInSpan_37 (ps_St44.at 8 (by decide)) a_5_8 (ps_in_of b5) rfl ?_
  refine ps_topI (fun v4 ev4 => ?_)
  replace hK := ps_ltE ev4 hK
  refine pm_ild d_X8_wroteInSpan_38 rfl ?_
  refine pm_isub d_X8_wroteInSpan_39 ?_
  have hQ := ps_so hK
  exact ps_iret rfl d_X8_wroteInSpan_40 ⟨_, rfl, hQ⟩
def qX8_busiest_29  (y1 : Int32) : Nat → Int32 → Int32 → Int32 → ps_S → Option (((Int32 × Int32 × Int32)) × ps_S)
  | 0, _, _, _, _ => none
  | n + 1, x2, x3, x4, σ =>
    if 8 ≤ x4 then
    some ((x2, x3, x4), σ)
    else
    ps_bd (qX8_wroteInSpan y1 σ) (fun v7 σ8 =>
    if v7 ≤ x3 then
    ps_let (x4 + 1) fun v10 =>
    qX8_busiest_29 y1 n x2 x3 v10 σ8
    else
    ps_let (x4 + 1) fun v11 =>
    qX8_busiest_29 y1 n x4 v7 v11 σ8)
set_option maxRecDepth 100000 in
theorem L_X8_busiest_29 {g : pm_G} (D : Nat) (hD : 7 ≤ D) {P : Int32 → ps_S → Prop}  (y1 : Int32) : ∀ (n : Nat) (x2 : Int32) (x3 : Int32) (x4 : Int32) (σ : ps_S), ps_ok (qX8_busiest_29 y1 n x2 x3 x4 σ) (fun res σ => match res with | (x2, x3, x4) => pm_W g mX8_busiest (ps_F g D (ps_qI P)) 0 0 61 [some (.ref (g.2.2.1 + 0)), some (.int y1), some (.int x2), some (.int x3), some (.int x4), none] [] 345 (ps_E g σ)) → pm_W g mX8_busiest (ps_F g D (ps_qI P)) 0 0 29 [some (.ref (g.2.2.1 + 0)), some (.int y1), some (.int x2), some (.int x3), some (.int x4), none] [] 345 (ps_E g σ) := by
  intro n
  induction n with
  | zero => intro x2 x3 x4 σ hK; exact (ps_no hK).elim
  | succ n ih =>
    intro x2 x3 x4 σ hK
    rw [qX8_busiest_29] at hK
    refine pm_ild d_X8_busiest_29 rfl ?_
    refine pm_ki d_X8_busiest_31 ?_
    refine pm_icmp_ge d_X8_busiest_33 (fun c6 => ?_) (fun c6 => ?_)
    · replace hK := ps_ifT c6 hK
      exact ps_so hK
    · replace hK := ps_ifF c6 hK
      refine pm_ald d_X8_busiest_36 rfl ?_
      refine pm_ild d_X8_busiest_37 rfl ?_
      refine ps_cVI d_X8_busiest_38 mv_X8_wroteInSpan at_0 ob_0_0 rfl (As := [.int y1]) rfl rfl (ps_room.of (by omega) (by decide)) (Nat.le_of_ble_eq_true rfl) (C_X8_wroteInSpan y1 σ _ (ps_bdE hK)) ?_
      intro v7 σ8 hT
      clear hK
      have hK := hT
      clear hT
      refine pm_ist5 d_X8_busiest_41 rfl (by decide) ?_
      refine pm_ild d_X8_busiest_43 rfl ?_
      refine pm_ild d_X8_busiest_45 rfl ?_
      refine pm_icmp_le d_X8_busiest_46 (fun c9 => ?_) (fun c9 => ?_)
      · replace hK := ps_ifT c9 hK
        refine pm_inc4 d_X8_busiest_55 rfl ?_
        obtain ⟨v10, ev10⟩ : ∃ y : Int32, y = x4 + 1 := ⟨_, rfl⟩
        rw [← ev10]
        replace hK := ps_ltE ev10 hK
        refine pm_goto d_X8_busiest_58 ?_
        refine pm_wk (ls' := [some (.ref (g.2.2.1 + 0)), some (.int y1), some (.int x2), some (.int x3), some (.int v10), none]) ⟨rfl, ⟨rfl, ⟨rfl, ⟨rfl, ⟨rfl, trivial⟩⟩⟩⟩⟩ ?_
        exact ih _ _ _ _ hK
      · replace hK := ps_ifF c9 hK
        refine pm_ild d_X8_busiest_49 rfl ?_
        refine pm_ist3 d_X8_busiest_51 rfl (by decide) ?_
        refine pm_ild d_X8_busiest_52 rfl ?_
        refine pm_ist2 d_X8_busiest_54 rfl (by decide) ?_
        refine pm_inc4 d_X8_busiest_55 rfl ?_
        obtain ⟨v11, ev11⟩ : ∃ y : Int32, y = x4 + 1 := ⟨_, rfl⟩
        rw [← ev11]
        replace hK := ps_ltE ev11 hK
        refine pm_goto d_X8_busiest_58 ?_
        refine pm_wk (ls' := [some (.ref (g.2.2.1 + 0)), some (.int y1), some (.int x4), some (.int v7), some (.int v11), none]) ⟨rfl, ⟨rfl, ⟨rfl, ⟨rfl, ⟨rfl, trivial⟩⟩⟩⟩⟩ ?_
        exact ih _ _ _ _ hK
def qX8_busiest (p1 : Int32) (σ : ps_S) : Option (Int32 × ps_S) :=
  ps_bd (qX8_isDevice p1 σ) (fun v1 σ2 =>
  if v1 = 0 then
  some ((-2), σ2)
  else
  ps_bd (qX6_copyFrom 44 26 σ2) (fun _ σ5 =>
  ps_bd (qX8_busiest_29 p1 ps_N 0 0 0 σ5) (fun res σ12 => match res with
  | (v13, v14, v15) =>
    some (v13, σ12))))
set_option maxRecDepth 100000 in
theorem C_X8_busiest {g : pm_G} (p1 : Int32) (σ : ps_S) (P : Int32 → ps_S → Prop) (hK : ps_ok (qX8_busiest p1 σ) P) : ps_C g mX8_busiest 7 [.ref (g.2.2.1 + 0), .int p1] σ (ps_qI P) := by
  unfold qX8_busiest at hK
  refine ps_C.of (ls := [some (.ref (g.2.2.1 + 0)), some (.int p1), none, none, none, none]) 4 (by decide) rfl (Nat.le_of_ble_eq_true rfl) rfl ?_
  refine pm_ald d_X8_busiest_0 rfl ?_
  refine pm_ild d_X8_busiest_1 rfl ?_
  refine ps_cVI d_X8_busiest_2 mv_X8_isDevice at_0 ob_0_0 rfl (As := [.int p1]) rfl rfl (ps_room.of (by omega) (by decide)) (Nat.le_of_ble_eq_true rfl) (C_X8_isDevice p1 σ _ (ps_bdE hK)) ?_
  intro v1 σ2 hT
  clear hK
  have hK := hT
  clear hT
  refine pm_if_ne d_X8_busiest_5 (fun c3 => ?_) (fun c3 => ?_)
  · replace hK := ps_ifF c3 hK
    refine pm_ald d_X8_busiest_11 rfl ?_
    refine ps_getR (q := 44) d_X8_busiest_12 at_0 f_0_0_7 rfl ?_
    refine pm_ald d_X8_busiest_15 rfl ?_
    refine ps_getR (q := 26) d_X8_busiest_16 at_0 f_0_0_6 rfl ?_
    refine ps_cVV d_X8_busiest_19 mv_X6_copyFrom ps_St44.at0 ob_5_0 rfl (As := [.ref (g.2.2.1 + 26)]) rfl rfl (ps_room.of (by omega) (by decide)) (Nat.le_of_ble_eq_true rfl) (C_X6_copyFrom 44 ps_St44 26 ps_St26 σ2 _ (ps_bdE hK)) ?_
    intro σ5 hT
    clear hK
    have hK := hT
    clear hT
    refine pm_ki d_X8_busiest_22 ?_
    refine pm_ist2 d_X8_busiest_23 rfl (by decide) ?_
    refine pm_ki d_X8_busiest_24 ?_
    refine pm_ist3 d_X8_busiest_25 rfl (by decide) ?_
    refine pm_ki d_X8_busiest_26 ?_
    refine pm_ist4 d_X8_busiest_27 rfl (by decide) ?_
    refine L_X8_busiest_29 _ (by decide) p1 _ _ _ _ _ (ps_ok.mono (ps_bdE hK) ?_)
    rintro ⟨v13, v14, v15⟩ σ12 hT
    clear hK
    have hK := hT
    clear hT
    refine pm_ild d_X8_busiest_61 rfl ?_
    have hQ := ps_so hK
    exact ps_iret rfl d_X8_busiest_62 ⟨_, rfl, hQ⟩
  · replace hK := ps_ifT c3 hK
    refine pm_ki d_X8_busiest_8 ?_
    have hQ := ps_so hK
    exact ps_iret rfl d_X8_busiest_10 ⟨_, rfl, hQ⟩
def qX8_goStalled_30  (y1 : Int32) (y2 : Int32) (y3 : Int32) : Nat → Int32 → Int32 → Int32 → ps_S → Option (((Int32 × Int32 × Int32)) × ps_S)
  | 0, _, _, _, _ => none
  | n + 1, x4, x5, x6, σ =>
    if y2 ≤ x6 then
    some ((x4, x5, x6), σ)
    else
    if y3 = 0 then none else
    ps_let ((x4 - x4 / y3 * y3)) fun v6 =>
    if y3 = 0 then none else
    ps_let ((x4 / y3)) fun v7 =>
    ps_let (σ.1 12 7) fun v8 =>
    if v8 ≤ v6 then
    ps_let (ps_rI σ 44 (upd (σ.1 44) 11 ((-1)))) fun σ10 =>
    ps_let (σ10.1 12 7) fun v11 =>
    ps_let ((x5 * ((10 - v11)))) fun v12 =>
    ps_bd (qX0_run 44 10 σ10) (fun _ σ14 =>
    ps_let (x6 + 1) fun v15 =>
    qX8_goStalled_30 y1 y2 y3 n v7 v12 v15 σ14)
    else
    ps_let (ps_rI σ 44 (upd (σ.1 44) 11 v6)) fun σ16 =>
    ps_bd (qX0_run 44 10 σ16) (fun _ σ18 =>
    ps_let (x6 + 1) fun v19 =>
    qX8_goStalled_30 y1 y2 y3 n v7 x5 v19 σ18)
set_option maxRecDepth 100000 in
theorem L_X8_goStalled_30 {g : pm_G} (D : Nat) (hD : 6 ≤ D) {P : Int32 → ps_S → Prop}  (y1 : Int32) (y2 : Int32) (y3 : Int32) : ∀ (n : Nat) (x4 : Int32) (x5 : Int32) (x6 : Int32) (σ : ps_S), ps_ok (qX8_goStalled_30 y1 y2 y3 n x4 x5 x6 σ) (fun res σ => match res with | (x4, x5, x6) => pm_W g mX8_goStalled (ps_F g D (ps_qI P)) 0 0 114 [some (.ref (g.2.2.1 + 0)), some (.int y1), some (.int y2), some (.int y3), some (.int x4), some (.int x5), some (.int x6), none] [] 345 (ps_E g σ)) → pm_W g mX8_goStalled (ps_F g D (ps_qI P)) 0 0 30 [some (.ref (g.2.2.1 + 0)), some (.int y1), some (.int y2), some (.int y3), some (.int x4), some (.int x5), some (.int x6), none] [] 345 (ps_E g σ) := by
  intro n
  induction n with
  | zero => intro x4 x5 x6 σ hK; exact (ps_no hK).elim
  | succ n ih =>
    intro x4 x5 x6 σ hK
    rw [qX8_goStalled_30] at hK
    refine pm_ild d_X8_goStalled_30 rfl ?_
    refine pm_ild d_X8_goStalled_32 rfl ?_
    refine pm_icmp_ge d_X8_goStalled_33 (fun c5 => ?_) (fun c5 => ?_)
    · replace hK := ps_ifT c5 hK
      exact ps_so hK
    · replace hK := ps_ifF c5 hK
      refine pm_ild d_X8_goStalled_36 rfl ?_
      refine pm_ild d_X8_goStalled_38 rfl ?_
      by_cases z21 : y3 = 0
      · exact (ps_no (ps_ifT z21 hK)).elim
      replace hK := ps_ifF z21 hK
      refine pm_irem d_X8_goStalled_39 z21 ?_
      refine ps_topI (fun v6 ev6 => ?_)
      replace hK := ps_ltE ev6 hK
      refine pm_ist7 d_X8_goStalled_40 rfl (by decide) ?_
      refine pm_ild d_X8_goStalled_42 rfl ?_
      refine pm_ild d_X8_goStalled_44 rfl ?_
      by_cases z20 : y3 = 0
      · exact (ps_no (ps_ifT z20 hK)).elim
      replace hK := ps_ifF z20 hK
      refine pm_idiv d_X8_goStalled_45 z20 ?_
      refine ps_topI (fun v7 ev7 => ?_)
      replace hK := ps_ltE ev7 hK
      refine pm_ist4 d_X8_goStalled_46 rfl (by decide) ?_
      refine pm_ild d_X8_goStalled_48 rfl ?_
      refine pm_ald d_X8_goStalled_50 rfl ?_
      refine ps_getR (q := 12) d_X8_goStalled_51 at_0 f_0_0_4 rfl ?_
      refine ps_getI d_X8_goStalled_54 ps_Ho12.at0 f_2_0_7 rfl ?_
      refine ps_topI (fun v8 ev8 => ?_)
      replace hK := ps_ltE ev8 hK
      refine pm_icmp_ge d_X8_goStalled_57 (fun c9 => ?_) (fun c9 => ?_)
      · replace hK := ps_ifT c9 hK
        refine pm_ald d_X8_goStalled_72 rfl ?_
        refine ps_getR (q := 44) d_X8_goStalled_73 at_0 f_0_0_7 rfl ?_
        refine pm_ki d_X8_goStalled_76 ?_
        refine ps_putI d_X8_goStalled_77 ps_St44.at0 f_5_0_11 rfl rfl ?_
        refine ps_nmS (fun σ10 eσ10 => ?_)
        replace hK := ps_ltE eσ10 hK
        refine pm_ild d_X8_goStalled_80 rfl ?_
        refine pm_ki d_X8_goStalled_82 ?_
        refine pm_ald d_X8_goStalled_84 rfl ?_
        refine ps_getR (q := 12) d_X8_goStalled_85 at_0 f_0_0_4 rfl ?_
        refine ps_getI d_X8_goStalled_88 ps_Ho12.at0 f_2_0_7 rfl ?_
        refine ps_topI (fun v11 ev11 => ?_)
        replace hK := ps_ltE ev11 hK
        refine pm_isub d_X8_goStalled_91 ?_
        refine pm_imul d_X8_goStalled_92 ?_
        refine ps_topI (fun v12 ev12 => ?_)
        replace hK := ps_ltE ev12 hK
        refine pm_ist5 d_X8_goStalled_93 rfl (by decide) ?_
        refine pm_ald d_X8_goStalled_95 rfl ?_
        refine ps_getR (q := 21) d_X8_goStalled_96 at_0 f_0_0_5 rfl ?_
        refine pm_ald d_X8_goStalled_99 rfl ?_
        refine ps_getR (q := 44) d_X8_goStalled_100 at_0 f_0_0_7 rfl ?_
        refine pm_ki d_X8_goStalled_103 ?_
        refine ps_cVV d_X8_goStalled_105 mv_X0_run at_21 ob_4_0 rfl (As := [.ref (g.2.2.1 + 44), .int 10]) rfl rfl (ps_room.of (by omega) (by decide)) (Nat.le_of_ble_eq_true rfl) (C_X0_run 44 ps_St44 10 σ10 _ (ps_bdE hK)) ?_
        intro σ14 hT
        clear hK
        have hK := hT
        clear hT
        refine pm_inc6 d_X8_goStalled_108 rfl ?_
        obtain ⟨v15, ev15⟩ : ∃ y : Int32, y = x6 + 1 := ⟨_, rfl⟩
        rw [← ev15]
        replace hK := ps_ltE ev15 hK
        refine pm_goto d_X8_goStalled_111 ?_
        refine pm_wk (ls' := [some (.ref (g.2.2.1 + 0)), some (.int y1), some (.int y2), some (.int y3), some (.int v7), some (.int v12), some (.int v15), none]) ⟨rfl, ⟨rfl, ⟨rfl, ⟨rfl, ⟨rfl, ⟨rfl, ⟨rfl, trivial⟩⟩⟩⟩⟩⟩⟩ ?_
        exact ih _ _ _ _ hK
      · replace hK := ps_ifF c9 hK
        refine pm_ald d_X8_goStalled_60 rfl ?_
        refine ps_getR (q := 44) d_X8_goStalled_61 at_0 f_0_0_7 rfl ?_
        refine pm_ild d_X8_goStalled_64 rfl ?_
        refine ps_putI d_X8_goStalled_66 ps_St44.at0 f_5_0_11 rfl rfl ?_
        refine ps_nmS (fun σ16 eσ16 => ?_)
        replace hK := ps_ltE eσ16 hK
        refine pm_goto d_X8_goStalled_69 ?_
        refine pm_ald d_X8_goStalled_95 rfl ?_
        refine ps_getR (q := 21) d_X8_goStalled_96 at_0 f_0_0_5 rfl ?_
        refine pm_ald d_X8_goStalled_99 rfl ?_
        refine ps_getR (q := 44) d_X8_goStalled_100 at_0 f_0_0_7 rfl ?_
        refine pm_ki d_X8_goStalled_103 ?_
        refine ps_cVV d_X8_goStalled_105 mv_X0_run at_21 ob_4_0 rfl (As := [.ref (g.2.2.1 + 44), .int 10]) rfl rfl (ps_room.of (by omega) (by decide)) (Nat.le_of_ble_eq_true rfl) (C_X0_run 44 ps_St44 10 σ16 _ (ps_bdE hK)) ?_
        intro σ18 hT
        clear hK
        have hK := hT
        clear hT
        refine pm_inc6 d_X8_goStalled_108 rfl ?_
        obtain ⟨v19, ev19⟩ : ∃ y : Int32, y = x6 + 1 := ⟨_, rfl⟩
        rw [← ev19]
        replace hK := ps_ltE ev19 hK
        refine pm_goto d_X8_goStalled_111 ?_
        refine pm_wk (ls' := [some (.ref (g.2.2.1 + 0)), some (.int y1), some (.int y2), some (.int y3), some (.int v7), some (.int x5), some (.int v19), none]) ⟨rfl, ⟨rfl, ⟨rfl, ⟨rfl, ⟨rfl, ⟨rfl, ⟨rfl, trivial⟩⟩⟩⟩⟩⟩⟩ ?_
        exact ih _ _ _ _ hK
def qX8_goStalled (p1 : Int32) (p2 : Int32) (σ : ps_S) : Option (Int32 × ps_S) :=
  ps_bd (qX6_copyFrom 44 26 σ) (fun _ σ2 =>
  ps_let (σ2.1 12 7) fun v3 =>
  ps_let ((v3 + 1)) fun v4 =>
  ps_bd (qX8_goStalled_30 p1 p2 v4 ps_N p1 1 0 σ2) (fun res σ22 => match res with
  | (v23, v24, v25) =>
    some (v24, σ22)))
set_option maxRecDepth 100000 in
theorem C_X8_goStalled {g : pm_G} (p1 : Int32) (p2 : Int32) (σ : ps_S) (P : Int32 → ps_S → Prop) (hK : ps_ok (qX8_goStalled p1 p2 σ) P) : ps_C g mX8_goStalled 6 [.ref (g.2.2.1 + 0), .int p1, .int p2] σ (ps_qI P) := by
  unfold qX8_goStalled at hK
  refine ps_C.of (ls := [some (.ref (g.2.2.1 + 0)), some (.int p1), some (.int p2), none, none, none, none, none]) 5 (by decide) rfl (Nat.le_of_ble_eq_true rfl) rfl ?_
  refine pm_ald d_X8_goStalled_0 rfl ?_
  refine ps_getR (q := 44) d_X8_goStalled_1 at_0 f_0_0_7 rfl ?_
  refine pm_ald d_X8_goStalled_4 rfl ?_
  refine ps_getR (q := 26) d_X8_goStalled_5 at_0 f_0_0_6 rfl ?_
  refine ps_cVV d_X8_goStalled_8 mv_X6_copyFrom ps_St44.at0 ob_5_0 rfl (As := [.ref (g.2.2.1 + 26)]) rfl rfl (ps_room.of (by omega) (by decide)) (Nat.le_of_ble_eq_true rfl) (C_X6_copyFrom 44 ps_St44 26 ps_St26 σ _ (ps_bdE hK)) ?_
  intro σ2 hT
  clear hK
  have hK := hT
  clear hT
  refine pm_ald d_X8_goStalled_11 rfl ?_
  refine ps_getR (q := 12) d_X8_goStalled_12 at_0 f_0_0_4 rfl ?_
  refine ps_getI d_X8_goStalled_15 ps_Ho12.at0 f_2_0_7 rfl ?_
  refine ps_topI (fun v3 ev3 => ?_)
  replace hK := ps_ltE ev3 hK
  refine pm_ki d_X8_goStalled_18 ?_
  refine pm_iadd d_X8_goStalled_19 ?_
  refine ps_topI (fun v4 ev4 => ?_)
  replace hK := ps_ltE ev4 hK
  refine pm_ist3 d_X8_goStalled_20 rfl (by decide) ?_
  refine pm_ild d_X8_goStalled_21 rfl ?_
  refine pm_ist4 d_X8_goStalled_22 rfl (by decide) ?_
  refine pm_ki d_X8_goStalled_24 ?_
  refine pm_ist5 d_X8_goStalled_25 rfl (by decide) ?_
  refine pm_ki d_X8_goStalled_27 ?_
  refine pm_ist6 d_X8_goStalled_28 rfl (by decide) ?_
  refine L_X8_goStalled_30 _ (by decide) p1 p2 v4 _ _ _ _ _ (ps_ok.mono (ps_bdE hK) ?_)
  rintro ⟨v23, v24, v25⟩ σ22 hT
  clear hK
  have hK := hT
  clear hT
  refine pm_ild d_X8_goStalled_114 rfl ?_
  have hQ := ps_so hK
  exact ps_iret rfl d_X8_goStalled_116 ⟨_, rfl, hQ⟩
def qX8_inLowestTerms_9  (y0 : Int64) (y2 : Int64) (y4 : Int32) : Nat → Int64 → Int64 → Int32 → ps_S → Option (((Int64 × Int64 × Int32)) × ps_S)
  | 0, _, _, _, _ => none
  | n + 1, x5, x7, x9, σ =>
    if 100 ≤ x9 then
    some ((x5, x7, x9), σ)
    else
    if ((lg_cmp x7 0)) = 0 then
    some ((x5, x7, x9), σ)
    else
    if x7 = 0 then none else
    ps_let ((x5 - x5 / x7 * x7)) fun v3 =>
    ps_let (x9 + 1) fun v4 =>
    qX8_inLowestTerms_9 y0 y2 y4 n x7 v3 v4 σ
set_option maxRecDepth 100000 in
theorem L_X8_inLowestTerms_9 {g : pm_G} (D : Nat) (hD : 1 ≤ D) {P : Int64 → ps_S → Prop}  (y0 : Int64) (y2 : Int64) (y4 : Int32) : ∀ (n : Nat) (x5 : Int64) (x7 : Int64) (x9 : Int32) (σ : ps_S), ps_ok (qX8_inLowestTerms_9 y0 y2 y4 n x5 x7 x9 σ) (fun res σ => match res with | (x5, x7, x9) => pm_W g mX8_inLowestTerms (ps_F g D (ps_qL P)) 0 0 44 [some (.long y0), none, some (.long y2), none, some (.int y4), some (.long x5), none, some (.long x7), none, some (.int x9), none, none] [] 345 (ps_E g σ)) → pm_W g mX8_inLowestTerms (ps_F g D (ps_qL P)) 0 0 9 [some (.long y0), none, some (.long y2), none, some (.int y4), some (.long x5), none, some (.long x7), none, some (.int x9), none, none] [] 345 (ps_E g σ) := by
  intro n
  induction n with
  | zero => intro x5 x7 x9 σ hK; exact (ps_no hK).elim
  | succ n ih =>
    intro x5 x7 x9 σ hK
    rw [qX8_inLowestTerms_9] at hK
    refine pm_ild d_X8_inLowestTerms_9 rfl ?_
    refine pm_ki d_X8_inLowestTerms_11 ?_
    refine pm_icmp_ge d_X8_inLowestTerms_13 (fun c1 => ?_) (fun c1 => ?_)
    · replace hK := ps_ifT c1 hK
      exact ps_so hK
    · replace hK := ps_ifF c1 hK
      refine pm_lld d_X8_inLowestTerms_16 rfl ?_
      refine pm_kl d_X8_inLowestTerms_18 ?_
      refine pm_lcmp d_X8_inLowestTerms_19 ?_
      refine pm_if_eq d_X8_inLowestTerms_20 (fun c2 => ?_) (fun c2 => ?_)
      · replace hK := ps_ifT c2 hK
        exact ps_so hK
      · replace hK := ps_ifF c2 hK
        refine pm_lld d_X8_inLowestTerms_23 rfl ?_
        refine pm_lld d_X8_inLowestTerms_25 rfl ?_
        by_cases z5 : x7 = 0
        · exact (ps_no (ps_ifT z5 hK)).elim
        replace hK := ps_ifF z5 hK
        refine pm_lrem d_X8_inLowestTerms_27 z5 ?_
        refine ps_topL (fun v3 ev3 => ?_)
        replace hK := ps_ltE ev3 hK
        refine pm_lst10 d_X8_inLowestTerms_28 rfl (by decide) ?_
        refine pm_lld d_X8_inLowestTerms_30 rfl ?_
        refine pm_lst5 d_X8_inLowestTerms_32 rfl (by decide) ?_
        refine pm_lld d_X8_inLowestTerms_34 rfl ?_
        refine pm_lst7 d_X8_inLowestTerms_36 rfl (by decide) ?_
        refine pm_inc9 d_X8_inLowestTerms_38 rfl ?_
        obtain ⟨v4, ev4⟩ : ∃ y : Int32, y = x9 + 1 := ⟨_, rfl⟩
        rw [← ev4]
        replace hK := ps_ltE ev4 hK
        refine pm_goto d_X8_inLowestTerms_41 ?_
        refine pm_wk (ls' := [some (.long y0), none, some (.long y2), none, some (.int y4), some (.long x7), none, some (.long v3), none, some (.int v4), none, none]) ⟨rfl, ⟨rfl, ⟨rfl, ⟨rfl, ⟨rfl, ⟨rfl, trivial⟩⟩⟩⟩⟩⟩ ?_
        exact ih _ _ _ _ hK
def qX8_inLowestTerms (p1 : Int64) (p2 : Int64) (p3 : Int32) (σ : ps_S) : Option (Int64 × ps_S) :=
  ps_bd (qX8_inLowestTerms_9 p1 p2 p3 ps_N p1 p2 0 σ) (fun res σ6 => match res with
  | (v7, v8, v9) =>
    if ((lg_cmp v7 0)) ≤ 0 then
    if p3 = 0 then
    some ((p1 / 1), σ6)
    else
    some ((p2 / 1), σ6)
    else
    if p3 = 0 then
    if v7 = 0 then none else
    some ((p1 / v7), σ6)
    else
    if v7 = 0 then none else
    some ((p2 / v7), σ6))
set_option maxRecDepth 100000 in
theorem C_X8_inLowestTerms {g : pm_G} (p1 : Int64) (p2 : Int64) (p3 : Int32) (σ : ps_S) (P : Int64 → ps_S → Prop) (hK : ps_ok (qX8_inLowestTerms p1 p2 p3 σ) P) : ps_C g mX8_inLowestTerms 1 [.long p1, .long p2, .int p3] σ (ps_qL P) := by
  unfold qX8_inLowestTerms at hK
  refine ps_C.of (ls := [some (.long p1), none, some (.long p2), none, some (.int p3), none, none, none, none, none, none, none]) 7 (by decide) rfl (Nat.le_of_ble_eq_true rfl) rfl ?_
  refine pm_lld d_X8_inLowestTerms_0 rfl ?_
  refine pm_lst5 d_X8_inLowestTerms_1 rfl (by decide) ?_
  refine pm_lld d_X8_inLowestTerms_3 rfl ?_
  refine pm_lst7 d_X8_inLowestTerms_4 rfl (by decide) ?_
  refine pm_ki d_X8_inLowestTerms_6 ?_
  refine pm_ist9 d_X8_inLowestTerms_7 rfl (by decide) ?_
  refine L_X8_inLowestTerms_9 _ (by decide) p1 p2 p3 _ _ _ _ _ (ps_ok.mono (ps_bdE hK) ?_)
  rintro ⟨v7, v8, v9⟩ σ6 hT
  clear hK
  have hK := hT
  clear hT
  refine pm_lld d_X8_inLowestTerms_44 rfl ?_
  refine pm_kl d_X8_inLowestTerms_46 ?_
  refine pm_lcmp d_X8_inLowestTerms_47 ?_
  refine pm_if_le d_X8_inLowestTerms_48 (fun c10 => ?_) (fun c10 => ?_)
  · replace hK := ps_ifT c10 hK
    refine pm_kl d_X8_inLowestTerms_56 ?_
    refine pm_lst9 d_X8_inLowestTerms_57 rfl (by decide) ?_
    refine pm_ild d_X8_inLowestTerms_59 rfl ?_
    refine pm_if_ne d_X8_inLowestTerms_61 (fun c11 => ?_) (fun c11 => ?_)
    · replace hK := ps_ifF c11 hK
      refine pm_lld d_X8_inLowestTerms_71 rfl ?_
      refine pm_lld d_X8_inLowestTerms_72 rfl ?_
      refine pm_ldiv d_X8_inLowestTerms_74 (by decide) ?_
      have hQ := ps_so hK
      exact ps_lret rfl d_X8_inLowestTerms_75 ⟨_, rfl, hQ⟩
    · replace hK := ps_ifT c11 hK
      refine pm_lld d_X8_inLowestTerms_64 rfl ?_
      refine pm_lld d_X8_inLowestTerms_65 rfl ?_
      refine pm_ldiv d_X8_inLowestTerms_67 (by decide) ?_
      refine pm_goto d_X8_inLowestTerms_68 ?_
      have hQ := ps_so hK
      exact ps_lret rfl d_X8_inLowestTerms_75 ⟨_, rfl, hQ⟩
  · replace hK := ps_ifF c10 hK
    refine pm_lld d_X8_inLowestTerms_51 rfl ?_
    refine pm_goto d_X8_inLowestTerms_53 ?_
    refine pm_lst9 d_X8_inLowestTerms_57 rfl (by decide) ?_
    refine pm_ild d_X8_inLowestTerms_59 rfl ?_
    refine pm_if_ne d_X8_inLowestTerms_61 (fun c12 => ?_) (fun c12 => ?_)
    · replace hK := ps_ifF c12 hK
      refine pm_lld d_X8_inLowestTerms_71 rfl ?_
      refine pm_lld d_X8_inLowestTerms_72 rfl ?_
      by_cases z13 : v7 = 0
      · exact (ps_no (ps_ifT z13 hK)).elim
      replace hK := ps_ifF z13 hK
      refine pm_ldiv d_X8_inLowestTerms_74 z13 ?_
      have hQ := ps_so hK
      exact ps_lret rfl d_X8_inLowestTerms_75 ⟨_, rfl, hQ⟩
    · replace hK := ps_ifT c12 hK
      refine pm_lld d_X8_inLowestTerms_64 rfl ?_
      refine pm_lld d_X8_inLowestTerms_65 rfl ?_
      by_cases z14 : v7 = 0
      · exact (ps_no (ps_ifT z14 hK)).elim
      replace hK := ps_ifF z14 hK
      refine pm_ldiv d_X8_inLowestTerms_67 z14 ?_
      refine pm_goto d_X8_inLowestTerms_68 ?_
      have hQ := ps_so hK
      exact ps_lret rfl d_X8_inLowestTerms_75 ⟨_, rfl, hQ⟩
def qX8_power_4  (y0 : Int32) (y1 : Int32) : Nat → Int32 → Int32 → ps_S → Option (((Int32 × Int32)) × ps_S)
  | 0, _, _, _ => none
  | n + 1, x2, x3, σ =>
    if y1 ≤ x3 then
    some ((x2, x3), σ)
    else
    ps_let ((x2 * y0)) fun v2 =>
    ps_let (x3 + 1) fun v3 =>
    qX8_power_4 y0 y1 n v2 v3 σ
set_option maxRecDepth 100000 in
theorem L_X8_power_4 {g : pm_G} (D : Nat) (hD : 1 ≤ D) {P : Int32 → ps_S → Prop}  (y0 : Int32) (y1 : Int32) : ∀ (n : Nat) (x2 : Int32) (x3 : Int32) (σ : ps_S), ps_ok (qX8_power_4 y0 y1 n x2 x3 σ) (fun res σ => match res with | (x2, x3) => pm_W g mX8_power (ps_F g D (ps_qI P)) 0 0 19 [some (.int y0), some (.int y1), some (.int x2), some (.int x3)] [] 345 (ps_E g σ)) → pm_W g mX8_power (ps_F g D (ps_qI P)) 0 0 4 [some (.int y0), some (.int y1), some (.int x2), some (.int x3)] [] 345 (ps_E g σ) := by
  intro n
  induction n with
  | zero => intro x2 x3 σ hK; exact (ps_no hK).elim
  | succ n ih =>
    intro x2 x3 σ hK
    rw [qX8_power_4] at hK
    refine pm_ild d_X8_power_4 rfl ?_
    refine pm_ild d_X8_power_5 rfl ?_
    refine pm_icmp_ge d_X8_power_6 (fun c1 => ?_) (fun c1 => ?_)
    · replace hK := ps_ifT c1 hK
      exact ps_so hK
    · replace hK := ps_ifF c1 hK
      refine pm_ild d_X8_power_9 rfl ?_
      refine pm_ild d_X8_power_10 rfl ?_
      refine pm_imul d_X8_power_11 ?_
      refine ps_topI (fun v2 ev2 => ?_)
      replace hK := ps_ltE ev2 hK
      refine pm_ist2 d_X8_power_12 rfl (by decide) ?_
      refine pm_inc3 d_X8_power_13 rfl ?_
      obtain ⟨v3, ev3⟩ : ∃ y : Int32, y = x3 + 1 := ⟨_, rfl⟩
      rw [← ev3]
      replace hK := ps_ltE ev3 hK
      refine pm_goto d_X8_power_16 ?_
      exact ih _ _ _ hK
def qX8_power (p1 : Int32) (p2 : Int32) (σ : ps_S) : Option (Int32 × ps_S) :=
  ps_bd (qX8_power_4 p1 p2 ps_N 1 0 σ) (fun res σ4 => match res with
  | (v5, v6) =>
    some (v5, σ4))
set_option maxRecDepth 100000 in
theorem C_X8_power {g : pm_G} (p1 : Int32) (p2 : Int32) (σ : ps_S) (P : Int32 → ps_S → Prop) (hK : ps_ok (qX8_power p1 p2 σ) P) : ps_C g mX8_power 1 [.int p1, .int p2] σ (ps_qI P) := by
  unfold qX8_power at hK
  refine ps_C.of (ls := [some (.int p1), some (.int p2), none, none]) 2 (by decide) rfl (Nat.le_of_ble_eq_true rfl) rfl ?_
  refine pm_ki d_X8_power_0 ?_
  refine pm_ist2 d_X8_power_1 rfl (by decide) ?_
  refine pm_ki d_X8_power_2 ?_
  refine pm_ist3 d_X8_power_3 rfl (by decide) ?_
  refine L_X8_power_4 _ (by decide) p1 p2 _ _ _ _ (ps_ok.mono (ps_bdE hK) ?_)
  rintro ⟨v5, v6⟩ σ4 hT
  clear hK
  have hK := hT
  clear hT
  refine pm_ild d_X8_power_19 rfl ?_
  have hQ := ps_so hK
  exact ps_iret rfl d_X8_power_20 ⟨_, rfl, hQ⟩
def qX8_chance_56  (y1 : Int32) (y2 : Int32) (y3 : Int32) (y5 : Int32) : Nat → Int32 → Int32 → ps_S → Option (((Int32 × Int32)) × ps_S)
  | 0, _, _, _ => none
  | n + 1, x4, x6, σ =>
    if y5 ≤ x6 then
    some ((x4, x6), σ)
    else
    ps_bd (qX8_goStalled x6 y2 σ) (fun v14 σ15 =>
    ps_let (σ15.1 44 9) fun v16 =>
    if y1 ≤ v16 then
    ps_let (x6 + 1) fun v18 =>
    qX8_chance_56 y1 y2 y3 y5 n x4 v18 σ15
    else
    ps_let ((x4 + v14)) fun v19 =>
    ps_let (x6 + 1) fun v20 =>
    qX8_chance_56 y1 y2 y3 y5 n v19 v20 σ15)
set_option maxRecDepth 100000 in
theorem L_X8_chance_56 {g : pm_G} (D : Nat) (hD : 7 ≤ D) {P : Int32 → ps_S → Prop}  (y1 : Int32) (y2 : Int32) (y3 : Int32) (y5 : Int32) : ∀ (n : Nat) (x4 : Int32) (x6 : Int32) (σ : ps_S), ps_ok (qX8_chance_56 y1 y2 y3 y5 n x4 x6 σ) (fun res σ => match res with | (x4, x6) => pm_W g mX8_chance (ps_F g D (ps_qI P)) 0 0 96 [some (.ref (g.2.2.1 + 0)), some (.int y1), some (.int y2), some (.int y3), some (.int x4), some (.int y5), some (.int x6), none] [] 345 (ps_E g σ)) → pm_W g mX8_chance (ps_F g D (ps_qI P)) 0 0 56 [some (.ref (g.2.2.1 + 0)), some (.int y1), some (.int y2), some (.int y3), some (.int x4), some (.int y5), some (.int x6), none] [] 345 (ps_E g σ) := by
  intro n
  induction n with
  | zero => intro x4 x6 σ hK; exact (ps_no hK).elim
  | succ n ih =>
    intro x4 x6 σ hK
    rw [qX8_chance_56] at hK
    refine pm_ild d_X8_chance_56 rfl ?_
    refine pm_ild d_X8_chance_58 rfl ?_
    refine pm_icmp_ge d_X8_chance_60 (fun c13 => ?_) (fun c13 => ?_)
    · replace hK := ps_ifT c13 hK
      exact ps_so hK
    · replace hK := ps_ifF c13 hK
      refine pm_ald d_X8_chance_63 rfl ?_
      refine pm_ild d_X8_chance_64 rfl ?_
      refine pm_ild d_X8_chance_66 rfl ?_
      refine ps_cVI d_X8_chance_67 mv_X8_goStalled at_0 ob_0_0 rfl (As := [.int x6, .int y2]) rfl rfl (ps_room.of (by omega) (by decide)) (Nat.le_of_ble_eq_true rfl) (C_X8_goStalled x6 y2 σ _ (ps_bdE hK)) ?_
      intro v14 σ15 hT
      clear hK
      have hK := hT
      clear hT
      refine pm_ist7 d_X8_chance_70 rfl (by decide) ?_
      refine pm_ald d_X8_chance_72 rfl ?_
      refine ps_getR (q := 44) d_X8_chance_73 at_0 f_0_0_7 rfl ?_
      refine ps_getI d_X8_chance_76 ps_St44.at0 f_5_0_9 rfl ?_
      refine ps_topI (fun v16 ev16 => ?_)
      replace hK := ps_ltE ev16 hK
      refine pm_ild d_X8_chance_79 rfl ?_
      refine pm_icmp_ge d_X8_chance_80 (fun c17 => ?_) (fun c17 => ?_)
      · replace hK := ps_ifT c17 hK
        refine pm_inc6 d_X8_chance_90 rfl ?_
        obtain ⟨v18, ev18⟩ : ∃ y : Int32, y = x6 + 1 := ⟨_, rfl⟩
        rw [← ev18]
        replace hK := ps_ltE ev18 hK
        refine pm_goto d_X8_chance_93 ?_
        refine pm_wk (ls' := [some (.ref (g.2.2.1 + 0)), some (.int y1), some (.int y2), some (.int y3), some (.int x4), some (.int y5), some (.int v18), none]) ⟨rfl, ⟨rfl, ⟨rfl, ⟨rfl, ⟨rfl, ⟨rfl, ⟨rfl, trivial⟩⟩⟩⟩⟩⟩⟩ ?_
        exact ih _ _ _ hK
      · replace hK := ps_ifF c17 hK
        refine pm_ild d_X8_chance_83 rfl ?_
        refine pm_ild d_X8_chance_85 rfl ?_
        refine pm_iadd d_X8_chance_87 ?_
        refine ps_topI (fun v19 ev19 => ?_)
        replace hK := ps_ltE ev19 hK
        refine pm_ist4 d_X8_chance_88 rfl (by decide) ?_
        refine pm_inc6 d_X8_chance_90 rfl ?_
        obtain ⟨v20, ev20⟩ : ∃ y : Int32, y = x6 + 1 := ⟨_, rfl⟩
        rw [← ev20]
        replace hK := ps_ltE ev20 hK
        refine pm_goto d_X8_chance_93 ?_
        refine pm_wk (ls' := [some (.ref (g.2.2.1 + 0)), some (.int y1), some (.int y2), some (.int y3), some (.int v19), some (.int y5), some (.int v20), none]) ⟨rfl, ⟨rfl, ⟨rfl, ⟨rfl, ⟨rfl, ⟨rfl, ⟨rfl, trivial⟩⟩⟩⟩⟩⟩⟩ ?_
        exact ih _ _ _ hK
def qX8_chance (p1 : Int32) (p2 : Int32) (p3 : Int32) (σ : ps_S) : Option (Int32 × ps_S) :=
  ps_bd (qX8_isWithin p3 0 1 σ) (fun v1 σ2 =>
  if v1 = 0 then
  some ((-2), σ2)
  else
  ps_bd (qX8_isWithin p1 1 1000 σ2) (fun v4 σ5 =>
  if v4 = 0 then
  some ((-3), σ5)
  else
  ps_bd (qX8_isWithin p2 1 3 σ5) (fun v7 σ8 =>
  if v7 = 0 then
  some ((-3), σ8)
  else
  ps_let (σ8.1 12 7) fun v10 =>
  ps_bd (qX8_power ((v10 + 1)) p2 σ8) (fun v11 σ12 =>
  ps_bd (qX8_chance_56 p1 p2 p3 v11 ps_N 0 0 σ12) (fun res σ21 => match res with
  | (v22, v23) =>
    ps_bd (qX8_power 10 p2 σ21) (fun v24 σ25 =>
    ps_bd (qX8_inLowestTerms (((v22).toInt64)) (((v24).toInt64)) p3 σ25) (fun v26 σ27 =>
    some (((v26).toInt32), σ27))))))))
set_option maxRecDepth 100000 in
theorem C_X8_chance {g : pm_G} (p1 : Int32) (p2 : Int32) (p3 : Int32) (σ : ps_S) (P : Int32 → ps_S → Prop) (hK : ps_ok (qX8_chance p1 p2 p3 σ) P) : ps_C g mX8_chance 7 [.ref (g.2.2.1 + 0), .int p1, .int p2, .int p3] σ (ps_qI P) := by
  unfold qX8_chance at hK
  refine ps_C.of (ls := [some (.ref (g.2.2.1 + 0)), some (.int p1), some (.int p2), some (.int p3), none, none, none, none]) 4 (by decide) rfl (Nat.le_of_ble_eq_true rfl) rfl ?_
  refine pm_ild d_X8_chance_0 rfl ?_
  refine pm_ki d_X8_chance_1 ?_
  refine pm_ki d_X8_chance_2 ?_
  refine ps_cSI d_X8_chance_3 ms_X8_isWithin (As := [.int p3, .int 0, .int 1]) rfl rfl (ps_room.of (by omega) (by decide)) (Nat.le_of_ble_eq_true rfl) (C_X8_isWithin p3 0 1 σ _ (ps_bdE hK)) ?_
  intro v1 σ2 hT
  clear hK
  have hK := hT
  clear hT
  refine pm_if_ne d_X8_chance_6 (fun c3 => ?_) (fun c3 => ?_)
  · replace hK := ps_ifF c3 hK
    refine pm_ild d_X8_chance_12 rfl ?_
    refine pm_ki d_X8_chance_13 ?_
    refine pm_ki d_X8_chance_14 ?_
    refine ps_cSI d_X8_chance_17 ms_X8_isWithin (As := [.int p1, .int 1, .int 1000]) rfl rfl (ps_room.of (by omega) (by decide)) (Nat.le_of_ble_eq_true rfl) (C_X8_isWithin p1 1 1000 σ2 _ (ps_bdE hK)) ?_
    intro v4 σ5 hT
    clear hK
    have hK := hT
    clear hT
    refine pm_if_eq d_X8_chance_20 (fun c6 => ?_) (fun c6 => ?_)
    · replace hK := ps_ifT c6 hK
      refine pm_ki d_X8_chance_32 ?_
      have hQ := ps_so hK
      exact ps_iret rfl d_X8_chance_34 ⟨_, rfl, hQ⟩
    · replace hK := ps_ifF c6 hK
      refine pm_ild d_X8_chance_23 rfl ?_
      refine pm_ki d_X8_chance_24 ?_
      refine pm_ki d_X8_chance_25 ?_
      refine ps_cSI d_X8_chance_26 ms_X8_isWithin (As := [.int p2, .int 1, .int 3]) rfl rfl (ps_room.of (by omega) (by decide)) (Nat.le_of_ble_eq_true rfl) (C_X8_isWithin p2 1 3 σ5 _ (ps_bdE hK)) ?_
      intro v7 σ8 hT
      clear hK
      have hK := hT
      clear hT
      refine pm_if_ne d_X8_chance_29 (fun c9 => ?_) (fun c9 => ?_)
      · replace hK := ps_ifF c9 hK
        refine pm_ki d_X8_chance_35 ?_
        refine pm_ist4 d_X8_chance_36 rfl (by decide) ?_
        refine pm_ald d_X8_chance_38 rfl ?_
        refine ps_getR (q := 12) d_X8_chance_39 at_0 f_0_0_4 rfl ?_
        refine ps_getI d_X8_chance_42 ps_Ho12.at0 f_2_0_7 rfl ?_
        refine ps_topI (fun v10 ev10 => ?_)
        replace hK := ps_ltE ev10 hK
        refine pm_ki d_X8_chance_45 ?_
        refine pm_iadd d_X8_chance_46 ?_
        refine pm_ild d_X8_chance_47 rfl ?_
        refine ps_cSI d_X8_chance_48 ms_X8_power (As := [.int (v10 + 1), .int p2]) rfl rfl (ps_room.of (by omega) (by decide)) (Nat.le_of_ble_eq_true rfl) (C_X8_power ((v10 + 1)) p2 σ8 _ (ps_bdE hK)) ?_
        intro v11 σ12 hT
        clear hK
        have hK := hT
        clear hT
        refine pm_ist5 d_X8_chance_51 rfl (by decide) ?_
        refine pm_ki d_X8_chance_53 ?_
        refine pm_ist6 d_X8_chance_54 rfl (by decide) ?_
        refine L_X8_chance_56 _ (by decide) p1 p2 p3 v11 _ _ _ _ (ps_ok.mono (ps_bdE hK) ?_)
        rintro ⟨v22, v23⟩ σ21 hT
        clear hK
        have hK := hT
        clear hT
        refine pm_ild d_X8_chance_96 rfl ?_
        refine pm_i2l d_X8_chance_98 ?_
        refine pm_ki d_X8_chance_99 ?_
        refine pm_ild d_X8_chance_101 rfl ?_
        refine ps_cSI d_X8_chance_102 ms_X8_power (As := [.int 10, .int p2]) rfl rfl (ps_room.of (by omega) (by decide)) (Nat.le_of_ble_eq_true rfl) (C_X8_power 10 p2 σ21 _ (ps_bdE hK)) ?_
        intro v24 σ25 hT
        clear hK
        have hK := hT
        clear hT
        refine pm_i2l d_X8_chance_105 ?_
        refine pm_ild d_X8_chance_106 rfl ?_
        refine ps_cSL d_X8_chance_107 ms_X8_inLowestTerms (As := [.long ((v22).toInt64), .long ((v24).toInt64), .int p3]) rfl rfl (ps_room.of (by omega) (by decide)) (Nat.le_of_ble_eq_true rfl) (C_X8_inLowestTerms (((v22).toInt64)) (((v24).toInt64)) p3 σ25 _ (ps_bdE hK)) ?_
        intro v26 σ27 hT
        clear hK
        have hK := hT
        clear hT
        refine pm_l2i d_X8_chance_110 ?_
        have hQ := ps_so hK
        exact ps_iret rfl d_X8_chance_111 ⟨_, rfl, hQ⟩
      · replace hK := ps_ifT c9 hK
        refine pm_ki d_X8_chance_32 ?_
        have hQ := ps_so hK
        exact ps_iret rfl d_X8_chance_34 ⟨_, rfl, hQ⟩
  · replace hK := ps_ifT c3 hK
    refine pm_ki d_X8_chance_9 ?_
    have hQ := ps_so hK
    exact ps_iret rfl d_X8_chance_11 ⟨_, rfl, hQ⟩
def qX6_sumOf_4 (k1 n1 : Nat) : Nat → Int32 → Int32 → ps_S → Option (((Int32 × Int32)) × ps_S)
  | 0, _, _, _ => none
  | n + 1, x1, x2, σ =>
    if ((Int32.ofNat n1)) ≤ x2 then
    some ((x1, x2), σ)
    else
    if ps_in x2 n1 = true then
    ps_let (σ.1 k1 (x2).toNatClampNeg) fun v2 =>
    ps_let ((x1 + v2)) fun v3 =>
    ps_let (x2 + 1) fun v4 =>
    qX6_sumOf_4 k1 n1 n v3 v4 σ
    else none
set_option maxRecDepth 100000 in
theorem L_X6_sumOf_4 {g : pm_G} (D : Nat) (hD : 1 ≤ D) {P : Int32 → ps_S → Prop} (k1 n1 kd1 b1 o1 : Nat) (ha1 : ps_at k1 kd1 b1 o1) (hf1 : ps_aI kd1 o1 n1 0) : ∀ (n : Nat) (x1 : Int32) (x2 : Int32) (σ : ps_S), ps_ok (qX6_sumOf_4 k1 n1 n x1 x2 σ) (fun res σ => match res with | (x1, x2) => pm_W g mX6_sumOf (ps_F g D (ps_qI P)) 0 0 22 [some (.ref (g.2.2.1 + k1)), some (.int x1), some (.int x2)] [] 345 (ps_E g σ)) → pm_W g mX6_sumOf (ps_F g D (ps_qI P)) 0 0 4 [some (.ref (g.2.2.1 + k1)), some (.int x1), some (.int x2)] [] 345 (ps_E g σ) := by
  intro n
  induction n with
  | zero => intro x1 x2 σ hK; exact (ps_no hK).elim
  | succ n ih =>
    intro x1 x2 σ hK
    rw [qX6_sumOf_4] at hK
    refine pm_ild d_X6_sumOf_4 rfl ?_
    refine pm_ald d_X6_sumOf_5 rfl ?_
    refine ps_alenI d_X6_sumOf_6 ha1 hf1 (by decide) rfl ?_
    refine pm_icmp_ge d_X6_sumOf_7 (fun c1 => ?_) (fun c1 => ?_)
    · replace hK := ps_ifT c1 hK
      exact ps_so hK
    · replace hK := ps_ifF c1 hK
      refine pm_ild d_X6_sumOf_10 rfl ?_
      refine pm_ald d_X6_sumOf_11 rfl ?_
      refine pm_ild d_X6_sumOf_12 rfl ?_
      obtain ⟨b5, hT⟩ := ps_gd hK
      replace hK := hT
      clear hT
      refine ps_iald d_X6_sumOf_13 ha1 hf1 (ps_in_of b5) rfl ?_
      refine ps_topI (fun v2 ev2 => ?_)
      replace hK := ps_ltE ev2 hK
      refine pm_iadd d_X6_sumOf_14 ?_
      refine ps_topI (fun v3 ev3 => ?_)
      replace hK := ps_ltE ev3 hK
      refine pm_ist1 d_X6_sumOf_15 rfl (by decide) ?_
      refine pm_inc2 d_X6_sumOf_16 rfl ?_
      obtain ⟨v4, ev4⟩ : ∃ y : Int32, y = x2 + 1 := ⟨_, rfl⟩
      rw [← ev4]
      replace hK := ps_ltE ev4 hK
      refine pm_goto d_X6_sumOf_19 ?_
      exact ih _ _ _ hK
def qX6_sumOf (k1 n1 : Nat) (σ : ps_S) : Option (Int32 × ps_S) :=
  ps_bd (qX6_sumOf_4 k1 n1 ps_N 0 0 σ) (fun res σ6 => match res with
  | (v7, v8) =>
    some (v7, σ6))
set_option maxRecDepth 100000 in
theorem C_X6_sumOf {g : pm_G} (k1 n1 kd1 b1 o1 : Nat) (ha1 : ps_at k1 kd1 b1 o1) (hf1 : ps_aI kd1 o1 n1 0) (σ : ps_S) (P : Int32 → ps_S → Prop) (hK : ps_ok (qX6_sumOf k1 n1 σ) P) : ps_C g mX6_sumOf 1 [.ref (g.2.2.1 + k1)] σ (ps_qI P) := by
  unfold qX6_sumOf at hK
  refine ps_C.of (ls := [some (.ref (g.2.2.1 + k1)), none, none]) 2 (by decide) rfl (Nat.le_of_ble_eq_true rfl) rfl ?_
  refine pm_ki d_X6_sumOf_0 ?_
  refine pm_ist1 d_X6_sumOf_1 rfl (by decide) ?_
  refine pm_ki d_X6_sumOf_2 ?_
  refine pm_ist2 d_X6_sumOf_3 rfl (by decide) ?_
  refine L_X6_sumOf_4 _ (by decide) k1 n1 kd1 b1 o1 ha1 hf1 _ _ _ _ (ps_ok.mono (ps_bdE hK) ?_)
  rintro ⟨v7, v8⟩ σ6 hT
  clear hK
  have hK := hT
  clear hT
  refine pm_ild d_X6_sumOf_22 rfl ?_
  have hQ := ps_so hK
  exact ps_iret rfl d_X6_sumOf_23 ⟨_, rfl, hQ⟩
def qX6_dirtyInAll (B : Nat) (σ : ps_S) : Option (Int32 × ps_S) :=
  ps_bd (qX6_sumOf (B + 4) 4 σ) (fun v1 σ2 =>
  some (v1, σ2))
set_option maxRecDepth 100000 in
theorem C_X6_dirtyInAll {g : pm_G} (B : Nat) (hB : ps_St B) (σ : ps_S) (P : Int32 → ps_S → Prop) (hK : ps_ok (qX6_dirtyInAll B σ) P) : ps_C g mX6_dirtyInAll 2 [.ref (g.2.2.1 + B)] σ (ps_qI P) := by
  unfold qX6_dirtyInAll at hK
  refine ps_C.of (ls := [some (.ref (g.2.2.1 + B))]) 0 (by decide) rfl (Nat.le_of_ble_eq_true rfl) rfl ?_
  refine pm_ald d_X6_dirtyInAll_0 rfl ?_
  refine ps_getR (q := (B + 1)) d_X6_dirtyInAll_1 hB.at0 f_5_0_0 rfl ?_
  refine ps_getR (q := (B + 4)) d_X6_dirtyInAll_4 (hB.at 1 (by decide)) f_5_1_2 rfl ?_
  refine ps_cSI d_X6_dirtyInAll_7 ms_X6_sumOf (As := [.ref (g.2.2.1 + (B + 4))]) rfl rfl (ps_room.of (by omega) (by decide)) (Nat.le_of_ble_eq_true rfl) (C_X6_sumOf (B + 4) 4 5 B 4 (hB.at 4 (by decide)) a_5_4 σ _ (ps_bdE hK)) ?_
  intro v1 σ2 hT
  clear hK
  have hK := hT
  clear hT
  have hQ := ps_so hK
  exact ps_iret rfl d_X6_dirtyInAll_10 ⟨_, rfl, hQ⟩
def qX6_madeInAll (B : Nat) (σ : ps_S) : Option (Int32 × ps_S) :=
  ps_bd (qX6_sumOf (B + 16) 6 σ) (fun v1 σ2 =>
  some (v1, σ2))
set_option maxRecDepth 100000 in
theorem C_X6_madeInAll {g : pm_G} (B : Nat) (hB : ps_St B) (σ : ps_S) (P : Int32 → ps_S → Prop) (hK : ps_ok (qX6_madeInAll B σ) P) : ps_C g mX6_madeInAll 2 [.ref (g.2.2.1 + B)] σ (ps_qI P) := by
  unfold qX6_madeInAll at hK
  refine ps_C.of (ls := [some (.ref (g.2.2.1 + B))]) 0 (by decide) rfl (Nat.le_of_ble_eq_true rfl) rfl ?_
  refine pm_ald d_X6_madeInAll_0 rfl ?_
  refine ps_getR (q := (B + 16)) d_X6_madeInAll_1 hB.at0 f_5_0_6 rfl ?_
  refine ps_cSI d_X6_madeInAll_4 ms_X6_sumOf (As := [.ref (g.2.2.1 + (B + 16))]) rfl rfl (ps_room.of (by omega) (by decide)) (Nat.le_of_ble_eq_true rfl) (C_X6_sumOf (B + 16) 6 5 B 16 (hB.at 16 (by decide)) a_5_16 σ _ (ps_bdE hK)) ?_
  intro v1 σ2 hT
  clear hK
  have hK := hT
  clear hT
  have hQ := ps_so hK
  exact ps_iret rfl d_X6_madeInAll_7 ⟨_, rfl, hQ⟩
def qX6_writtenInAll (B : Nat) (σ : ps_S) : Option (Int32 × ps_S) :=
  ps_bd (qX6_sumOf (B + 8) 4 σ) (fun v1 σ2 =>
  some (v1, σ2))
set_option maxRecDepth 100000 in
theorem C_X6_writtenInAll {g : pm_G} (B : Nat) (hB : ps_St B) (σ : ps_S) (P : Int32 → ps_S → Prop) (hK : ps_ok (qX6_writtenInAll B σ) P) : ps_C g mX6_writtenInAll 2 [.ref (g.2.2.1 + B)] σ (ps_qI P) := by
  unfold qX6_writtenInAll at hK
  refine ps_C.of (ls := [some (.ref (g.2.2.1 + B))]) 0 (by decide) rfl (Nat.le_of_ble_eq_true rfl) rfl ?_
  refine pm_ald d_X6_writtenInAll_0 rfl ?_
  refine ps_getR (q := (B + 1)) d_X6_writtenInAll_1 hB.at0 f_5_0_0 rfl ?_
  refine ps_getR (q := (B + 8)) d_X6_writtenInAll_4 (hB.at 1 (by decide)) f_5_1_6 rfl ?_
  refine ps_cSI d_X6_writtenInAll_7 ms_X6_sumOf (As := [.ref (g.2.2.1 + (B + 8))]) rfl rfl (ps_room.of (by omega) (by decide)) (Nat.le_of_ble_eq_true rfl) (C_X6_sumOf (B + 8) 4 5 B 8 (hB.at 8 (by decide)) a_5_8 σ _ (ps_bdE hK)) ?_
  intro v1 σ2 hT
  clear hK
  have hK := hT
  clear hT
  have hQ := ps_so hK
  exact ps_iret rfl d_X6_writtenInAll_10 ⟨_, rfl, hQ⟩
def qX8_count (p1 : Int32) (σ : ps_S) : Option (Int32 × ps_S) :=
  if p1 = 0 then
  ps_let (σ.1 12 7) fun v2 =>
  some (v2, σ)
  else
  if p1 = 1 then
  ps_let (σ.1 12 8) fun v4 =>
  some (v4, σ)
  else
  if p1 = 2 then
  ps_let (σ.1 12 9) fun v6 =>
  some (v6, σ)
  else
  if p1 = 3 then
  ps_let (σ.1 26 8) fun v8 =>
  some (v8, σ)
  else
  if p1 = 4 then
  ps_let (σ.1 26 9) fun v10 =>
  some (v10, σ)
  else
  if p1 = 5 then
  ps_bd (qX6_dirtyInAll 26 σ) (fun v12 σ13 =>
  some (v12, σ13))
  else
  if p1 = 6 then
  ps_bd (qX6_madeInAll 26 σ) (fun v15 σ16 =>
  some (v15, σ16))
  else
  if p1 = 7 then
  ps_bd (qX6_writtenInAll 26 σ) (fun v18 σ19 =>
  some (v18, σ19))
  else
  if p1 = 8 then
  ps_let (σ.1 0 11) fun v21 =>
  some (v21, σ)
  else
  if p1 = 9 then
  ps_let (σ.1 0 1) fun v23 =>
  some (v23, σ)
  else
  if p1 = 10 then
  ps_let (σ.1 12 10) fun v25 =>
  some (v25, σ)
  else
  some ((-1), σ)
set_option maxRecDepth 100000 in
theorem C_X8_count {g : pm_G} (p1 : Int32) (σ : ps_S) (P : Int32 → ps_S → Prop) (hK : ps_ok (qX8_count p1 σ) P) : ps_C g mX8_count 3 [.ref (g.2.2.1 + 0), .int p1] σ (ps_qI P) := by
  unfold qX8_count at hK
  refine ps_C.of (ls := [some (.ref (g.2.2.1 + 0)), some (.int p1)]) 0 (by decide) rfl (Nat.le_of_ble_eq_true rfl) rfl ?_
  refine pm_ild d_X8_count_0 rfl ?_
  by_cases c1 : p1 = 0
  · replace hK := ps_ifT c1 hK
    refine pm_tabIn (tgt := 60) (off := 59) d_X8_count_1 (by rw [c1]; decide) (by rw [c1]; decide) (by rw [c1]; rfl) (by decide) ?_
    refine pm_ald d_X8_count_60 rfl ?_
    refine ps_getR (q := 12) d_X8_count_61 at_0 f_0_0_4 rfl ?_
    refine ps_getI d_X8_count_64 ps_Ho12.at0 f_2_0_7 rfl ?_
    refine ps_topI (fun v2 ev2 => ?_)
    replace hK := ps_ltE ev2 hK
    have hQ := ps_so hK
    exact ps_iret rfl d_X8_count_67 ⟨_, rfl, hQ⟩
  replace hK := ps_ifF c1 hK
  by_cases c3 : p1 = 1
  · replace hK := ps_ifT c3 hK
    refine pm_tabIn (tgt := 68) (off := 67) d_X8_count_1 (by rw [c3]; decide) (by rw [c3]; decide) (by rw [c3]; rfl) (by decide) ?_
    refine pm_ald d_X8_count_68 rfl ?_
    refine ps_getR (q := 12) d_X8_count_69 at_0 f_0_0_4 rfl ?_
    refine ps_getI d_X8_count_72 ps_Ho12.at0 f_2_0_8 rfl ?_
    refine ps_topI (fun v4 ev4 => ?_)
    replace hK := ps_ltE ev4 hK
    have hQ := ps_so hK
    exact ps_iret rfl d_X8_count_75 ⟨_, rfl, hQ⟩
  replace hK := ps_ifF c3 hK
  by_cases c5 : p1 = 2
  · replace hK := ps_ifT c5 hK
    refine pm_tabIn (tgt := 76) (off := 75) d_X8_count_1 (by rw [c5]; decide) (by rw [c5]; decide) (by rw [c5]; rfl) (by decide) ?_
    refine pm_ald d_X8_count_76 rfl ?_
    refine ps_getR (q := 12) d_X8_count_77 at_0 f_0_0_4 rfl ?_
    refine ps_getI d_X8_count_80 ps_Ho12.at0 f_2_0_9 rfl ?_
    refine ps_topI (fun v6 ev6 => ?_)
    replace hK := ps_ltE ev6 hK
    have hQ := ps_so hK
    exact ps_iret rfl d_X8_count_83 ⟨_, rfl, hQ⟩
  replace hK := ps_ifF c5 hK
  by_cases c7 : p1 = 3
  · replace hK := ps_ifT c7 hK
    refine pm_tabIn (tgt := 84) (off := 83) d_X8_count_1 (by rw [c7]; decide) (by rw [c7]; decide) (by rw [c7]; rfl) (by decide) ?_
    refine pm_ald d_X8_count_84 rfl ?_
    refine ps_getR (q := 26) d_X8_count_85 at_0 f_0_0_6 rfl ?_
    refine ps_getI d_X8_count_88 ps_St26.at0 f_5_0_8 rfl ?_
    refine ps_topI (fun v8 ev8 => ?_)
    replace hK := ps_ltE ev8 hK
    have hQ := ps_so hK
    exact ps_iret rfl d_X8_count_91 ⟨_, rfl, hQ⟩
  replace hK := ps_ifF c7 hK
  by_cases c9 : p1 = 4
  · replace hK := ps_ifT c9 hK
    refine pm_tabIn (tgt := 92) (off := 91) d_X8_count_1 (by rw [c9]; decide) (by rw [c9]; decide) (by rw [c9]; rfl) (by decide) ?_
    refine pm_ald d_X8_count_92 rfl ?_
    refine ps_getR (q := 26) d_X8_count_93 at_0 f_0_0_6 rfl ?_
    refine ps_getI d_X8_count_96 ps_St26.at0 f_5_0_9 rfl ?_
    refine ps_topI (fun v10 ev10 => ?_)
    replace hK := ps_ltE ev10 hK
    have hQ := ps_so hK
    exact ps_iret rfl d_X8_count_99 ⟨_, rfl, hQ⟩
  replace hK := ps_ifF c9 hK
  by_cases c11 : p1 = 5
  · replace hK := ps_ifT c11 hK
    refine pm_tabIn (tgt := 100) (off := 99) d_X8_count_1 (by rw [c11]; decide) (by rw [c11]; decide) (by rw [c11]; rfl) (by decide) ?_
    refine pm_ald d_X8_count_100 rfl ?_
    refine ps_getR (q := 26) d_X8_count_101 at_0 f_0_0_6 rfl ?_
    refine ps_cVI d_X8_count_104 mv_X6_dirtyInAll ps_St26.at0 ob_5_0 rfl (As := []) rfl rfl (ps_room.of (by omega) (by decide)) (Nat.le_of_ble_eq_true rfl) (C_X6_dirtyInAll 26 ps_St26 σ _ (ps_bdE hK)) ?_
    intro v12 σ13 hT
    clear hK
    have hK := hT
    clear hT
    have hQ := ps_so hK
    exact ps_iret rfl d_X8_count_107 ⟨_, rfl, hQ⟩
  replace hK := ps_ifF c11 hK
  by_cases c14 : p1 = 6
  · replace hK := ps_ifT c14 hK
    refine pm_tabIn (tgt := 108) (off := 107) d_X8_count_1 (by rw [c14]; decide) (by rw [c14]; decide) (by rw [c14]; rfl) (by decide) ?_
    refine pm_ald d_X8_count_108 rfl ?_
    refine ps_getR (q := 26) d_X8_count_109 at_0 f_0_0_6 rfl ?_
    refine ps_cVI d_X8_count_112 mv_X6_madeInAll ps_St26.at0 ob_5_0 rfl (As := []) rfl rfl (ps_room.of (by omega) (by decide)) (Nat.le_of_ble_eq_true rfl) (C_X6_madeInAll 26 ps_St26 σ _ (ps_bdE hK)) ?_
    intro v15 σ16 hT
    clear hK
    have hK := hT
    clear hT
    have hQ := ps_so hK
    exact ps_iret rfl d_X8_count_115 ⟨_, rfl, hQ⟩
  replace hK := ps_ifF c14 hK
  by_cases c17 : p1 = 7
  · replace hK := ps_ifT c17 hK
    refine pm_tabIn (tgt := 116) (off := 115) d_X8_count_1 (by rw [c17]; decide) (by rw [c17]; decide) (by rw [c17]; rfl) (by decide) ?_
    refine pm_ald d_X8_count_116 rfl ?_
    refine ps_getR (q := 26) d_X8_count_117 at_0 f_0_0_6 rfl ?_
    refine ps_cVI d_X8_count_120 mv_X6_writtenInAll ps_St26.at0 ob_5_0 rfl (As := []) rfl rfl (ps_room.of (by omega) (by decide)) (Nat.le_of_ble_eq_true rfl) (C_X6_writtenInAll 26 ps_St26 σ _ (ps_bdE hK)) ?_
    intro v18 σ19 hT
    clear hK
    have hK := hT
    clear hT
    have hQ := ps_so hK
    exact ps_iret rfl d_X8_count_123 ⟨_, rfl, hQ⟩
  replace hK := ps_ifF c17 hK
  by_cases c20 : p1 = 8
  · replace hK := ps_ifT c20 hK
    refine pm_tabIn (tgt := 124) (off := 123) d_X8_count_1 (by rw [c20]; decide) (by rw [c20]; decide) (by rw [c20]; rfl) (by decide) ?_
    refine pm_ald d_X8_count_124 rfl ?_
    refine ps_getI d_X8_count_125 at_0 f_0_0_11 rfl ?_
    refine ps_topI (fun v21 ev21 => ?_)
    replace hK := ps_ltE ev21 hK
    have hQ := ps_so hK
    exact ps_iret rfl d_X8_count_128 ⟨_, rfl, hQ⟩
  replace hK := ps_ifF c20 hK
  by_cases c22 : p1 = 9
  · replace hK := ps_ifT c22 hK
    refine pm_tabIn (tgt := 129) (off := 128) d_X8_count_1 (by rw [c22]; decide) (by rw [c22]; decide) (by rw [c22]; rfl) (by decide) ?_
    refine pm_ald d_X8_count_129 rfl ?_
    refine ps_getI d_X8_count_130 at_0 f_0_0_1 rfl ?_
    refine ps_topI (fun v23 ev23 => ?_)
    replace hK := ps_ltE ev23 hK
    have hQ := ps_so hK
    exact ps_iret rfl d_X8_count_133 ⟨_, rfl, hQ⟩
  replace hK := ps_ifF c22 hK
  by_cases c24 : p1 = 10
  · replace hK := ps_ifT c24 hK
    refine pm_tabIn (tgt := 134) (off := 133) d_X8_count_1 (by rw [c24]; decide) (by rw [c24]; decide) (by rw [c24]; rfl) (by decide) ?_
    refine pm_ald d_X8_count_134 rfl ?_
    refine ps_getR (q := 12) d_X8_count_135 at_0 f_0_0_4 rfl ?_
    refine ps_getI d_X8_count_138 ps_Ho12.at0 f_2_0_10 rfl ?_
    refine ps_topI (fun v25 ev25 => ?_)
    replace hK := ps_ltE ev25 hK
    have hQ := ps_so hK
    exact ps_iret rfl d_X8_count_141 ⟨_, rfl, hQ⟩
  replace hK := ps_ifF c24 hK
  refine pm_tabOut (tgt := 142) d_X8_count_1 (by decide) (ps_swout (lo := 0) (n := 11) (by decide) (by decide) (fun k hk => match k, hk with | 0, _ => c1 | 1, _ => c3 | 2, _ => c5 | 3, _ => c7 | 4, _ => c9 | 5, _ => c11 | 6, _ => c14 | 7, _ => c17 | 8, _ => c20 | 9, _ => c22 | 10, _ => c24 | k + 11, hk => absurd hk (by omega))) ?_
  refine pm_ki d_X8_count_142 ?_
  have hQ := ps_so hK
  exact ps_iret rfl d_X8_count_143 ⟨_, rfl, hQ⟩
def qX8_device (p1 : Int32) (p2 : Int32) (σ : ps_S) : Option (Int64 × ps_S) :=
  ps_bd (qX8_isDevice p1 σ) (fun v1 σ2 =>
  if v1 = 0 then
  some ((-2), σ2)
  else
  if p2 = 0 then
  if ps_in p1 4 = true then
  ps_let (σ2.1 (26 + 2) (p1).toNatClampNeg) fun v5 =>
  some (((v5).toInt64), σ2)
  else none
  else
  if p2 = 1 then
  if ps_in p1 4 = true then
  ps_let (σ2.1 (26 + 3) (p1).toNatClampNeg) fun v8 =>
  some (((v8).toInt64), σ2)
  else none
  else
  if p2 = 2 then
  if ps_in p1 4 = true then
  ps_let (σ2.1 (26 + 4) (p1).toNatClampNeg) fun v11 =>
  some (((v11).toInt64), σ2)
  else none
  else
  if p2 = 3 then
  if ps_in p1 4 = true then
  ps_let (σ2.1 (26 + 5) (p1).toNatClampNeg) fun v14 =>
  some (((v14).toInt64), σ2)
  else none
  else
  if p2 = 4 then
  if ps_in p1 4 = true then
  ps_let (σ2.2.2 (26 + 6) (p1).toNatClampNeg) fun v17 =>
  if ps_nn (FP.dmul v17 4652007308841189376) = true then
  ps_let (FP.dmul v17 4652007308841189376) fun v18 =>
  some ((FP.d2l (v18)), σ2)
  else none
  else none
  else
  if p2 = 5 then
  if ps_in p1 4 = true then
  ps_let (σ2.1 (26 + 7) (p1).toNatClampNeg) fun v22 =>
  some (((v22).toInt64), σ2)
  else none
  else
  if p2 = 6 then
  ps_bd (qX0_shareOf 26 p1 σ2) (fun v25 σ26 =>
  some (((v25).toInt64), σ26))
  else
  if p2 = 7 then
  if ps_in p1 4 = true then
  ps_let (σ2.1 (26 + 8) (p1).toNatClampNeg) fun v28 =>
  some (((v28).toInt64), σ2)
  else none
  else
  if p2 = 8 then
  if ps_in p1 4 = true then
  ps_let (σ2.1 (26 + 9) (p1).toNatClampNeg) fun v31 =>
  some (((v31).toInt64), σ2)
  else none
  else
  some ((-2), σ2))
set_option maxRecDepth 100000 in
theorem C_X8_device {g : pm_G} (p1 : Int32) (p2 : Int32) (σ : ps_S) (P : Int64 → ps_S → Prop) (hK : ps_ok (qX8_device p1 p2 σ) P) : ps_C g mX8_device 2 [.ref (g.2.2.1 + 0), .int p1, .int p2] σ (ps_qL P) := by
  unfold qX8_device at hK
  refine ps_C.of (ls := [some (.ref (g.2.2.1 + 0)), some (.int p1), some (.int p2), none]) 1 (by decide) rfl (Nat.le_of_ble_eq_true rfl) rfl ?_
  refine pm_ald d_X8_device_0 rfl ?_
  refine pm_ild d_X8_device_1 rfl ?_
  refine ps_cVI d_X8_device_2 mv_X8_isDevice at_0 ob_0_0 rfl (As := [.int p1]) rfl rfl (ps_room.of (by omega) (by decide)) (Nat.le_of_ble_eq_true rfl) (C_X8_isDevice p1 σ _ (ps_bdE hK)) ?_
  intro v1 σ2 hT
  clear hK
  have hK := hT
  clear hT
  refine pm_if_ne d_X8_device_5 (fun c3 => ?_) (fun c3 => ?_)
  · replace hK := ps_ifF c3 hK
    refine pm_ald d_X8_device_12 rfl ?_
    refine ps_getR (q := 26) d_X8_device_13 at_0 f_0_0_6 rfl ?_
    refine ps_getR (q := (26 + 1)) d_X8_device_16 ps_St26.at0 f_5_0_0 rfl ?_
    refine pm_ast3 d_X8_device_19 rfl (by decide) ?_
    refine pm_ild d_X8_device_20 rfl ?_
    by_cases c4 : p2 = 0
    · replace hK := ps_ifT c4 hK
      refine pm_tabIn (tgt := 72) (off := 51) d_X8_device_21 (by rw [c4]; decide) (by rw [c4]; decide) (by rw [c4]; rfl) (by decide) ?_
      refine pm_ald d_X8_device_72 rfl ?_
      refine ps_getR (q := (26 + 2)) d_X8_device_73 (ps_St26.at 1 (by decide)) f_5_1_0 rfl ?_
      refine pm_ild d_X8_device_76 rfl ?_
      obtain ⟨b6, hT⟩ := ps_gd hK
      replace hK := hT
      clear hT
      refine ps_iald d_X8_device_77 (ps_St26.at 2 (by decide)) a_5_2 (ps_in_of b6) rfl ?_
      refine ps_topI (fun v5 ev5 => ?_)
      replace hK := ps_ltE ev5 hK
      refine pm_i2l d_X8_device_78 ?_
      have hQ := ps_so hK
      exact ps_lret rfl d_X8_device_79 ⟨_, rfl, hQ⟩
    replace hK := ps_ifF c4 hK
    by_cases c7 : p2 = 1
    · replace hK := ps_ifT c7 hK
      refine pm_tabIn (tgt := 80) (off := 59) d_X8_device_21 (by rw [c7]; decide) (by rw [c7]; decide) (by rw [c7]; rfl) (by decide) ?_
      refine pm_ald d_X8_device_80 rfl ?_
      refine ps_getR (q := (26 + 3)) d_X8_device_81 (ps_St26.at 1 (by decide)) f_5_1_1 rfl ?_
      refine pm_ild d_X8_device_84 rfl ?_
      obtain ⟨b9, hT⟩ := ps_gd hK
      replace hK := hT
      clear hT
      refine ps_iald d_X8_device_85 (ps_St26.at 3 (by decide)) a_5_3 (ps_in_of b9) rfl ?_
      refine ps_topI (fun v8 ev8 => ?_)
      replace hK := ps_ltE ev8 hK
      refine pm_i2l d_X8_device_86 ?_
      have hQ := ps_so hK
      exact ps_lret rfl d_X8_device_87 ⟨_, rfl, hQ⟩
    replace hK := ps_ifF c7 hK
    by_cases c10 : p2 = 2
    · replace hK := ps_ifT c10 hK
      refine pm_tabIn (tgt := 88) (off := 67) d_X8_device_21 (by rw [c10]; decide) (by rw [c10]; decide) (by rw [c10]; rfl) (by decide) ?_
      refine pm_ald d_X8_device_88 rfl ?_
      refine ps_getR (q := (26 + 4)) d_X8_device_89 (ps_St26.at 1 (by decide)) f_5_1_2 rfl ?_
      refine pm_ild d_X8_device_92 rfl ?_
      obtain ⟨b12, hT⟩ := ps_gd hK
      replace hK := hT
      clear hT
      refine ps_iald d_X8_device_93 (ps_St26.at 4 (by decide)) a_5_4 (ps_in_of b12) rfl ?_
      refine ps_topI (fun v11 ev11 => ?_)
      replace hK := ps_ltE ev11 hK
      refine pm_i2l d_X8_device_94 ?_
      have hQ := ps_so hK
      exact ps_lret rfl d_X8_device_95 ⟨_, rfl, hQ⟩
    replace hK := ps_ifF c10 hK
    by_cases c13 : p2 = 3
    · replace hK := ps_ifT c13 hK
      refine pm_tabIn (tgt := 96) (off := 75) d_X8_device_21 (by rw [c13]; decide) (by rw [c13]; decide) (by rw [c13]; rfl) (by decide) ?_
      refine pm_ald d_X8_device_96 rfl ?_
      refine ps_getR (q := (26 + 5)) d_X8_device_97 (ps_St26.at 1 (by decide)) f_5_1_3 rfl ?_
      refine pm_ild d_X8_device_100 rfl ?_
      obtain ⟨b15, hT⟩ := ps_gd hK
      replace hK := hT
      clear hT
      refine ps_iald d_X8_device_101 (ps_St26.at 5 (by decide)) a_5_5 (ps_in_of b15) rfl ?_
      refine ps_topI (fun v14 ev14 => ?_)
      replace hK := ps_ltE ev14 hK
      refine pm_i2l d_X8_device_102 ?_
      have hQ := ps_so hK
      exact ps_lret rfl d_X8_device_103 ⟨_, rfl, hQ⟩
    replace hK := ps_ifF c13 hK
    by_cases c16 : p2 = 4
    · replace hK := ps_ifT c16 hK
      refine pm_tabIn (tgt := 104) (off := 83) d_X8_device_21 (by rw [c16]; decide) (by rw [c16]; decide) (by rw [c16]; rfl) (by decide) ?_
      refine pm_ald d_X8_device_104 rfl ?_
      refine ps_getR (q := (26 + 6)) d_X8_device_105 (ps_St26.at 1 (by decide)) f_5_1_4 rfl ?_
      refine pm_ild d_X8_device_108 rfl ?_
      obtain ⟨b20, hT⟩ := ps_gd hK
      replace hK := hT
      clear hT
      refine ps_dald d_X8_device_109 (ps_St26.at 6 (by decide)) a_5_6 (ps_in_of b20) rfl ?_
      refine ps_topD (fun v17 ev17 => ?_)
      replace hK := ps_ltE ev17 hK
      refine pm_kd d_X8_device_110 ?_
      obtain ⟨b19, hT⟩ := ps_gd hK
      replace hK := hT
      clear hT
      refine pm_dmul d_X8_device_113 (ps_nn_of b19) ?_
      refine ps_topD (fun v18 ev18 => ?_)
      replace hK := ps_ltE ev18 hK
      refine pm_d2l d_X8_device_114 ?_
      have hQ := ps_so hK
      exact ps_lret rfl d_X8_device_115 ⟨_, rfl, hQ⟩
    replace hK := ps_ifF c16 hK
    by_cases c21 : p2 = 5
    · replace hK := ps_ifT c21 hK
      refine pm_tabIn (tgt := 116) (off := 95) d_X8_device_21 (by rw [c21]; decide) (by rw [c21]; decide) (by rw [c21]; rfl) (by decide) ?_
      refine pm_ald d_X8_device_116 rfl ?_
      refine ps_getR (q := (26 + 7)) d_X8_device_117 (ps_St26.at 1 (by decide)) f_5_1_5 rfl ?_
      refine pm_ild d_X8_device_120 rfl ?_
      obtain ⟨b23, hT⟩ := ps_gd hK
      replace hK := hT
      clear hT
      refine ps_iald d_X8_device_121 (ps_St26.at 7 (by decide)) a_5_7 (ps_in_of b23) rfl ?_
      refine ps_topI (fun v22 ev22 => ?_)
      replace hK := ps_ltE ev22 hK
      refine pm_i2l d_X8_device_122 ?_
      have hQ := ps_so hK
      exact ps_lret rfl d_X8_device_123 ⟨_, rfl, hQ⟩
    replace hK := ps_ifF c21 hK
    by_cases c24 : p2 = 6
    · replace hK := ps_ifT c24 hK
      refine pm_tabIn (tgt := 124) (off := 103) d_X8_device_21 (by rw [c24]; decide) (by rw [c24]; decide) (by rw [c24]; rfl) (by decide) ?_
      refine pm_ald d_X8_device_124 rfl ?_
      refine ps_getR (q := 21) d_X8_device_125 at_0 f_0_0_5 rfl ?_
      refine pm_ald d_X8_device_128 rfl ?_
      refine ps_getR (q := 26) d_X8_device_129 at_0 f_0_0_6 rfl ?_
      refine pm_ild d_X8_device_132 rfl ?_
      refine ps_cVI d_X8_device_133 mv_X0_shareOf at_21 ob_4_0 rfl (As := [.ref (g.2.2.1 + 26), .int p1]) rfl rfl (ps_room.of (by omega) (by decide)) (Nat.le_of_ble_eq_true rfl) (C_X0_shareOf 26 ps_St26 p1 σ2 _ (ps_bdE hK)) ?_
      intro v25 σ26 hT
      clear hK
      have hK := hT
      clear hT
      refine pm_i2l d_X8_device_136 ?_
      have hQ := ps_so hK
      exact ps_lret rfl d_X8_device_137 ⟨_, rfl, hQ⟩
    replace hK := ps_ifF c24 hK
    by_cases c27 : p2 = 7
    · replace hK := ps_ifT c27 hK
      refine pm_tabIn (tgt := 138) (off := 117) d_X8_device_21 (by rw [c27]; decide) (by rw [c27]; decide) (by rw [c27]; rfl) (by decide) ?_
      refine pm_ald d_X8_device_138 rfl ?_
      refine ps_getR (q := (26 + 8)) d_X8_device_139 (ps_St26.at 1 (by decide)) f_5_1_6 rfl ?_
      refine pm_ild d_X8_device_142 rfl ?_
      obtain ⟨b29, hT⟩ := ps_gd hK
      replace hK := hT
      clear hT
      refine ps_iald d_X8_device_143 (ps_St26.at 8 (by decide)) a_5_8 (ps_in_of b29) rfl ?_
      refine ps_topI (fun v28 ev28 => ?_)
      replace hK := ps_ltE ev28 hK
      refine pm_i2l d_X8_device_144 ?_
      have hQ := ps_so hK
      exact ps_lret rfl d_X8_device_145 ⟨_, rfl, hQ⟩
    replace hK := ps_ifF c27 hK
    by_cases c30 : p2 = 8
    · replace hK := ps_ifT c30 hK
      refine pm_tabIn (tgt := 146) (off := 125) d_X8_device_21 (by rw [c30]; decide) (by rw [c30]; decide) (by rw [c30]; rfl) (by decide) ?_
      refine pm_ald d_X8_device_146 rfl ?_
      refine ps_getR (q := (26 + 9)) d_X8_device_147 (ps_St26.at 1 (by decide)) f_5_1_7 rfl ?_
      refine pm_ild d_X8_device_150 rfl ?_
      obtain ⟨b32, hT⟩ := ps_gd hK
      replace hK := hT
      clear hT
      refine ps_iald d_X8_device_151 (ps_St26.at 9 (by decide)) a_5_9 (ps_in_of b32) rfl ?_
      refine ps_topI (fun v31 ev31 => ?_)
      replace hK := ps_ltE ev31 hK
      refine pm_i2l d_X8_device_152 ?_
      have hQ := ps_so hK
      exact ps_lret rfl d_X8_device_153 ⟨_, rfl, hQ⟩
    replace hK := ps_ifF c30 hK
    refine pm_tabOut (tgt := 154) d_X8_device_21 (by decide) (ps_swout (lo := 0) (n := 9) (by decide) (by decide) (fun k hk => match k, hk with | 0, _ => c4 | 1, _ => c7 | 2, _ => c10 | 3, _ => c13 | 4, _ => c16 | 5, _ => c21 | 6, _ => c24 | 7, _ => c27 | 8, _ => c30 | k + 9, hk => absurd hk (by omega))) ?_
    refine pm_kl d_X8_device_154 ?_
    have hQ := ps_so hK
    exact ps_lret rfl d_X8_device_157 ⟨_, rfl, hQ⟩
  · replace hK := ps_ifT c3 hK
    refine pm_kl d_X8_device_8 ?_
    have hQ := ps_so hK
    exact ps_lret rfl d_X8_device_11 ⟨_, rfl, hQ⟩
def qX8_drains_21  : Nat → Int32 → ps_S → Option ((Int32 ⊕ (Int32)) × ps_S)
  | 0, _, _ => none
  | n + 1, x1, σ =>
    if 999 < x1 then
    some (.inr x1, σ)
    else
    ps_let (σ.1 44 9) fun v5 =>
    if v5 = 0 then
    some (.inl x1, σ)
    else
    ps_bd (qX0_run 44 1 σ) (fun _ σ8 =>
    ps_let (x1 + 1) fun v9 =>
    qX8_drains_21 n v9 σ8)
set_option maxRecDepth 100000 in
theorem L_X8_drains_21 {g : pm_G} (D : Nat) (hD : 6 ≤ D) {P : Int32 → ps_S → Prop}  : ∀ (n : Nat) (x1 : Int32) (σ : ps_S), ps_ok (qX8_drains_21 n x1 σ) (fun res σ => match res with | .inl r => P r σ | .inr x1 => pm_W g mX8_drains (ps_F g D (ps_qI P)) 0 0 58 [some (.ref (g.2.2.1 + 0)), some (.int x1)] [] 345 (ps_E g σ)) → pm_W g mX8_drains (ps_F g D (ps_qI P)) 0 0 21 [some (.ref (g.2.2.1 + 0)), some (.int x1)] [] 345 (ps_E g σ) := by
  intro n
  induction n with
  | zero => intro x1 σ hK; exact (ps_no hK).elim
  | succ n ih =>
    intro x1 σ hK
    rw [qX8_drains_21] at hK
    refine pm_ild d_X8_drains_21 rfl ?_
    refine pm_ki d_X8_drains_22 ?_
    refine pm_icmp_gt d_X8_drains_25 (fun c4 => ?_) (fun c4 => ?_)
    · replace hK := ps_ifT c4 hK
      exact ps_so hK
    · replace hK := ps_ifF c4 hK
      refine pm_ald d_X8_drains_28 rfl ?_
      refine ps_getR (q := 44) d_X8_drains_29 at_0 f_0_0_7 rfl ?_
      refine ps_getI d_X8_drains_32 ps_St44.at0 f_5_0_9 rfl ?_
      refine ps_topI (fun v5 ev5 => ?_)
      replace hK := ps_ltE ev5 hK
      refine pm_if_ne d_X8_drains_35 (fun c6 => ?_) (fun c6 => ?_)
      · replace hK := ps_ifF c6 hK
        refine pm_ald d_X8_drains_40 rfl ?_
        refine ps_getR (q := 21) d_X8_drains_41 at_0 f_0_0_5 rfl ?_
        refine pm_ald d_X8_drains_44 rfl ?_
        refine ps_getR (q := 44) d_X8_drains_45 at_0 f_0_0_7 rfl ?_
        refine pm_ki d_X8_drains_48 ?_
        refine ps_cVV d_X8_drains_49 mv_X0_run at_21 ob_4_0 rfl (As := [.ref (g.2.2.1 + 44), .int 1]) rfl rfl (ps_room.of (by omega) (by decide)) (Nat.le_of_ble_eq_true rfl) (C_X0_run 44 ps_St44 1 σ _ (ps_bdE hK)) ?_
        intro σ8 hT
        clear hK
        have hK := hT
        clear hT
        refine pm_inc1 d_X8_drains_52 rfl ?_
        obtain ⟨v9, ev9⟩ : ∃ y : Int32, y = x1 + 1 := ⟨_, rfl⟩
        rw [← ev9]
        replace hK := ps_ltE ev9 hK
        refine pm_goto d_X8_drains_55 ?_
        exact ih _ _ hK
      · replace hK := ps_ifT c6 hK
        refine pm_ild d_X8_drains_38 rfl ?_
        have hQ := ps_so hK
        exact ps_iret rfl d_X8_drains_39 ⟨_, rfl, hQ⟩
def qX8_drains  (σ : ps_S) : Option (Int32 × ps_S) :=
  ps_bd (qX6_copyFrom 44 26 σ) (fun _ σ2 =>
  ps_let (ps_rI σ2 44 (upd (σ2.1 44) 13 1)) fun σ3 =>
  ps_bd (qX8_drains_21 ps_N 0 σ3) (fun res σ10 => match res with
  | .inl r => some (r, σ10)
  | .inr v11 =>
    some ((-1), σ10)))
set_option maxRecDepth 100000 in
theorem C_X8_drains {g : pm_G}  (σ : ps_S) (P : Int32 → ps_S → Prop) (hK : ps_ok (qX8_drains  σ) P) : ps_C g mX8_drains 6 [.ref (g.2.2.1 + 0)] σ (ps_qI P) := by
  unfold qX8_drains at hK
  refine ps_C.of (ls := [some (.ref (g.2.2.1 + 0)), none]) 1 (by decide) rfl (Nat.le_of_ble_eq_true rfl) rfl ?_
  refine pm_ald d_X8_drains_0 rfl ?_
  refine ps_getR (q := 44) d_X8_drains_1 at_0 f_0_0_7 rfl ?_
  refine pm_ald d_X8_drains_4 rfl ?_
  refine ps_getR (q := 26) d_X8_drains_5 at_0 f_0_0_6 rfl ?_
  refine ps_cVV d_X8_drains_8 mv_X6_copyFrom ps_St44.at0 ob_5_0 rfl (As := [.ref (g.2.2.1 + 26)]) rfl rfl (ps_room.of (by omega) (by decide)) (Nat.le_of_ble_eq_true rfl) (C_X6_copyFrom 44 ps_St44 26 ps_St26 σ _ (ps_bdE hK)) ?_
  intro σ2 hT
  clear hK
  have hK := hT
  clear hT
  refine pm_ald d_X8_drains_11 rfl ?_
  refine ps_getR (q := 44) d_X8_drains_12 at_0 f_0_0_7 rfl ?_
  refine pm_ki d_X8_drains_15 ?_
  refine ps_putI d_X8_drains_16 ps_St44.at0 f_5_0_13 rfl rfl ?_
  refine ps_nmS (fun σ3 eσ3 => ?_)
  replace hK := ps_ltE eσ3 hK
  refine pm_ki d_X8_drains_19 ?_
  refine pm_ist1 d_X8_drains_20 rfl (by decide) ?_
  refine L_X8_drains_21 _ (by decide) _ _ _ (ps_ok.mono (ps_bdE hK) ?_)
  intro res σ10 hT
  clear hK
  match res, hT with
  | .inl r, hT => exact ps_so hT
  | .inr v11, hT =>
    have hK := hT
    clear hT
    refine pm_ki d_X8_drains_58 ?_
    have hQ := ps_so hK
    exact ps_iret rfl d_X8_drains_59 ⟨_, rfl, hQ⟩
def qX6_heldInAll (B : Nat) (σ : ps_S) : Option (Int32 × ps_S) :=
  ps_bd (qX6_sumOf (B + 17) 6 σ) (fun v1 σ2 =>
  some (v1, σ2))
set_option maxRecDepth 100000 in
theorem C_X6_heldInAll {g : pm_G} (B : Nat) (hB : ps_St B) (σ : ps_S) (P : Int32 → ps_S → Prop) (hK : ps_ok (qX6_heldInAll B σ) P) : ps_C g mX6_heldInAll 2 [.ref (g.2.2.1 + B)] σ (ps_qI P) := by
  unfold qX6_heldInAll at hK
  refine ps_C.of (ls := [some (.ref (g.2.2.1 + B))]) 0 (by decide) rfl (Nat.le_of_ble_eq_true rfl) rfl ?_
  refine pm_ald d_X6_heldInAll_0 rfl ?_
  refine ps_getR (q := (B + 17)) d_X6_heldInAll_1 hB.at0 f_5_0_7 rfl ?_
  refine ps_cSI d_X6_heldInAll_4 ms_X6_sumOf (As := [.ref (g.2.2.1 + (B + 17))]) rfl rfl (ps_room.of (by omega) (by decide)) (Nat.le_of_ble_eq_true rfl) (C_X6_sumOf (B + 17) 6 5 B 17 (hB.at 17 (by decide)) a_5_17 σ _ (ps_bdE hK)) ?_
  intro v1 σ2 hT
  clear hK
  have hK := hT
  clear hT
  have hQ := ps_so hK
  exact ps_iret rfl d_X6_heldInAll_7 ⟨_, rfl, hQ⟩
def qX8_nobodyIsHeld_10  (y1 : Int32) (y2 : Int32) : Nat → Int32 → ps_S → Option ((Int32 ⊕ (Int32)) × ps_S)
  | 0, _, _ => none
  | n + 1, x3, σ =>
    if y1 ≤ x3 then
    some (.inr x3, σ)
    else
    ps_bd (qX0_run 44 1 σ) (fun _ σ5 =>
    ps_bd (qX6_heldInAll 44 σ5) (fun v6 σ7 =>
    if v6 = y2 then
    ps_let (x3 + 1) fun v9 =>
    qX8_nobodyIsHeld_10 y1 y2 n v9 σ7
    else
    some (.inl 0, σ7)))
set_option maxRecDepth 100000 in
theorem L_X8_nobodyIsHeld_10 {g : pm_G} (D : Nat) (hD : 6 ≤ D) {P : Int32 → ps_S → Prop}  (y1 : Int32) (y2 : Int32) : ∀ (n : Nat) (x3 : Int32) (σ : ps_S), ps_ok (qX8_nobodyIsHeld_10 y1 y2 n x3 σ) (fun res σ => match res with | .inl r => P r σ | .inr x3 => pm_W g mX8_nobodyIsHeld (ps_F g D (ps_qI P)) 0 0 46 [some (.ref (g.2.2.1 + 0)), some (.int y1), some (.int y2), some (.int x3)] [] 345 (ps_E g σ)) → pm_W g mX8_nobodyIsHeld (ps_F g D (ps_qI P)) 0 0 10 [some (.ref (g.2.2.1 + 0)), some (.int y1), some (.int y2), some (.int x3)] [] 345 (ps_E g σ) := by
  intro n
  induction n with
  | zero => intro x3 σ hK; exact (ps_no hK).elim
  | succ n ih =>
    intro x3 σ hK
    rw [qX8_nobodyIsHeld_10] at hK
    refine pm_ild d_X8_nobodyIsHeld_10 rfl ?_
    refine pm_ild d_X8_nobodyIsHeld_11 rfl ?_
    refine pm_icmp_ge d_X8_nobodyIsHeld_12 (fun c3 => ?_) (fun c3 => ?_)
    · replace hK := ps_ifT c3 hK
      exact ps_so hK
    · replace hK := ps_ifF c3 hK
      refine pm_ald d_X8_nobodyIsHeld_15 rfl ?_
      refine ps_getR (q := 21) d_X8_nobodyIsHeld_16 at_0 f_0_0_5 rfl ?_
      refine pm_ald d_X8_nobodyIsHeld_19 rfl ?_
      refine ps_getR (q := 44) d_X8_nobodyIsHeld_20 at_0 f_0_0_7 rfl ?_
      refine pm_ki d_X8_nobodyIsHeld_23 ?_
      refine ps_cVV d_X8_nobodyIsHeld_24 mv_X0_run at_21 ob_4_0 rfl (As := [.ref (g.2.2.1 + 44), .int 1]) rfl rfl (ps_room.of (by omega) (by decide)) (Nat.le_of_ble_eq_true rfl) (C_X0_run 44 ps_St44 1 σ _ (ps_bdE hK)) ?_
      intro σ5 hT
      clear hK
      have hK := hT
      clear hT
      refine pm_ald d_X8_nobodyIsHeld_27 rfl ?_
      refine ps_getR (q := 44) d_X8_nobodyIsHeld_28 at_0 f_0_0_7 rfl ?_
      refine ps_cVI d_X8_nobodyIsHeld_31 mv_X6_heldInAll ps_St44.at0 ob_5_0 rfl (As := []) rfl rfl (ps_room.of (by omega) (by decide)) (Nat.le_of_ble_eq_true rfl) (C_X6_heldInAll 44 ps_St44 σ5 _ (ps_bdE hK)) ?_
      intro v6 σ7 hT
      clear hK
      have hK := hT
      clear hT
      refine pm_ild d_X8_nobodyIsHeld_34 rfl ?_
      refine pm_icmp_eq d_X8_nobodyIsHeld_35 (fun c8 => ?_) (fun c8 => ?_)
      · replace hK := ps_ifT c8 hK
        refine pm_inc3 d_X8_nobodyIsHeld_40 rfl ?_
        obtain ⟨v9, ev9⟩ : ∃ y : Int32, y = x3 + 1 := ⟨_, rfl⟩
        rw [← ev9]
        replace hK := ps_ltE ev9 hK
        refine pm_goto d_X8_nobodyIsHeld_43 ?_
        exact ih _ _ hK
      · replace hK := ps_ifF c8 hK
        refine pm_ki d_X8_nobodyIsHeld_38 ?_
        have hQ := ps_so hK
        exact ps_zret rfl rfl d_X8_nobodyIsHeld_39 ⟨_, rfl, hQ⟩
def qX8_nobodyIsHeld (p1 : Int32) (σ : ps_S) : Option (Int32 × ps_S) :=
  ps_bd (qX6_heldInAll 26 σ) (fun v1 σ2 =>
  ps_bd (qX8_nobodyIsHeld_10 p1 v1 ps_N 0 σ2) (fun res σ10 => match res with
  | .inl r => some (r, σ10)
  | .inr v11 =>
    some (1, σ10)))
set_option maxRecDepth 100000 in
theorem C_X8_nobodyIsHeld {g : pm_G} (p1 : Int32) (σ : ps_S) (P : Int32 → ps_S → Prop) (hK : ps_ok (qX8_nobodyIsHeld p1 σ) P) : ps_C g mX8_nobodyIsHeld 6 [.ref (g.2.2.1 + 0), .int p1] σ (ps_qI P) := by
  unfold qX8_nobodyIsHeld at hK
  refine ps_C.of (ls := [some (.ref (g.2.2.1 + 0)), some (.int p1), none, none]) 2 (by decide) rfl (Nat.le_of_ble_eq_true rfl) rfl ?_
  refine pm_ald d_X8_nobodyIsHeld_0 rfl ?_
  refine ps_getR (q := 26) d_X8_nobodyIsHeld_1 at_0 f_0_0_6 rfl ?_
  refine ps_cVI d_X8_nobodyIsHeld_4 mv_X6_heldInAll ps_St26.at0 ob_5_0 rfl (As := []) rfl rfl (ps_room.of (by omega) (by decide)) (Nat.le_of_ble_eq_true rfl) (C_X6_heldInAll 26 ps_St26 σ _ (ps_bdE hK)) ?_
  intro v1 σ2 hT
  clear hK
  have hK := hT
  clear hT
  refine pm_ist2 d_X8_nobodyIsHeld_7 rfl (by decide) ?_
  refine pm_ki d_X8_nobodyIsHeld_8 ?_
  refine pm_ist3 d_X8_nobodyIsHeld_9 rfl (by decide) ?_
  refine L_X8_nobodyIsHeld_10 _ (by decide) p1 v1 _ _ _ (ps_ok.mono (ps_bdE hK) ?_)
  intro res σ10 hT
  clear hK
  match res, hT with
  | .inl r, hT => exact ps_so hT
  | .inr v11, hT =>
    have hK := hT
    clear hT
    refine pm_ki d_X8_nobodyIsHeld_46 ?_
    have hQ := ps_so hK
    exact ps_zret rfl rfl d_X8_nobodyIsHeld_47 ⟨_, rfl, hQ⟩
def qX8_enough_23  (y1 : Int32) : Nat → Int32 → ps_S → Option ((Int32 ⊕ (Int32)) × ps_S)
  | 0, _, _ => none
  | n + 1, x2, σ =>
    if 999 < x2 then
    some (.inr x2, σ)
    else
    ps_bd (qX6_copyFrom 44 26 σ) (fun _ σ8 =>
    ps_let (ps_rI σ8 44 (upd (σ8.1 44) 10 x2)) fun σ9 =>
    ps_bd (qX8_nobodyIsHeld y1 σ9) (fun v10 σ11 =>
    if v10 = 0 then
    ps_let (x2 + 1) fun v13 =>
    qX8_enough_23 y1 n v13 σ11
    else
    some (.inl x2, σ11)))
set_option maxRecDepth 100000 in
theorem L_X8_enough_23 {g : pm_G} (D : Nat) (hD : 7 ≤ D) {P : Int32 → ps_S → Prop}  (y1 : Int32) : ∀ (n : Nat) (x2 : Int32) (σ : ps_S), ps_ok (qX8_enough_23 y1 n x2 σ) (fun res σ => match res with | .inl r => P r σ | .inr x2 => pm_W g mX8_enough (ps_F g D (ps_qI P)) 0 0 65 [some (.ref (g.2.2.1 + 0)), some (.int y1), some (.int x2)] [] 345 (ps_E g σ)) → pm_W g mX8_enough (ps_F g D (ps_qI P)) 0 0 23 [some (.ref (g.2.2.1 + 0)), some (.int y1), some (.int x2)] [] 345 (ps_E g σ) := by
  intro n
  induction n with
  | zero => intro x2 σ hK; exact (ps_no hK).elim
  | succ n ih =>
    intro x2 σ hK
    rw [qX8_enough_23] at hK
    refine pm_ild d_X8_enough_23 rfl ?_
    refine pm_ki d_X8_enough_24 ?_
    refine pm_icmp_gt d_X8_enough_27 (fun c6 => ?_) (fun c6 => ?_)
    · replace hK := ps_ifT c6 hK
      exact ps_so hK
    · replace hK := ps_ifF c6 hK
      refine pm_ald d_X8_enough_30 rfl ?_
      refine ps_getR (q := 44) d_X8_enough_31 at_0 f_0_0_7 rfl ?_
      refine pm_ald d_X8_enough_34 rfl ?_
      refine ps_getR (q := 26) d_X8_enough_35 at_0 f_0_0_6 rfl ?_
      refine ps_cVV d_X8_enough_38 mv_X6_copyFrom ps_St44.at0 ob_5_0 rfl (As := [.ref (g.2.2.1 + 26)]) rfl rfl (ps_room.of (by omega) (by decide)) (Nat.le_of_ble_eq_true rfl) (C_X6_copyFrom 44 ps_St44 26 ps_St26 σ _ (ps_bdE hK)) ?_
      intro σ8 hT
      clear hK
      have hK := hT
      clear hT
      refine pm_ald d_X8_enough_41 rfl ?_
      refine ps_getR (q := 44) d_X8_enough_42 at_0 f_0_0_7 rfl ?_
      refine pm_ild d_X8_enough_45 rfl ?_
      refine ps_putI d_X8_enough_46 ps_St44.at0 f_5_0_10 rfl rfl ?_
      refine ps_nmS (fun σ9 eσ9 => ?_)
      replace hK := ps_ltE eσ9 hK
      refine pm_ald d_X8_enough_49 rfl ?_
      refine pm_ild d_X8_enough_50 rfl ?_
      refine ps_cVI d_X8_enough_51 mv_X8_nobodyIsHeld at_0 ob_0_0 rfl (As := [.int y1]) rfl rfl (ps_room.of (by omega) (by decide)) (Nat.le_of_ble_eq_true rfl) (C_X8_nobodyIsHeld y1 σ9 _ (ps_bdE hK)) ?_
      intro v10 σ11 hT
      clear hK
      have hK := hT
      clear hT
      refine pm_if_eq d_X8_enough_54 (fun c12 => ?_) (fun c12 => ?_)
      · replace hK := ps_ifT c12 hK
        refine pm_inc2 d_X8_enough_59 rfl ?_
        obtain ⟨v13, ev13⟩ : ∃ y : Int32, y = x2 + 1 := ⟨_, rfl⟩
        rw [← ev13]
        replace hK := ps_ltE ev13 hK
        refine pm_goto d_X8_enough_62 ?_
        exact ih _ _ hK
      · replace hK := ps_ifF c12 hK
        refine pm_ild d_X8_enough_57 rfl ?_
        have hQ := ps_so hK
        exact ps_iret rfl d_X8_enough_58 ⟨_, rfl, hQ⟩
def qX8_enough (p1 : Int32) (σ : ps_S) : Option (Int32 × ps_S) :=
  ps_bd (qX8_isWithin p1 1 99 σ) (fun v1 σ2 =>
  if v1 = 0 then
  some ((-3), σ2)
  else
  ps_let (σ2.1 12 1) fun v4 =>
  ps_let ((v4 + 1)) fun v5 =>
  ps_bd (qX8_enough_23 p1 ps_N v5 σ2) (fun res σ14 => match res with
  | .inl r => some (r, σ14)
  | .inr v15 =>
    some ((-1), σ14)))
set_option maxRecDepth 100000 in
theorem C_X8_enough {g : pm_G} (p1 : Int32) (σ : ps_S) (P : Int32 → ps_S → Prop) (hK : ps_ok (qX8_enough p1 σ) P) : ps_C g mX8_enough 7 [.ref (g.2.2.1 + 0), .int p1] σ (ps_qI P) := by
  unfold qX8_enough at hK
  refine ps_C.of (ls := [some (.ref (g.2.2.1 + 0)), some (.int p1), none]) 1 (by decide) rfl (Nat.le_of_ble_eq_true rfl) rfl ?_
  refine pm_ild d_X8_enough_0 rfl ?_
  refine pm_ki d_X8_enough_1 ?_
  refine pm_ki d_X8_enough_2 ?_
  refine ps_cSI d_X8_enough_4 ms_X8_isWithin (As := [.int p1, .int 1, .int 99]) rfl rfl (ps_room.of (by omega) (by decide)) (Nat.le_of_ble_eq_true rfl) (C_X8_isWithin p1 1 99 σ _ (ps_bdE hK)) ?_
  intro v1 σ2 hT
  clear hK
  have hK := hT
  clear hT
  refine pm_if_ne d_X8_enough_7 (fun c3 => ?_) (fun c3 => ?_)
  · replace hK := ps_ifF c3 hK
    refine pm_ald d_X8_enough_13 rfl ?_
    refine ps_getR (q := 12) d_X8_enough_14 at_0 f_0_0_4 rfl ?_
    refine ps_getI d_X8_enough_17 ps_Ho12.at0 f_2_0_1 rfl ?_
    refine ps_topI (fun v4 ev4 => ?_)
    replace hK := ps_ltE ev4 hK
    refine pm_ki d_X8_enough_20 ?_
    refine pm_iadd d_X8_enough_21 ?_
    refine ps_topI (fun v5 ev5 => ?_)
    replace hK := ps_ltE ev5 hK
    refine pm_ist2 d_X8_enough_22 rfl (by decide) ?_
    refine L_X8_enough_23 _ (by decide) p1 _ _ _ (ps_ok.mono (ps_bdE hK) ?_)
    intro res σ14 hT
    clear hK
    match res, hT with
    | .inl r, hT => exact ps_so hT
    | .inr v15, hT =>
      have hK := hT
      clear hT
      refine pm_ki d_X8_enough_65 ?_
      have hQ := ps_so hK
      exact ps_iret rfl d_X8_enough_66 ⟨_, rfl, hQ⟩
  · replace hK := ps_ifT c3 hK
    refine pm_ki d_X8_enough_10 ?_
    have hQ := ps_so hK
    exact ps_iret rfl d_X8_enough_12 ⟨_, rfl, hQ⟩
def qX8_goOn (p1 : Int32) (σ : ps_S) : Option (Unit × ps_S) :=
  ps_bd (qX6_copyFrom 44 26 σ) (fun _ σ2 =>
  ps_bd (qX0_run 44 p1 σ2) (fun _ σ4 =>
  some ((), σ4)))
set_option maxRecDepth 100000 in
theorem C_X8_goOn {g : pm_G} (p1 : Int32) (σ : ps_S) (P : Unit → ps_S → Prop) (hK : ps_ok (qX8_goOn p1 σ) P) : ps_C g mX8_goOn 6 [.ref (g.2.2.1 + 0), .int p1] σ (ps_qV P) := by
  unfold qX8_goOn at hK
  refine ps_C.of (ls := [some (.ref (g.2.2.1 + 0)), some (.int p1)]) 0 (by decide) rfl (Nat.le_of_ble_eq_true rfl) rfl ?_
  refine pm_ald d_X8_goOn_0 rfl ?_
  refine ps_getR (q := 44) d_X8_goOn_1 at_0 f_0_0_7 rfl ?_
  refine pm_ald d_X8_goOn_4 rfl ?_
  refine ps_getR (q := 26) d_X8_goOn_5 at_0 f_0_0_6 rfl ?_
  refine ps_cVV d_X8_goOn_8 mv_X6_copyFrom ps_St44.at0 ob_5_0 rfl (As := [.ref (g.2.2.1 + 26)]) rfl rfl (ps_room.of (by omega) (by decide)) (Nat.le_of_ble_eq_true rfl) (C_X6_copyFrom 44 ps_St44 26 ps_St26 σ _ (ps_bdE hK)) ?_
  intro σ2 hT
  clear hK
  have hK := hT
  clear hT
  refine pm_ald d_X8_goOn_11 rfl ?_
  refine ps_getR (q := 21) d_X8_goOn_12 at_0 f_0_0_5 rfl ?_
  refine pm_ald d_X8_goOn_15 rfl ?_
  refine ps_getR (q := 44) d_X8_goOn_16 at_0 f_0_0_7 rfl ?_
  refine pm_ild d_X8_goOn_19 rfl ?_
  refine ps_cVV d_X8_goOn_20 mv_X0_run at_21 ob_4_0 rfl (As := [.ref (g.2.2.1 + 44), .int p1]) rfl rfl (ps_room.of (by omega) (by decide)) (Nat.le_of_ble_eq_true rfl) (C_X0_run 44 ps_St44 p1 σ2 _ (ps_bdE hK)) ?_
  intro σ4 hT
  clear hK
  have hK := hT
  clear hT
  have hQ := ps_so hK
  exact ps_vret rfl d_X8_goOn_23 ⟨rfl, hQ⟩
def qX8_fair_41  (y1 : Int32) (y2 : Int32) : Nat → Int64 → Int64 → Int32 → ps_S → Option (((Int64 × Int64 × Int32)) × ps_S)
  | 0, _, _, _, _ => none
  | n + 1, x3, x5, x7, σ =>
    ps_let (σ.1 12 9) fun v9 =>
    if v9 ≤ x7 then
    some ((x3, x5, x7), σ)
    else
    if ps_in x7 6 = true then
    ps_let (σ.1 (44 + 16) (x7).toNatClampNeg) fun v11 =>
    if ps_in x7 6 = true then
    ps_let (σ.1 (26 + 16) (x7).toNatClampNeg) fun v12 =>
    ps_let ((((v11 - v12)).toInt64)) fun v13 =>
    ps_let ((x3 + v13)) fun v14 =>
    ps_let ((x5 + ((v13 * v13)))) fun v15 =>
    ps_let (x7 + 1) fun v16 =>
    qX8_fair_41 y1 y2 n v14 v15 v16 σ
    else none
    else none
set_option maxRecDepth 100000 in
theorem L_X8_fair_41 {g : pm_G} (D : Nat) (hD : 7 ≤ D) {P : Int64 → ps_S → Prop}  (y1 : Int32) (y2 : Int32) : ∀ (n : Nat) (x3 : Int64) (x5 : Int64) (x7 : Int32) (σ : ps_S), ps_ok (qX8_fair_41 y1 y2 n x3 x5 x7 σ) (fun res σ => match res with | (x3, x5, x7) => pm_W g mX8_fair (ps_F g D (ps_qL P)) 0 0 98 [some (.ref (g.2.2.1 + 0)), some (.int y1), some (.int y2), some (.long x3), none, some (.long x5), none, some (.int x7), none, none] [] 345 (ps_E g σ)) → pm_W g mX8_fair (ps_F g D (ps_qL P)) 0 0 41 [some (.ref (g.2.2.1 + 0)), some (.int y1), some (.int y2), some (.long x3), none, some (.long x5), none, some (.int x7), none, none] [] 345 (ps_E g σ) := by
  intro n
  induction n with
  | zero => intro x3 x5 x7 σ hK; exact (ps_no hK).elim
  | succ n ih =>
    intro x3 x5 x7 σ hK
    rw [qX8_fair_41] at hK
    refine pm_ild d_X8_fair_41 rfl ?_
    refine pm_ald d_X8_fair_43 rfl ?_
    refine ps_getR (q := 12) d_X8_fair_44 at_0 f_0_0_4 rfl ?_
    refine ps_getI d_X8_fair_47 ps_Ho12.at0 f_2_0_9 rfl ?_
    refine ps_topI (fun v9 ev9 => ?_)
    replace hK := ps_ltE ev9 hK
    refine pm_icmp_ge d_X8_fair_50 (fun c10 => ?_) (fun c10 => ?_)
    · replace hK := ps_ifT c10 hK
      exact ps_so hK
    · replace hK := ps_ifF c10 hK
      refine pm_ald d_X8_fair_53 rfl ?_
      refine ps_getR (q := 44) d_X8_fair_54 at_0 f_0_0_7 rfl ?_
      refine ps_getR (q := (44 + 16)) d_X8_fair_57 ps_St44.at0 f_5_0_6 rfl ?_
      refine pm_ild d_X8_fair_60 rfl ?_
      obtain ⟨b18, hT⟩ := ps_gd hK
      replace hK := hT
      clear hT
      refine ps_iald d_X8_fair_62 (ps_St44.at 16 (by decide)) a_5_16 (ps_in_of b18) rfl ?_
      refine ps_topI (fun v11 ev11 => ?_)
      replace hK := ps_ltE ev11 hK
      refine pm_ald d_X8_fair_63 rfl ?_
      refine ps_getR (q := 26) d_X8_fair_64 at_0 f_0_0_6 rfl ?_
      refine ps_getR (q := (26 + 16)) d_X8_fair_67 ps_St26.at0 f_5_0_6 rfl ?_
      refine pm_ild d_X8_fair_70 rfl ?_
      obtain ⟨b17, hT⟩ := ps_gd hK
      replace hK := hT
      clear hT
      refine ps_iald d_X8_fair_72 (ps_St26.at 16 (by decide)) a_5_16 (ps_in_of b17) rfl ?_
      refine ps_topI (fun v12 ev12 => ?_)
      replace hK := ps_ltE ev12 hK
      refine pm_isub d_X8_fair_73 ?_
      refine pm_i2l d_X8_fair_74 ?_
      refine ps_topL (fun v13 ev13 => ?_)
      replace hK := ps_ltE ev13 hK
      refine pm_lst8 d_X8_fair_75 rfl (by decide) ?_
      refine pm_lld d_X8_fair_77 rfl ?_
      refine pm_lld d_X8_fair_78 rfl ?_
      refine pm_ladd d_X8_fair_80 ?_
      refine ps_topL (fun v14 ev14 => ?_)
      replace hK := ps_ltE ev14 hK
      refine pm_lst3 d_X8_fair_81 rfl (by decide) ?_
      refine pm_lld d_X8_fair_82 rfl ?_
      refine pm_lld d_X8_fair_84 rfl ?_
      refine pm_lld d_X8_fair_86 rfl ?_
      refine pm_lmul d_X8_fair_88 ?_
      refine pm_ladd d_X8_fair_89 ?_
      refine ps_topL (fun v15 ev15 => ?_)
      replace hK := ps_ltE ev15 hK
      refine pm_lst5 d_X8_fair_90 rfl (by decide) ?_
      refine pm_inc7 d_X8_fair_92 rfl ?_
      obtain ⟨v16, ev16⟩ : ∃ y : Int32, y = x7 + 1 := ⟨_, rfl⟩
      rw [← ev16]
      replace hK := ps_ltE ev16 hK
      refine pm_goto d_X8_fair_95 ?_
      refine pm_wk (ls' := [some (.ref (g.2.2.1 + 0)), some (.int y1), some (.int y2), some (.long v14), none, some (.long v15), none, some (.int v16), none, none]) ⟨rfl, ⟨rfl, ⟨rfl, ⟨rfl, ⟨rfl, ⟨rfl, trivial⟩⟩⟩⟩⟩⟩ ?_
      exact ih _ _ _ _ hK
def qX8_fair (p1 : Int32) (p2 : Int32) (σ : ps_S) : Option (Int64 × ps_S) :=
  ps_bd (qX8_isWithin p2 0 1 σ) (fun v1 σ2 =>
  if v1 = 0 then
  some ((-2), σ2)
  else
  ps_bd (qX8_isWithin p1 1 999 σ2) (fun v4 σ5 =>
  if v4 = 0 then
  some ((-3), σ5)
  else
  ps_bd (qX8_goOn p1 σ5) (fun _ σ8 =>
  ps_bd (qX8_fair_41 p1 p2 ps_N 0 0 0 σ8) (fun res σ19 => match res with
  | (v20, v21, v22) =>
    if ((lg_cmp v20 0)) = 0 then
    some ((-1), σ19)
    else
    ps_let (σ19.1 12 9) fun v24 =>
    ps_bd (qX8_inLowestTerms ((v20 * v20)) (((((v24).toInt64)) * v21)) p2 σ19) (fun v25 σ26 =>
    some (v25, σ26))))))
set_option maxRecDepth 100000 in
theorem C_X8_fair {g : pm_G} (p1 : Int32) (p2 : Int32) (σ : ps_S) (P : Int64 → ps_S → Prop) (hK : ps_ok (qX8_fair p1 p2 σ) P) : ps_C g mX8_fair 7 [.ref (g.2.2.1 + 0), .int p1, .int p2] σ (ps_qL P) := by
  unfold qX8_fair at hK
  refine ps_C.of (ls := [some (.ref (g.2.2.1 + 0)), some (.int p1), some (.int p2), none, none, none, none, none, none, none]) 7 (by decide) rfl (Nat.le_of_ble_eq_true rfl) rfl ?_
  refine pm_ild d_X8_fair_0 rfl ?_
  refine pm_ki d_X8_fair_1 ?_
  refine pm_ki d_X8_fair_2 ?_
  refine ps_cSI d_X8_fair_3 ms_X8_isWithin (As := [.int p2, .int 0, .int 1]) rfl rfl (ps_room.of (by omega) (by decide)) (Nat.le_of_ble_eq_true rfl) (C_X8_isWithin p2 0 1 σ _ (ps_bdE hK)) ?_
  intro v1 σ2 hT
  clear hK
  have hK := hT
  clear hT
  refine pm_if_ne d_X8_fair_6 (fun c3 => ?_) (fun c3 => ?_)
  · replace hK := ps_ifF c3 hK
    refine pm_ild d_X8_fair_13 rfl ?_
    refine pm_ki d_X8_fair_14 ?_
    refine pm_ki d_X8_fair_15 ?_
    refine ps_cSI d_X8_fair_18 ms_X8_isWithin (As := [.int p1, .int 1, .int 999]) rfl rfl (ps_room.of (by omega) (by decide)) (Nat.le_of_ble_eq_true rfl) (C_X8_isWithin p1 1 999 σ2 _ (ps_bdE hK)) ?_
    intro v4 σ5 hT
    clear hK
    have hK := hT
    clear hT
    refine pm_if_ne d_X8_fair_21 (fun c6 => ?_) (fun c6 => ?_)
    · replace hK := ps_ifF c6 hK
      refine pm_ald d_X8_fair_28 rfl ?_
      refine pm_ild d_X8_fair_29 rfl ?_
      refine ps_cVV d_X8_fair_30 mv_X8_goOn at_0 ob_0_0 rfl (As := [.int p1]) rfl rfl (ps_room.of (by omega) (by decide)) (Nat.le_of_ble_eq_true rfl) (C_X8_goOn p1 σ5 _ (ps_bdE hK)) ?_
      intro σ8 hT
      clear hK
      have hK := hT
      clear hT
      refine pm_kl d_X8_fair_33 ?_
      refine pm_lst3 d_X8_fair_34 rfl (by decide) ?_
      refine pm_kl d_X8_fair_35 ?_
      refine pm_lst5 d_X8_fair_36 rfl (by decide) ?_
      refine pm_ki d_X8_fair_38 ?_
      refine pm_ist7 d_X8_fair_39 rfl (by decide) ?_
      refine L_X8_fair_41 _ (by decide) p1 p2 _ _ _ _ _ (ps_ok.mono (ps_bdE hK) ?_)
      rintro ⟨v20, v21, v22⟩ σ19 hT
      clear hK
      have hK := hT
      clear hT
      refine pm_lld d_X8_fair_98 rfl ?_
      refine pm_kl d_X8_fair_99 ?_
      refine pm_lcmp d_X8_fair_100 ?_
      refine pm_if_ne d_X8_fair_101 (fun c23 => ?_) (fun c23 => ?_)
      · replace hK := ps_ifF c23 hK
        refine pm_lld d_X8_fair_110 rfl ?_
        refine pm_lld d_X8_fair_111 rfl ?_
        refine pm_lmul d_X8_fair_112 ?_
        refine pm_ald d_X8_fair_113 rfl ?_
        refine ps_getR (q := 12) d_X8_fair_114 at_0 f_0_0_4 rfl ?_
        refine ps_getI d_X8_fair_117 ps_Ho12.at0 f_2_0_9 rfl ?_
        refine ps_topI (fun v24 ev24 => ?_)
        replace hK := ps_ltE ev24 hK
        refine pm_i2l d_X8_fair_120 ?_
        refine pm_lld d_X8_fair_121 rfl ?_
        refine pm_lmul d_X8_fair_123 ?_
        refine pm_ild d_X8_fair_124 rfl ?_
        refine ps_cSL d_X8_fair_125 ms_X8_inLowestTerms (As := [.long (v20 * v20), .long ((((v24).toInt64)) * v21), .int p2]) rfl rfl (ps_room.of (by omega) (by decide)) (Nat.le_of_ble_eq_true rfl) (C_X8_inLowestTerms ((v20 * v20)) (((((v24).toInt64)) * v21)) p2 σ19 _ (ps_bdE hK)) ?_
        intro v25 σ26 hT
        clear hK
        have hK := hT
        clear hT
        have hQ := ps_so hK
        exact ps_lret rfl d_X8_fair_128 ⟨_, rfl, hQ⟩
      · replace hK := ps_ifT c23 hK
        refine pm_kl d_X8_fair_104 ?_
        refine pm_goto d_X8_fair_107 ?_
        have hQ := ps_so hK
        exact ps_lret rfl d_X8_fair_128 ⟨_, rfl, hQ⟩
    · replace hK := ps_ifT c6 hK
      refine pm_kl d_X8_fair_24 ?_
      have hQ := ps_so hK
      exact ps_lret rfl d_X8_fair_27 ⟨_, rfl, hQ⟩
  · replace hK := ps_ifT c3 hK
    refine pm_kl d_X8_fair_9 ?_
    have hQ := ps_so hK
    exact ps_lret rfl d_X8_fair_12 ⟨_, rfl, hQ⟩
def qX8_fault (p1 : Int32) (σ : ps_S) : Option (Int32 × ps_S) :=
  if p1 = 0 then
  ps_let (σ.1 11 0) fun v2 =>
  some (v2, σ)
  else
  if p1 = 1 then
  ps_let (σ.1 11 1) fun v4 =>
  some (v4, σ)
  else
  some ((-1), σ)
set_option maxRecDepth 100000 in
theorem C_X8_fault {g : pm_G} (p1 : Int32) (σ : ps_S) (P : Int32 → ps_S → Prop) (hK : ps_ok (qX8_fault p1 σ) P) : ps_C g mX8_fault 1 [.ref (g.2.2.1 + 0), .int p1] σ (ps_qI P) := by
  unfold qX8_fault at hK
  refine ps_C.of (ls := [some (.ref (g.2.2.1 + 0)), some (.int p1)]) 0 (by decide) rfl (Nat.le_of_ble_eq_true rfl) rfl ?_
  refine pm_ild d_X8_fault_0 rfl ?_
  by_cases c1 : p1 = 0
  · replace hK := ps_ifT c1 hK
    refine pm_look (tgt := 28) (off := 27) d_X8_fault_1 (by decide) (by rw [c1]; rfl) (by decide) ?_
    refine pm_ald d_X8_fault_28 rfl ?_
    refine ps_getR (q := 11) d_X8_fault_29 at_0 f_0_0_3 rfl ?_
    refine ps_getI d_X8_fault_32 at_11 f_3_0_0 rfl ?_
    refine ps_topI (fun v2 ev2 => ?_)
    replace hK := ps_ltE ev2 hK
    have hQ := ps_so hK
    exact ps_iret rfl d_X8_fault_35 ⟨_, rfl, hQ⟩
  replace hK := ps_ifF c1 hK
  by_cases c3 : p1 = 1
  · replace hK := ps_ifT c3 hK
    refine pm_look (tgt := 36) (off := 35) d_X8_fault_1 (by decide) (by rw [c3]; rfl) (by decide) ?_
    refine pm_ald d_X8_fault_36 rfl ?_
    refine ps_getR (q := 11) d_X8_fault_37 at_0 f_0_0_3 rfl ?_
    refine ps_getI d_X8_fault_40 at_11 f_3_0_1 rfl ?_
    refine ps_topI (fun v4 ev4 => ?_)
    replace hK := ps_ltE ev4 hK
    have hQ := ps_so hK
    exact ps_iret rfl d_X8_fault_43 ⟨_, rfl, hQ⟩
  replace hK := ps_ifF c3 hK
  refine pm_look (tgt := 44) (off := 43) d_X8_fault_1 (by decide) ((lv_osw (k := 0) c1 (by decide)).trans ((lv_osw (k := 1) c3 (by decide)).trans (rfl))) (by decide) ?_
  refine pm_ki d_X8_fault_44 ?_
  have hQ := ps_so hK
  exact ps_iret rfl d_X8_fault_45 ⟨_, rfl, hQ⟩
