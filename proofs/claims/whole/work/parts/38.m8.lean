def qX9_writesOut_25  (y1 : Int32) : Nat → ps_S → Option (((Unit)) × ps_S)
  | 0, _ => none
  | n + 1, σ =>
    if ps_in ((33 + y1)) 83 = true then
    ps_let (σ.1 335 ((33 + y1)).toNatClampNeg) fun v3 =>
    if v3 < 100 then
    some ((), σ)
    else
    if ps_in ((29 + y1)) 83 = true then
    ps_let (σ.1 335 ((29 + y1)).toNatClampNeg) fun v5 =>
    if v5 ≤ 0 then
    some ((), σ)
    else
    if ps_in ((33 + y1)) 83 = true then
    ps_let (σ.1 335 ((33 + y1)).toNatClampNeg) fun v7 =>
    if ps_in ((33 + y1)) 83 = true then
    ps_let (ps_rI σ 335 (upd (σ.1 335) ((33 + y1)).toNatClampNeg ((v7 - 100)))) fun σ8 =>
    if ps_in ((29 + y1)) 83 = true then
    ps_let (σ8.1 335 ((29 + y1)).toNatClampNeg) fun v9 =>
    if ps_in ((29 + y1)) 83 = true then
    ps_let (ps_rI σ8 335 (upd (σ8.1 335) ((29 + y1)).toNatClampNeg ((v9 - 1)))) fun σ10 =>
    if ps_in ((45 + y1)) 83 = true then
    ps_let (σ10.1 335 ((45 + y1)).toNatClampNeg) fun v11 =>
    if ps_in ((45 + y1)) 83 = true then
    ps_let (ps_rI σ10 335 (upd (σ10.1 335) ((45 + y1)).toNatClampNeg ((v11 + 1)))) fun σ12 =>
    if ps_in ((49 + y1)) 83 = true then
    ps_let (σ12.1 335 ((49 + y1)).toNatClampNeg) fun v13 =>
    if ps_in ((49 + y1)) 83 = true then
    ps_let (ps_rI σ12 335 (upd (σ12.1 335) ((49 + y1)).toNatClampNeg ((v13 + 1)))) fun σ14 =>
    qX9_writesOut_25 y1 n σ14
    else none
    else none
    else none
    else none
    else none
    else none
    else none
    else none
    else none
    else none
set_option maxRecDepth 100000 in
theorem L_X9_writesOut_25 {g : pm_G} (D : Nat) (hD : 4 ≤ D) {P : Unit → ps_S → Prop}  (y1 : Int32) : ∀ (n : Nat) (σ : ps_S), ps_ok (qX9_writesOut_25 y1 n σ) (fun res σ => match res with | _ => pm_W g mX9_writesOut (ps_F g D (ps_qV P)) 0 0 107 [some (.ref (g.2.2.1 + 327)), some (.int y1)] [] 345 (ps_E g σ)) → pm_W g mX9_writesOut (ps_F g D (ps_qV P)) 0 0 25 [some (.ref (g.2.2.1 + 327)), some (.int y1)] [] 345 (ps_E g σ) := by
  intro n
  induction n with
  | zero => intro σ hK; exact (ps_no hK).elim
  | succ n ih =>
    intro σ hK
    rw [qX9_writesOut_25] at hK
    refine pm_ald d_X9_writesOut_25 rfl ?_
    refine ps_getR (q := 335) d_X9_writesOut_26 at_327 f_8_0_19 rfl ?_
    refine pm_ki d_X9_writesOut_29 ?_
    refine pm_ild d_X9_writesOut_31 rfl ?_
    refine pm_iadd d_X9_writesOut_32 ?_
    obtain ⟨b24, hT⟩ := ps_gd hK
    replace hK := hT
    clear hT
    refine ps_iald d_X9_writesOut_33 at_335 a_8_8 (ps_in_of b24) rfl ?_
    refine ps_topI (fun v3 ev3 => ?_)
    replace hK := ps_ltE ev3 hK
    refine pm_ki d_X9_writesOut_34 ?_
    refine pm_icmp_lt d_X9_writesOut_36 (fun c4 => ?_) (fun c4 => ?_)
    · replace hK := ps_ifT c4 hK
      exact ps_so hK
    · replace hK := ps_ifF c4 hK
      refine pm_ald d_X9_writesOut_39 rfl ?_
      refine ps_getR (q := 335) d_X9_writesOut_40 at_327 f_8_0_19 rfl ?_
      refine pm_ki d_X9_writesOut_43 ?_
      refine pm_ild d_X9_writesOut_45 rfl ?_
      refine pm_iadd d_X9_writesOut_46 ?_
      obtain ⟨b23, hT⟩ := ps_gd hK
      replace hK := hT
      clear hT
      refine ps_iald d_X9_writesOut_47 at_335 a_8_8 (ps_in_of b23) rfl ?_
      refine ps_topI (fun v5 ev5 => ?_)
      replace hK := ps_ltE ev5 hK
      refine pm_if_le d_X9_writesOut_48 (fun c6 => ?_) (fun c6 => ?_)
      · replace hK := ps_ifT c6 hK
        exact ps_so hK
      · replace hK := ps_ifF c6 hK
        refine pm_ald d_X9_writesOut_51 rfl ?_
        refine ps_getR (q := 335) d_X9_writesOut_52 at_327 f_8_0_19 rfl ?_
        refine pm_ki d_X9_writesOut_55 ?_
        refine pm_ild d_X9_writesOut_57 rfl ?_
        refine pm_iadd d_X9_writesOut_58 ?_
        refine pm_dup2 d_X9_writesOut_59 rfl rfl ?_
        obtain ⟨b22, hT⟩ := ps_gd hK
        replace hK := hT
        clear hT
        refine ps_iald d_X9_writesOut_60 at_335 a_8_8 (ps_in_of b22) rfl ?_
        refine ps_topI (fun v7 ev7 => ?_)
        replace hK := ps_ltE ev7 hK
        refine pm_ki d_X9_writesOut_61 ?_
        refine pm_isub d_X9_writesOut_63 ?_
        obtain ⟨b21, hT⟩ := ps_gd hK
        replace hK := hT
        clear hT
        refine ps_iast d_X9_writesOut_64 at_335 a_8_8 (ps_in_of b21) ?_
        refine ps_nmS (fun σ8 eσ8 => ?_)
        replace hK := ps_ltE eσ8 hK
        refine pm_ald d_X9_writesOut_65 rfl ?_
        refine ps_getR (q := 335) d_X9_writesOut_66 at_327 f_8_0_19 rfl ?_
        refine pm_ki d_X9_writesOut_69 ?_
        refine pm_ild d_X9_writesOut_71 rfl ?_
        refine pm_iadd d_X9_writesOut_72 ?_
        refine pm_dup2 d_X9_writesOut_73 rfl rfl ?_
        obtain ⟨b20, hT⟩ := ps_gd hK
        replace hK := hT
        clear hT
        refine ps_iald d_X9_writesOut_74 at_335 a_8_8 (ps_in_of b20) rfl ?_
        refine ps_topI (fun v9 ev9 => ?_)
        replace hK := ps_ltE ev9 hK
        refine pm_ki d_X9_writesOut_75 ?_
        refine pm_isub d_X9_writesOut_76 ?_
        obtain ⟨b19, hT⟩ := ps_gd hK
        replace hK := hT
        clear hT
        refine ps_iast d_X9_writesOut_77 at_335 a_8_8 (ps_in_of b19) ?_
        refine ps_nmS (fun σ10 eσ10 => ?_)
        replace hK := ps_ltE eσ10 hK
        refine pm_ald d_X9_writesOut_78 rfl ?_
        refine ps_getR (q := 335) d_X9_writesOut_79 at_327 f_8_0_19 rfl ?_
        refine pm_ki d_X9_writesOut_82 ?_
        refine pm_ild d_X9_writesOut_84 rfl ?_
        refine pm_iadd d_X9_writesOut_85 ?_
        refine pm_dup2 d_X9_writesOut_86 rfl rfl ?_
        obtain ⟨b18, hT⟩ := ps_gd hK
        replace hK := hT
        clear hT
        refine ps_iald d_X9_writesOut_87 at_335 a_8_8 (ps_in_of b18) rfl ?_
        refine ps_topI (fun v11 ev11 => ?_)
        replace hK := ps_ltE ev11 hK
        refine pm_ki d_X9_writesOut_88 ?_
        refine pm_iadd d_X9_writesOut_89 ?_
        obtain ⟨b17, hT⟩ := ps_gd hK
        replace hK := hT
        clear hT
        refine ps_iast d_X9_writesOut_90 at_335 a_8_8 (ps_in_of b17) ?_
        refine ps_nmS (fun σ12 eσ12 => ?_)
        replace hK := ps_ltE eσ12 hK
        refine pm_ald d_X9_writesOut_91 rfl ?_
        refine ps_getR (q := 335) d_X9_writesOut_92 at_327 f_8_0_19 rfl ?_
        refine pm_ki d_X9_writesOut_95 ?_
        refine pm_ild d_X9_writesOut_97 rfl ?_
        refine pm_iadd d_X9_writesOut_98 ?_
        refine pm_dup2 d_X9_writesOut_99 rfl rfl ?_
        obtain ⟨b16, hT⟩ := ps_gd hK
        replace hK := hT
        clear hT
        refine ps_iald d_X9_writesOut_100 at_335 a_8_8 (ps_in_of b16) rfl ?_
        refine ps_topI (fun v13 ev13 => ?_)
        replace hK := ps_ltE ev13 hK
        refine pm_ki d_X9_writesOut_101 ?_
        refine pm_iadd d_X9_writesOut_102 ?_
        obtain ⟨b15, hT⟩ := ps_gd hK
        replace hK := hT
        clear hT
        refine ps_iast d_X9_writesOut_103 at_335 a_8_8 (ps_in_of b15) ?_
        refine ps_nmS (fun σ14 eσ14 => ?_)
        replace hK := ps_ltE eσ14 hK
        refine pm_goto d_X9_writesOut_104 ?_
        exact ih _ hK
def qX9_writesOut (p1 : Int32) (σ : ps_S) : Option (Unit × ps_S) :=
  ps_let (σ.1 327 22) fun v1 =>
  if p1 = v1 then
  ps_bd (qX9_writesOut_25 p1 ps_N σ) (fun res σ25 => match res with
  | _ =>
    if ps_in ((29 + p1)) 83 = true then
    ps_let (σ25.1 335 ((29 + p1)).toNatClampNeg) fun v26 =>
    if v26 = 0 then
    if ps_in ((33 + p1)) 83 = true then
    ps_let (ps_rI σ25 335 (upd (σ25.1 335) ((33 + p1)).toNatClampNeg 0)) fun σ28 =>
    some ((), σ28)
    else none
    else
    some ((), σ25)
    else none)
  else
  if ps_in ((33 + p1)) 83 = true then
  ps_let (σ.1 335 ((33 + p1)).toNatClampNeg) fun v31 =>
  ps_bd (qX9_speedNow p1 σ) (fun v32 σ33 =>
  if ps_in ((33 + p1)) 83 = true then
  ps_let (ps_rI σ33 335 (upd (σ33.1 335) ((33 + p1)).toNatClampNeg ((v31 + v32)))) fun σ34 =>
  ps_bd (qX9_writesOut_25 p1 ps_N σ34) (fun res σ35 => match res with
  | _ =>
    if ps_in ((29 + p1)) 83 = true then
    ps_let (σ35.1 335 ((29 + p1)).toNatClampNeg) fun v36 =>
    if v36 = 0 then
    if ps_in ((33 + p1)) 83 = true then
    ps_let (ps_rI σ35 335 (upd (σ35.1 335) ((33 + p1)).toNatClampNeg 0)) fun σ38 =>
    some ((), σ38)
    else none
    else
    some ((), σ35)
    else none)
  else none)
  else none
set_option maxRecDepth 100000 in
theorem C_X9_writesOut {g : pm_G} (p1 : Int32) (σ : ps_S) (P : Unit → ps_S → Prop) (hK : ps_ok (qX9_writesOut p1 σ) P) : ps_C g mX9_writesOut 4 [.ref (g.2.2.1 + 327), .int p1] σ (ps_qV P) := by
  unfold qX9_writesOut at hK
  refine ps_C.of (ls := [some (.ref (g.2.2.1 + 327)), some (.int p1)]) 0 (by decide) rfl (Nat.le_of_ble_eq_true rfl) rfl ?_
  refine pm_ild d_X9_writesOut_0 rfl ?_
  refine pm_ald d_X9_writesOut_1 rfl ?_
  refine ps_getI d_X9_writesOut_2 at_327 f_8_0_22 rfl ?_
  refine ps_topI (fun v1 ev1 => ?_)
  replace hK := ps_ltE ev1 hK
  refine pm_icmp_eq d_X9_writesOut_5 (fun c2 => ?_) (fun c2 => ?_)
  · replace hK := ps_ifT c2 hK
    refine L_X9_writesOut_25 _ (by decide) p1 _ _ (ps_ok.mono (ps_bdE hK) ?_)
    rintro _ σ25 hT
    clear hK
    have hK := hT
    clear hT
    refine pm_ald d_X9_writesOut_107 rfl ?_
    refine ps_getR (q := 335) d_X9_writesOut_108 at_327 f_8_0_19 rfl ?_
    refine pm_ki d_X9_writesOut_111 ?_
    refine pm_ild d_X9_writesOut_113 rfl ?_
    refine pm_iadd d_X9_writesOut_114 ?_
    obtain ⟨b30, hT⟩ := ps_gd hK
    replace hK := hT
    clear hT
    refine ps_iald d_X9_writesOut_115 at_335 a_8_8 (ps_in_of b30) rfl ?_
    refine ps_topI (fun v26 ev26 => ?_)
    replace hK := ps_ltE ev26 hK
    refine pm_if_ne d_X9_writesOut_116 (fun c27 => ?_) (fun c27 => ?_)
    · replace hK := ps_ifF c27 hK
      have hQ := ps_so hK
      exact ps_vret rfl d_X9_writesOut_129 ⟨rfl, hQ⟩
    · replace hK := ps_ifT c27 hK
      refine pm_ald d_X9_writesOut_119 rfl ?_
      refine ps_getR (q := 335) d_X9_writesOut_120 at_327 f_8_0_19 rfl ?_
      refine pm_ki d_X9_writesOut_123 ?_
      refine pm_ild d_X9_writesOut_125 rfl ?_
      refine pm_iadd d_X9_writesOut_126 ?_
      refine pm_ki d_X9_writesOut_127 ?_
      obtain ⟨b29, hT⟩ := ps_gd hK
      replace hK := hT
      clear hT
      refine ps_iast d_X9_writesOut_128 at_335 a_8_8 (ps_in_of b29) ?_
      refine ps_nmS (fun σ28 eσ28 => ?_)
      replace hK := ps_ltE eσ28 hK
      have hQ := ps_so hK
      exact ps_vret rfl d_X9_writesOut_129 ⟨rfl, hQ⟩
  · replace hK := ps_ifF c2 hK
    refine pm_ald d_X9_writesOut_8 rfl ?_
    refine ps_getR (q := 335) d_X9_writesOut_9 at_327 f_8_0_19 rfl ?_
    refine pm_ki d_X9_writesOut_12 ?_
    refine pm_ild d_X9_writesOut_14 rfl ?_
    refine pm_iadd d_X9_writesOut_15 ?_
    refine pm_dup2 d_X9_writesOut_16 rfl rfl ?_
    obtain ⟨b42, hT⟩ := ps_gd hK
    replace hK := hT
    clear hT
    refine ps_iald d_X9_writesOut_17 at_335 a_8_8 (ps_in_of b42) rfl ?_
    refine ps_topI (fun v31 ev31 => ?_)
    replace hK := ps_ltE ev31 hK
    refine pm_ald d_X9_writesOut_18 rfl ?_
    refine pm_ild d_X9_writesOut_19 rfl ?_
    refine ps_cVI d_X9_writesOut_20 mv_X9_speedNow at_327 ob_8_0 rfl (As := [.int p1]) rfl rfl (ps_room.of (by omega) (by decide)) (Nat.le_of_ble_eq_true rfl) (C_X9_speedNow p1 σ _ (ps_bdE hK)) ?_
    intro v32 σ33 hT
    clear hK
    have hK := hT
    clear hT
    refine pm_iadd d_X9_writesOut_23 ?_
    obtain ⟨b41, hT⟩ := ps_gd hK
    replace hK := hT
    clear hT
    refine ps_iast d_X9_writesOut_24 at_335 a_8_8 (ps_in_of b41) ?_
    refine ps_nmS (fun σ34 eσ34 => ?_)
    replace hK := ps_ltE eσ34 hK
    refine L_X9_writesOut_25 _ (by decide) p1 _ _ (ps_ok.mono (ps_bdE hK) ?_)
    rintro _ σ35 hT
    clear hK
    have hK := hT
    clear hT
    refine pm_ald d_X9_writesOut_107 rfl ?_
    refine ps_getR (q := 335) d_X9_writesOut_108 at_327 f_8_0_19 rfl ?_
    refine pm_ki d_X9_writesOut_111 ?_
    refine pm_ild d_X9_writesOut_113 rfl ?_
    refine pm_iadd d_X9_writesOut_114 ?_
    obtain ⟨b40, hT⟩ := ps_gd hK
    replace hK := hT
    clear hT
    refine ps_iald d_X9_writesOut_115 at_335 a_8_8 (ps_in_of b40) rfl ?_
    refine ps_topI (fun v36 ev36 => ?_)
    replace hK := ps_ltE ev36 hK
    refine pm_if_ne d_X9_writesOut_116 (fun c37 => ?_) (fun c37 => ?_)
    · replace hK := ps_ifF c37 hK
      have hQ := ps_so hK
      exact ps_vret rfl d_X9_writesOut_129 ⟨rfl, hQ⟩
    · replace hK := ps_ifT c37 hK
      refine pm_ald d_X9_writesOut_119 rfl ?_
      refine ps_getR (q := 335) d_X9_writesOut_120 at_327 f_8_0_19 rfl ?_
      refine pm_ki d_X9_writesOut_123 ?_
      refine pm_ild d_X9_writesOut_125 rfl ?_
      refine pm_iadd d_X9_writesOut_126 ?_
      refine pm_ki d_X9_writesOut_127 ?_
      obtain ⟨b39, hT⟩ := ps_gd hK
      replace hK := hT
      clear hT
      refine ps_iast d_X9_writesOut_128 at_335 a_8_8 (ps_in_of b39) ?_
      refine ps_nmS (fun σ38 eσ38 => ?_)
      replace hK := ps_ltE eσ38 hK
      have hQ := ps_so hK
      exact ps_vret rfl d_X9_writesOut_129 ⟨rfl, hQ⟩
def qX9_ticksOnce_12  : Nat → Int32 → ps_S → Option (((Int32)) × ps_S)
  | 0, _, _ => none
  | n + 1, x1, σ =>
    ps_let (σ.1 328 1) fun v3 =>
    if v3 ≤ x1 then
    some (x1, σ)
    else
    ps_bd (qX9_writesOut x1 σ) (fun _ σ6 =>
    ps_let (x1 + 1) fun v7 =>
    qX9_ticksOnce_12 n v7 σ6)
set_option maxRecDepth 100000 in
theorem L_X9_ticksOnce_12 {g : pm_G} (D : Nat) (hD : 5 ≤ D) {P : Unit → ps_S → Prop}  : ∀ (n : Nat) (x1 : Int32) (σ : ps_S), ps_ok (qX9_ticksOnce_12 n x1 σ) (fun res σ => match res with | x1 => pm_W g mX9_ticksOnce (ps_F g D (ps_qV P)) 0 0 33 [some (.ref (g.2.2.1 + 327)), some (.int x1)] [] 345 (ps_E g σ)) → pm_W g mX9_ticksOnce (ps_F g D (ps_qV P)) 0 0 12 [some (.ref (g.2.2.1 + 327)), some (.int x1)] [] 345 (ps_E g σ) := by
  intro n
  induction n with
  | zero => intro x1 σ hK; exact (ps_no hK).elim
  | succ n ih =>
    intro x1 σ hK
    rw [qX9_ticksOnce_12] at hK
    refine pm_ild d_X9_ticksOnce_12 rfl ?_
    refine pm_ald d_X9_ticksOnce_13 rfl ?_
    refine ps_getR (q := 328) d_X9_ticksOnce_14 at_327 f_8_0_1 rfl ?_
    refine pm_ki d_X9_ticksOnce_17 ?_
    refine ps_iald (x := σ.1 328 1) d_X9_ticksOnce_18 at_328 a_8_1 (ps_in_of rfl) rfl ?_
    refine ps_topI (fun v3 ev3 => ?_)
    replace hK := ps_ltE ev3 hK
    refine pm_icmp_ge d_X9_ticksOnce_19 (fun c4 => ?_) (fun c4 => ?_)
    · replace hK := ps_ifT c4 hK
      exact ps_so hK
    · replace hK := ps_ifF c4 hK
      refine pm_ald d_X9_ticksOnce_22 rfl ?_
      refine pm_ild d_X9_ticksOnce_23 rfl ?_
      refine ps_cVV d_X9_ticksOnce_24 mv_X9_writesOut at_327 ob_8_0 rfl (As := [.int x1]) rfl rfl (ps_room.of (by omega) (by decide)) (Nat.le_of_ble_eq_true rfl) (C_X9_writesOut x1 σ _ (ps_bdE hK)) ?_
      intro σ6 hT
      clear hK
      have hK := hT
      clear hT
      refine pm_inc1 d_X9_ticksOnce_27 rfl ?_
      obtain ⟨v7, ev7⟩ : ∃ y : Int32, y = x1 + 1 := ⟨_, rfl⟩
      rw [← ev7]
      replace hK := ps_ltE ev7 hK
      refine pm_goto d_X9_ticksOnce_30 ?_
      exact ih _ _ hK
def qX9_ticksOnce_35  : Nat → Int32 → ps_S → Option (((Int32)) × ps_S)
  | 0, _, _ => none
  | n + 1, x1, σ =>
    ps_let (σ.1 328 1) fun v10 =>
    if v10 ≤ x1 then
    some (x1, σ)
    else
    ps_let (σ.1 335 0) fun v12 =>
    ps_let (σ.1 328 14) fun v13 =>
    if v13 = 0 then none else
    if ((v12 - v12 / v13 * v13)) = 0 then
    ps_bd (qX9_estimates x1 σ) (fun _ σ16 =>
    ps_let (x1 + 1) fun v17 =>
    qX9_ticksOnce_35 n v17 σ16)
    else
    some (x1, σ)
set_option maxRecDepth 100000 in
theorem L_X9_ticksOnce_35 {g : pm_G} (D : Nat) (hD : 5 ≤ D) {P : Unit → ps_S → Prop}  : ∀ (n : Nat) (x1 : Int32) (σ : ps_S), ps_ok (qX9_ticksOnce_35 n x1 σ) (fun res σ => match res with | x1 => pm_W g mX9_ticksOnce (ps_F g D (ps_qV P)) 0 0 73 [some (.ref (g.2.2.1 + 327)), some (.int x1)] [] 345 (ps_E g σ)) → pm_W g mX9_ticksOnce (ps_F g D (ps_qV P)) 0 0 35 [some (.ref (g.2.2.1 + 327)), some (.int x1)] [] 345 (ps_E g σ) := by
  intro n
  induction n with
  | zero => intro x1 σ hK; exact (ps_no hK).elim
  | succ n ih =>
    intro x1 σ hK
    rw [qX9_ticksOnce_35] at hK
    refine pm_ild d_X9_ticksOnce_35 rfl ?_
    refine pm_ald d_X9_ticksOnce_36 rfl ?_
    refine ps_getR (q := 328) d_X9_ticksOnce_37 at_327 f_8_0_1 rfl ?_
    refine pm_ki d_X9_ticksOnce_40 ?_
    refine ps_iald (x := σ.1 328 1) d_X9_ticksOnce_41 at_328 a_8_1 (ps_in_of rfl) rfl ?_
    refine ps_topI (fun v10 ev10 => ?_)
    replace hK := ps_ltE ev10 hK
    refine pm_icmp_ge d_X9_ticksOnce_42 (fun c11 => ?_) (fun c11 => ?_)
    · replace hK := ps_ifT c11 hK
      exact ps_so hK
    · replace hK := ps_ifF c11 hK
      refine pm_ald d_X9_ticksOnce_45 rfl ?_
      refine ps_getR (q := 335) d_X9_ticksOnce_46 at_327 f_8_0_19 rfl ?_
      refine pm_ki d_X9_ticksOnce_49 ?_
      refine ps_iald (x := σ.1 335 0) d_X9_ticksOnce_50 at_335 a_8_8 (ps_in_of rfl) rfl ?_
      refine ps_topI (fun v12 ev12 => ?_)
      replace hK := ps_ltE ev12 hK
      refine pm_ald d_X9_ticksOnce_51 rfl ?_
      refine ps_getR (q := 328) d_X9_ticksOnce_52 at_327 f_8_0_1 rfl ?_
      refine pm_ki d_X9_ticksOnce_55 ?_
      refine ps_iald (x := σ.1 328 14) d_X9_ticksOnce_57 at_328 a_8_1 (ps_in_of rfl) rfl ?_
      refine ps_topI (fun v13 ev13 => ?_)
      replace hK := ps_ltE ev13 hK
      by_cases z18 : v13 = 0
      · exact (ps_no (ps_ifT z18 hK)).elim
      replace hK := ps_ifF z18 hK
      refine pm_irem d_X9_ticksOnce_58 z18 ?_
      refine pm_if_ne d_X9_ticksOnce_59 (fun c14 => ?_) (fun c14 => ?_)
      · replace hK := ps_ifF c14 hK
        exact ps_so hK
      · replace hK := ps_ifT c14 hK
        refine pm_ald d_X9_ticksOnce_62 rfl ?_
        refine pm_ild d_X9_ticksOnce_63 rfl ?_
        refine ps_cVV d_X9_ticksOnce_64 mv_X9_estimates at_327 ob_8_0 rfl (As := [.int x1]) rfl rfl (ps_room.of (by omega) (by decide)) (Nat.le_of_ble_eq_true rfl) (C_X9_estimates x1 σ _ (ps_bdE hK)) ?_
        intro σ16 hT
        clear hK
        have hK := hT
        clear hT
        refine pm_inc1 d_X9_ticksOnce_67 rfl ?_
        obtain ⟨v17, ev17⟩ : ∃ y : Int32, y = x1 + 1 := ⟨_, rfl⟩
        rw [← ev17]
        replace hK := ps_ltE ev17 hK
        refine pm_goto d_X9_ticksOnce_70 ?_
        exact ih _ _ hK
def qX9_ticksOnce_75  : Nat → Int32 → ps_S → Option (((Int32)) × ps_S)
  | 0, _, _ => none
  | n + 1, x1, σ =>
    ps_let (σ.1 328 1) fun v21 =>
    if v21 ≤ x1 then
    some (x1, σ)
    else
    ps_bd (qX9_takesUp x1 σ) (fun _ σ24 =>
    ps_let (x1 + 1) fun v25 =>
    qX9_ticksOnce_75 n v25 σ24)
set_option maxRecDepth 100000 in
theorem L_X9_ticksOnce_75 {g : pm_G} (D : Nat) (hD : 5 ≤ D) {P : Unit → ps_S → Prop}  : ∀ (n : Nat) (x1 : Int32) (σ : ps_S), ps_ok (qX9_ticksOnce_75 n x1 σ) (fun res σ => match res with | x1 => pm_W g mX9_ticksOnce (ps_F g D (ps_qV P)) 0 0 96 [some (.ref (g.2.2.1 + 327)), some (.int x1)] [] 345 (ps_E g σ)) → pm_W g mX9_ticksOnce (ps_F g D (ps_qV P)) 0 0 75 [some (.ref (g.2.2.1 + 327)), some (.int x1)] [] 345 (ps_E g σ) := by
  intro n
  induction n with
  | zero => intro x1 σ hK; exact (ps_no hK).elim
  | succ n ih =>
    intro x1 σ hK
    rw [qX9_ticksOnce_75] at hK
    refine pm_ild d_X9_ticksOnce_75 rfl ?_
    refine pm_ald d_X9_ticksOnce_76 rfl ?_
    refine ps_getR (q := 328) d_X9_ticksOnce_77 at_327 f_8_0_1 rfl ?_
    refine pm_ki d_X9_ticksOnce_80 ?_
    refine ps_iald (x := σ.1 328 1) d_X9_ticksOnce_81 at_328 a_8_1 (ps_in_of rfl) rfl ?_
    refine ps_topI (fun v21 ev21 => ?_)
    replace hK := ps_ltE ev21 hK
    refine pm_icmp_ge d_X9_ticksOnce_82 (fun c22 => ?_) (fun c22 => ?_)
    · replace hK := ps_ifT c22 hK
      exact ps_so hK
    · replace hK := ps_ifF c22 hK
      refine pm_ald d_X9_ticksOnce_85 rfl ?_
      refine pm_ild d_X9_ticksOnce_86 rfl ?_
      refine ps_cVV d_X9_ticksOnce_87 mv_X9_takesUp at_327 ob_8_0 rfl (As := [.int x1]) rfl rfl (ps_room.of (by omega) (by decide)) (Nat.le_of_ble_eq_true rfl) (C_X9_takesUp x1 σ _ (ps_bdE hK)) ?_
      intro σ24 hT
      clear hK
      have hK := hT
      clear hT
      refine pm_inc1 d_X9_ticksOnce_90 rfl ?_
      obtain ⟨v25, ev25⟩ : ∃ y : Int32, y = x1 + 1 := ⟨_, rfl⟩
      rw [← ev25]
      replace hK := ps_ltE ev25 hK
      refine pm_goto d_X9_ticksOnce_93 ?_
      exact ih _ _ hK
def qX9_ticksOnce_98  : Nat → Int32 → ps_S → Option (((Int32)) × ps_S)
  | 0, _, _ => none
  | n + 1, x1, σ =>
    ps_let (σ.1 328 3) fun v28 =>
    if v28 ≤ x1 then
    some (x1, σ)
    else
    ps_let (σ.1 327 25) fun v30 =>
    if v30 = 0 then
    some (x1, σ)
    else
    ps_let (σ.1 335 0) fun v32 =>
    ps_let (σ.1 328 3) fun v33 =>
    if v33 = 0 then none else
    ps_let (σ.1 328 3) fun v34 =>
    if v34 = 0 then none else
    ps_bd (qX9_writes ((((((v32 - v32 / v33 * v33)) + x1)) - ((((v32 - v32 / v33 * v33)) + x1)) / v34 * v34)) σ) (fun _ σ36 =>
    ps_let (x1 + 1) fun v37 =>
    qX9_ticksOnce_98 n v37 σ36)
set_option maxRecDepth 100000 in
theorem L_X9_ticksOnce_98 {g : pm_G} (D : Nat) (hD : 5 ≤ D) {P : Unit → ps_S → Prop}  : ∀ (n : Nat) (x1 : Int32) (σ : ps_S), ps_ok (qX9_ticksOnce_98 n x1 σ) (fun res σ => match res with | x1 => pm_W g mX9_ticksOnce (ps_F g D (ps_qV P)) 0 0 147 [some (.ref (g.2.2.1 + 327)), some (.int x1)] [] 345 (ps_E g σ)) → pm_W g mX9_ticksOnce (ps_F g D (ps_qV P)) 0 0 98 [some (.ref (g.2.2.1 + 327)), some (.int x1)] [] 345 (ps_E g σ) := by
  intro n
  induction n with
  | zero => intro x1 σ hK; exact (ps_no hK).elim
  | succ n ih =>
    intro x1 σ hK
    rw [qX9_ticksOnce_98] at hK
    refine pm_ild d_X9_ticksOnce_98 rfl ?_
    refine pm_ald d_X9_ticksOnce_99 rfl ?_
    refine ps_getR (q := 328) d_X9_ticksOnce_100 at_327 f_8_0_1 rfl ?_
    refine pm_ki d_X9_ticksOnce_103 ?_
    refine ps_iald (x := σ.1 328 3) d_X9_ticksOnce_104 at_328 a_8_1 (ps_in_of rfl) rfl ?_
    refine ps_topI (fun v28 ev28 => ?_)
    replace hK := ps_ltE ev28 hK
    refine pm_icmp_ge d_X9_ticksOnce_105 (fun c29 => ?_) (fun c29 => ?_)
    · replace hK := ps_ifT c29 hK
      exact ps_so hK
    · replace hK := ps_ifF c29 hK
      refine pm_ald d_X9_ticksOnce_108 rfl ?_
      refine ps_getI d_X9_ticksOnce_109 at_327 f_8_0_25 rfl ?_
      refine ps_topI (fun v30 ev30 => ?_)
      replace hK := ps_ltE ev30 hK
      refine pm_if_eq d_X9_ticksOnce_112 (fun c31 => ?_) (fun c31 => ?_)
      · replace hK := ps_ifT c31 hK
        exact ps_so hK
      · replace hK := ps_ifF c31 hK
        refine pm_ald d_X9_ticksOnce_115 rfl ?_
        refine pm_ald d_X9_ticksOnce_116 rfl ?_
        refine ps_getR (q := 335) d_X9_ticksOnce_117 at_327 f_8_0_19 rfl ?_
        refine pm_ki d_X9_ticksOnce_120 ?_
        refine ps_iald (x := σ.1 335 0) d_X9_ticksOnce_121 at_335 a_8_8 (ps_in_of rfl) rfl ?_
        refine ps_topI (fun v32 ev32 => ?_)
        replace hK := ps_ltE ev32 hK
        refine pm_ald d_X9_ticksOnce_122 rfl ?_
        refine ps_getR (q := 328) d_X9_ticksOnce_123 at_327 f_8_0_1 rfl ?_
        refine pm_ki d_X9_ticksOnce_126 ?_
        refine ps_iald (x := σ.1 328 3) d_X9_ticksOnce_127 at_328 a_8_1 (ps_in_of rfl) rfl ?_
        refine ps_topI (fun v33 ev33 => ?_)
        replace hK := ps_ltE ev33 hK
        by_cases z39 : v33 = 0
        · exact (ps_no (ps_ifT z39 hK)).elim
        replace hK := ps_ifF z39 hK
        refine pm_irem d_X9_ticksOnce_128 z39 ?_
        refine pm_ild d_X9_ticksOnce_129 rfl ?_
        refine pm_iadd d_X9_ticksOnce_130 ?_
        refine pm_ald d_X9_ticksOnce_131 rfl ?_
        refine ps_getR (q := 328) d_X9_ticksOnce_132 at_327 f_8_0_1 rfl ?_
        refine pm_ki d_X9_ticksOnce_135 ?_
        refine ps_iald (x := σ.1 328 3) d_X9_ticksOnce_136 at_328 a_8_1 (ps_in_of rfl) rfl ?_
        refine ps_topI (fun v34 ev34 => ?_)
        replace hK := ps_ltE ev34 hK
        by_cases z38 : v34 = 0
        · exact (ps_no (ps_ifT z38 hK)).elim
        replace hK := ps_ifF z38 hK
        refine pm_irem d_X9_ticksOnce_137 z38 ?_
        refine ps_cVV d_X9_ticksOnce_138 mv_X9_writes at_327 ob_8_0 rfl (As := [.int (((((v32 - v32 / v33 * v33)) + x1)) - ((((v32 - v32 / v33 * v33)) + x1)) / v34 * v34)]) rfl rfl (ps_room.of (by omega) (by decide)) (Nat.le_of_ble_eq_true rfl) (C_X9_writes ((((((v32 - v32 / v33 * v33)) + x1)) - ((((v32 - v32 / v33 * v33)) + x1)) / v34 * v34)) σ _ (ps_bdE hK)) ?_
        intro σ36 hT
        clear hK
        have hK := hT
        clear hT
        refine pm_inc1 d_X9_ticksOnce_141 rfl ?_
        obtain ⟨v37, ev37⟩ : ∃ y : Int32, y = x1 + 1 := ⟨_, rfl⟩
        rw [← ev37]
        replace hK := ps_ltE ev37 hK
        refine pm_goto d_X9_ticksOnce_144 ?_
        exact ih _ _ hK
def qX9_ticksOnce  (σ : ps_S) : Option (Unit × ps_S) :=
  ps_let (σ.1 335 0) fun v1 =>
  ps_let (ps_rI σ 335 (upd (σ.1 335) 0 ((v1 + 1)))) fun σ2 =>
  ps_bd (qX9_ticksOnce_12 ps_N 0 σ2) (fun res σ8 => match res with
  | v9 =>
    ps_bd (qX9_ticksOnce_35 ps_N 0 σ8) (fun res σ19 => match res with
    | v20 =>
      ps_bd (qX9_ticksOnce_75 ps_N 0 σ19) (fun res σ26 => match res with
      | v27 =>
        ps_bd (qX9_ticksOnce_98 ps_N 0 σ26) (fun res σ40 => match res with
        | v41 =>
          some ((), σ40)))))
set_option maxRecDepth 100000 in
theorem C_X9_ticksOnce {g : pm_G}  (σ : ps_S) (P : Unit → ps_S → Prop) (hK : ps_ok (qX9_ticksOnce  σ) P) : ps_C g mX9_ticksOnce 5 [.ref (g.2.2.1 + 327)] σ (ps_qV P) := by
  unfold qX9_ticksOnce at hK
  refine ps_C.of (ls := [some (.ref (g.2.2.1 + 327)), none]) 1 (by decide) rfl (Nat.le_of_ble_eq_true rfl) rfl ?_
  refine pm_ald d_X9_ticksOnce_0 rfl ?_
  refine ps_getR (q := 335) d_X9_ticksOnce_1 at_327 f_8_0_19 rfl ?_
  refine pm_ki d_X9_ticksOnce_4 ?_
  refine pm_dup2 d_X9_ticksOnce_5 rfl rfl ?_
  refine ps_iald (x := σ.1 335 0) d_X9_ticksOnce_6 at_335 a_8_8 (ps_in_of rfl) rfl ?_
  refine ps_topI (fun v1 ev1 => ?_)
  replace hK := ps_ltE ev1 hK
  refine pm_ki d_X9_ticksOnce_7 ?_
  refine pm_iadd d_X9_ticksOnce_8 ?_
  refine ps_iast d_X9_ticksOnce_9 at_335 a_8_8 (ps_in_of rfl) ?_
  refine ps_nmS (fun σ2 eσ2 => ?_)
  replace hK := ps_ltE eσ2 hK
  refine pm_ki d_X9_ticksOnce_10 ?_
  refine pm_ist1 d_X9_ticksOnce_11 rfl (by decide) ?_
  refine L_X9_ticksOnce_12 _ (by decide) _ _ _ (ps_ok.mono (ps_bdE hK) ?_)
  rintro v9 σ8 hT
  clear hK
  have hK := hT
  clear hT
  refine pm_ki d_X9_ticksOnce_33 ?_
  refine pm_ist1 d_X9_ticksOnce_34 rfl (by decide) ?_
  refine L_X9_ticksOnce_35 _ (by decide) _ _ _ (ps_ok.mono (ps_bdE hK) ?_)
  rintro v20 σ19 hT
  clear hK
  have hK := hT
  clear hT
  refine pm_ki d_X9_ticksOnce_73 ?_
  refine pm_ist1 d_X9_ticksOnce_74 rfl (by decide) ?_
  refine L_X9_ticksOnce_75 _ (by decide) _ _ _ (ps_ok.mono (ps_bdE hK) ?_)
  rintro v27 σ26 hT
  clear hK
  have hK := hT
  clear hT
  refine pm_ki d_X9_ticksOnce_96 ?_
  refine pm_ist1 d_X9_ticksOnce_97 rfl (by decide) ?_
  refine L_X9_ticksOnce_98 _ (by decide) _ _ _ (ps_ok.mono (ps_bdE hK) ?_)
  rintro v41 σ40 hT
  clear hK
  have hK := hT
  clear hT
  have hQ := ps_so hK
  exact ps_vret rfl d_X9_ticksOnce_147 ⟨rfl, hQ⟩
def qX9_ticksFor_2  (y1 : Int32) : Nat → Int32 → ps_S → Option (((Int32)) × ps_S)
  | 0, _, _ => none
  | n + 1, x2, σ =>
    if y1 ≤ x2 then
    some (x2, σ)
    else
    ps_bd (qX9_ticksOnce σ) (fun _ σ3 =>
    ps_let (x2 + 1) fun v4 =>
    qX9_ticksFor_2 y1 n v4 σ3)
set_option maxRecDepth 100000 in
theorem L_X9_ticksFor_2 {g : pm_G} (D : Nat) (hD : 6 ≤ D) {P : Unit → ps_S → Prop}  (y1 : Int32) : ∀ (n : Nat) (x2 : Int32) (σ : ps_S), ps_ok (qX9_ticksFor_2 y1 n x2 σ) (fun res σ => match res with | x2 => pm_W g mX9_ticksFor (ps_F g D (ps_qV P)) 0 0 17 [some (.ref (g.2.2.1 + 327)), some (.int y1), some (.int x2)] [] 345 (ps_E g σ)) → pm_W g mX9_ticksFor (ps_F g D (ps_qV P)) 0 0 2 [some (.ref (g.2.2.1 + 327)), some (.int y1), some (.int x2)] [] 345 (ps_E g σ) := by
  intro n
  induction n with
  | zero => intro x2 σ hK; exact (ps_no hK).elim
  | succ n ih =>
    intro x2 σ hK
    rw [qX9_ticksFor_2] at hK
    refine pm_ild d_X9_ticksFor_2 rfl ?_
    refine pm_ild d_X9_ticksFor_3 rfl ?_
    refine pm_icmp_ge d_X9_ticksFor_4 (fun c1 => ?_) (fun c1 => ?_)
    · replace hK := ps_ifT c1 hK
      exact ps_so hK
    · replace hK := ps_ifF c1 hK
      refine pm_ald d_X9_ticksFor_7 rfl ?_
      refine ps_cVV d_X9_ticksFor_8 mv_X9_ticksOnce at_327 ob_8_0 rfl (As := []) rfl rfl (ps_room.of (by omega) (by decide)) (Nat.le_of_ble_eq_true rfl) (C_X9_ticksOnce σ _ (ps_bdE hK)) ?_
      intro σ3 hT
      clear hK
      have hK := hT
      clear hT
      refine pm_inc2 d_X9_ticksFor_11 rfl ?_
      obtain ⟨v4, ev4⟩ : ∃ y : Int32, y = x2 + 1 := ⟨_, rfl⟩
      rw [← ev4]
      replace hK := ps_ltE ev4 hK
      refine pm_goto d_X9_ticksFor_14 ?_
      exact ih _ _ hK
def qX9_ticksFor (p1 : Int32) (σ : ps_S) : Option (Unit × ps_S) :=
  ps_bd (qX9_ticksFor_2 p1 ps_N 0 σ) (fun res σ5 => match res with
  | v6 =>
    some ((), σ5))
set_option maxRecDepth 100000 in
theorem C_X9_ticksFor {g : pm_G} (p1 : Int32) (σ : ps_S) (P : Unit → ps_S → Prop) (hK : ps_ok (qX9_ticksFor p1 σ) P) : ps_C g mX9_ticksFor 6 [.ref (g.2.2.1 + 327), .int p1] σ (ps_qV P) := by
  unfold qX9_ticksFor at hK
  refine ps_C.of (ls := [some (.ref (g.2.2.1 + 327)), some (.int p1), none]) 1 (by decide) rfl (Nat.le_of_ble_eq_true rfl) rfl ?_
  refine pm_ki d_X9_ticksFor_0 ?_
  refine pm_ist2 d_X9_ticksFor_1 rfl (by decide) ?_
  refine L_X9_ticksFor_2 _ (by decide) p1 _ _ _ (ps_ok.mono (ps_bdE hK) ?_)
  rintro v6 σ5 hT
  clear hK
  have hK := hT
  clear hT
  have hQ := ps_so hK
  exact ps_vret rfl d_X9_ticksFor_17 ⟨rfl, hQ⟩
def qX9_bears_35  (y1 : Int32) (y2 : Int32) : Nat → Int32 → ps_S → Option ((Int32 ⊕ (Int32)) × ps_S)
  | 0, _, _ => none
  | n + 1, x3, σ =>
    if x3 < 0 then
    some (.inr x3, σ)
    else
    ps_bd (qX9_begins σ) (fun _ σ10 =>
    if ps_in ((53 + y1)) 83 = true then
    ps_let (ps_rI σ10 335 (upd (σ10.1 335) ((53 + y1)).toNatClampNeg x3)) fun σ11 =>
    if ps_in ((77 + y1)) 83 = true then
    ps_let (σ11.1 335 ((77 + y1)).toNatClampNeg) fun v12 =>
    ps_bd (qX9_ticksFor y2 σ11) (fun _ σ14 =>
    if ps_in ((77 + y1)) 83 = true then
    ps_let (σ14.1 335 ((77 + y1)).toNatClampNeg) fun v15 =>
    if v15 = v12 then
    some (.inl x3, σ14)
    else
    ps_let (x3 + (-1)) fun v17 =>
    qX9_bears_35 y1 y2 n v17 σ14
    else none)
    else none
    else none)
set_option maxRecDepth 100000 in
theorem L_X9_bears_35 {g : pm_G} (D : Nat) (hD : 7 ≤ D) {P : Int32 → ps_S → Prop}  (y1 : Int32) (y2 : Int32) : ∀ (n : Nat) (x3 : Int32) (σ : ps_S), ps_ok (qX9_bears_35 y1 y2 n x3 σ) (fun res σ => match res with | .inl r => P r σ | .inr x3 => pm_W g mX9_bears (ps_F g D (ps_qI P)) 0 0 91 [some (.ref (g.2.2.1 + 327)), some (.int y1), some (.int y2), some (.int x3), none] [] 345 (ps_E g σ)) → pm_W g mX9_bears (ps_F g D (ps_qI P)) 0 0 35 [some (.ref (g.2.2.1 + 327)), some (.int y1), some (.int y2), some (.int x3), none] [] 345 (ps_E g σ) := by
  intro n
  induction n with
  | zero => intro x3 σ hK; exact (ps_no hK).elim
  | succ n ih =>
    intro x3 σ hK
    rw [qX9_bears_35] at hK
    refine pm_ild d_X9_bears_35 rfl ?_
    refine pm_if_lt d_X9_bears_36 (fun c8 => ?_) (fun c8 => ?_)
    · replace hK := ps_ifT c8 hK
      exact ps_so hK
    · replace hK := ps_ifF c8 hK
      refine pm_ald d_X9_bears_39 rfl ?_
      refine ps_cVV d_X9_bears_40 mv_X9_begins at_327 ob_8_0 rfl (As := []) rfl rfl (ps_room.of (by omega) (by decide)) (Nat.le_of_ble_eq_true rfl) (C_X9_begins σ _ (ps_bdE hK)) ?_
      intro σ10 hT
      clear hK
      have hK := hT
      clear hT
      refine pm_ald d_X9_bears_43 rfl ?_
      refine ps_getR (q := 335) d_X9_bears_44 at_327 f_8_0_19 rfl ?_
      refine pm_ki d_X9_bears_47 ?_
      refine pm_ild d_X9_bears_49 rfl ?_
      refine pm_iadd d_X9_bears_50 ?_
      refine pm_ild d_X9_bears_51 rfl ?_
      obtain ⟨b20, hT⟩ := ps_gd hK
      replace hK := hT
      clear hT
      refine ps_iast d_X9_bears_52 at_335 a_8_8 (ps_in_of b20) ?_
      refine ps_nmS (fun σ11 eσ11 => ?_)
      replace hK := ps_ltE eσ11 hK
      refine pm_ald d_X9_bears_53 rfl ?_
      refine ps_getR (q := 335) d_X9_bears_54 at_327 f_8_0_19 rfl ?_
      refine pm_ki d_X9_bears_57 ?_
      refine pm_ild d_X9_bears_59 rfl ?_
      refine pm_iadd d_X9_bears_60 ?_
      obtain ⟨b19, hT⟩ := ps_gd hK
      replace hK := hT
      clear hT
      refine ps_iald d_X9_bears_61 at_335 a_8_8 (ps_in_of b19) rfl ?_
      refine ps_topI (fun v12 ev12 => ?_)
      replace hK := ps_ltE ev12 hK
      refine pm_ist4 d_X9_bears_62 rfl (by decide) ?_
      refine pm_ald d_X9_bears_64 rfl ?_
      refine pm_ild d_X9_bears_65 rfl ?_
      refine ps_cVV d_X9_bears_66 mv_X9_ticksFor at_327 ob_8_0 rfl (As := [.int y2]) rfl rfl (ps_room.of (by omega) (by decide)) (Nat.le_of_ble_eq_true rfl) (C_X9_ticksFor y2 σ11 _ (ps_bdE hK)) ?_
      intro σ14 hT
      clear hK
      have hK := hT
      clear hT
      refine pm_ald d_X9_bears_69 rfl ?_
      refine ps_getR (q := 335) d_X9_bears_70 at_327 f_8_0_19 rfl ?_
      refine pm_ki d_X9_bears_73 ?_
      refine pm_ild d_X9_bears_75 rfl ?_
      refine pm_iadd d_X9_bears_76 ?_
      obtain ⟨b18, hT⟩ := ps_gd hK
      replace hK := hT
      clear hT
      refine ps_iald d_X9_bears_77 at_335 a_8_8 (ps_in_of b18) rfl ?_
      refine ps_topI (fun v15 ev15 => ?_)
      replace hK := ps_ltE ev15 hK
      refine pm_ild d_X9_bears_78 rfl ?_
      refine pm_icmp_ne d_X9_bears_80 (fun c16 => ?_) (fun c16 => ?_)
      · replace hK := ps_ifF c16 hK
        refine pm_inc3 d_X9_bears_85 rfl ?_
        obtain ⟨v17, ev17⟩ : ∃ y : Int32, y = x3 + (-1) := ⟨_, rfl⟩
        rw [← ev17]
        replace hK := ps_ltE ev17 hK
        refine pm_goto d_X9_bears_88 ?_
        refine pm_wk (ls' := [some (.ref (g.2.2.1 + 327)), some (.int y1), some (.int y2), some (.int v17), none]) ⟨rfl, ⟨rfl, ⟨rfl, ⟨rfl, trivial⟩⟩⟩⟩ ?_
        exact ih _ _ hK
      · replace hK := ps_ifT c16 hK
        refine pm_ild d_X9_bears_83 rfl ?_
        have hQ := ps_so hK
        exact ps_iret rfl d_X9_bears_84 ⟨_, rfl, hQ⟩
def qX9_bears (p1 : Int32) (p2 : Int32) (σ : ps_S) : Option (Int32 × ps_S) :=
  ps_let (ps_rI σ 327 (upd (σ.1 327) 0 0)) fun σ1 =>
  ps_bd (qX9_isWriter (((p1).toInt64)) σ1) (fun v2 σ3 =>
  if v2 = 0 then
  some ((-2), σ3)
  else
  ps_bd (qX9_within (((p2).toInt64)) 1 99 σ3) (fun v5 σ6 =>
  if v5 = 0 then
  some ((-3), σ6)
  else
  ps_bd (qX9_bears_35 p1 p2 ps_N 99 σ6) (fun res σ21 => match res with
  | .inl r => some (r, σ21)
  | .inr v22 =>
    some ((-1), σ21))))
set_option maxRecDepth 100000 in
theorem C_X9_bears {g : pm_G} (p1 : Int32) (p2 : Int32) (σ : ps_S) (P : Int32 → ps_S → Prop) (hK : ps_ok (qX9_bears p1 p2 σ) P) : ps_C g mX9_bears 7 [.ref (g.2.2.1 + 327), .int p1, .int p2] σ (ps_qI P) := by
  unfold qX9_bears at hK
  refine ps_C.of (ls := [some (.ref (g.2.2.1 + 327)), some (.int p1), some (.int p2), none, none]) 2 (by decide) rfl (Nat.le_of_ble_eq_true rfl) rfl ?_
  refine pm_ald d_X9_bears_0 rfl ?_
  refine pm_ki d_X9_bears_1 ?_
  refine ps_putI d_X9_bears_2 at_327 f_8_0_0 rfl rfl ?_
  refine ps_nmS (fun σ1 eσ1 => ?_)
  replace hK := ps_ltE eσ1 hK
  refine pm_ald d_X9_bears_5 rfl ?_
  refine pm_ild d_X9_bears_6 rfl ?_
  refine pm_i2l d_X9_bears_7 ?_
  refine ps_cVI d_X9_bears_8 mv_X9_isWriter at_327 ob_8_0 rfl (As := [.long ((p1).toInt64)]) rfl rfl (ps_room.of (by omega) (by decide)) (Nat.le_of_ble_eq_true rfl) (C_X9_isWriter (((p1).toInt64)) σ1 _ (ps_bdE hK)) ?_
  intro v2 σ3 hT
  clear hK
  have hK := hT
  clear hT
  refine pm_if_ne d_X9_bears_11 (fun c4 => ?_) (fun c4 => ?_)
  · replace hK := ps_ifF c4 hK
    refine pm_ild d_X9_bears_17 rfl ?_
    refine pm_i2l d_X9_bears_18 ?_
    refine pm_kl d_X9_bears_19 ?_
    refine pm_kl d_X9_bears_20 ?_
    refine ps_cSI d_X9_bears_23 ms_X9_within (As := [.long ((p2).toInt64), .long 1, .long 99]) rfl rfl (ps_room.of (by omega) (by decide)) (Nat.le_of_ble_eq_true rfl) (C_X9_within (((p2).toInt64)) 1 99 σ3 _ (ps_bdE hK)) ?_
    intro v5 σ6 hT
    clear hK
    have hK := hT
    clear hT
    refine pm_if_ne d_X9_bears_26 (fun c7 => ?_) (fun c7 => ?_)
    · replace hK := ps_ifF c7 hK
      refine pm_ki d_X9_bears_32 ?_
      refine pm_ist3 d_X9_bears_34 rfl (by decide) ?_
      refine L_X9_bears_35 _ (by decide) p1 p2 _ _ _ (ps_ok.mono (ps_bdE hK) ?_)
      intro res σ21 hT
      clear hK
      match res, hT with
      | .inl r, hT => exact ps_so hT
      | .inr v22, hT =>
        have hK := hT
        clear hT
        refine pm_ki d_X9_bears_91 ?_
        have hQ := ps_so hK
        exact ps_iret rfl d_X9_bears_92 ⟨_, rfl, hQ⟩
    · replace hK := ps_ifT c7 hK
      refine pm_ki d_X9_bears_29 ?_
      have hQ := ps_so hK
      exact ps_iret rfl d_X9_bears_31 ⟨_, rfl, hQ⟩
  · replace hK := ps_ifT c4 hK
    refine pm_ki d_X9_bears_14 ?_
    have hQ := ps_so hK
    exact ps_iret rfl d_X9_bears_16 ⟨_, rfl, hQ⟩
def qX9_isDevice (p1 : Int64) (σ : ps_S) : Option (Int32 × ps_S) :=
  ps_let (σ.1 328 1) fun v1 =>
  ps_bd (qX9_within p1 0 ((((v1 - 1)).toInt64)) σ) (fun v2 σ3 =>
  if ps_b01 v2 = true then some (v2, σ3) else none)
set_option maxRecDepth 100000 in
theorem C_X9_isDevice {g : pm_G} (p1 : Int64) (σ : ps_S) (P : Int32 → ps_S → Prop) (hK : ps_ok (qX9_isDevice p1 σ) P) : ps_C g mX9_isDevice 2 [.ref (g.2.2.1 + 327), .long p1] σ (ps_qI P) := by
  unfold qX9_isDevice at hK
  refine ps_C.of (ls := [some (.ref (g.2.2.1 + 327)), some (.long p1), none]) 0 (by decide) rfl (Nat.le_of_ble_eq_true rfl) rfl ?_
  refine pm_lld d_X9_isDevice_0 rfl ?_
  refine pm_kl d_X9_isDevice_1 ?_
  refine pm_ald d_X9_isDevice_2 rfl ?_
  refine ps_getR (q := 328) d_X9_isDevice_3 at_327 f_8_0_1 rfl ?_
  refine pm_ki d_X9_isDevice_6 ?_
  refine ps_iald (x := σ.1 328 1) d_X9_isDevice_7 at_328 a_8_1 (ps_in_of rfl) rfl ?_
  refine ps_topI (fun v1 ev1 => ?_)
  replace hK := ps_ltE ev1 hK
  refine pm_ki d_X9_isDevice_8 ?_
  refine pm_isub d_X9_isDevice_9 ?_
  refine pm_i2l d_X9_isDevice_10 ?_
  refine ps_cSI d_X9_isDevice_11 ms_X9_within (As := [.long p1, .long 0, .long (((v1 - 1)).toInt64)]) rfl rfl (ps_room.of (by omega) (by decide)) (Nat.le_of_ble_eq_true rfl) (C_X9_within p1 0 ((((v1 - 1)).toInt64)) σ _ (ps_bdE hK)) ?_
  intro v2 σ3 hT
  clear hK
  have hK := hT
  clear hT
  obtain ⟨b4, hT⟩ := ps_gd hK
  have hQ := ps_so hT
  exact ps_zret rfl (ps_nb b4) d_X9_isDevice_14 ⟨_, rfl, hQ⟩
def qX9_spanOf (p1 : Int32) (σ : ps_S) : Option (Int32 × ps_S) :=
  if ps_in ((45 + p1)) 83 = true then
  ps_let (σ.1 335 ((45 + p1)).toNatClampNeg) fun v1 =>
  ps_bd (qX9_ticksFor 10 σ) (fun _ σ3 =>
  if ps_in ((45 + p1)) 83 = true then
  ps_let (σ3.1 335 ((45 + p1)).toNatClampNeg) fun v4 =>
  some ((v4 - v1), σ3)
  else none)
  else none
set_option maxRecDepth 100000 in
theorem C_X9_spanOf {g : pm_G} (p1 : Int32) (σ : ps_S) (P : Int32 → ps_S → Prop) (hK : ps_ok (qX9_spanOf p1 σ) P) : ps_C g mX9_spanOf 7 [.ref (g.2.2.1 + 327), .int p1] σ (ps_qI P) := by
  unfold qX9_spanOf at hK
  refine ps_C.of (ls := [some (.ref (g.2.2.1 + 327)), some (.int p1), none]) 1 (by decide) rfl (Nat.le_of_ble_eq_true rfl) rfl ?_
  refine pm_ald d_X9_spanOf_0 rfl ?_
  refine ps_getR (q := 335) d_X9_spanOf_1 at_327 f_8_0_19 rfl ?_
  refine pm_ki d_X9_spanOf_4 ?_
  refine pm_ild d_X9_spanOf_6 rfl ?_
  refine pm_iadd d_X9_spanOf_7 ?_
  obtain ⟨b6, hT⟩ := ps_gd hK
  replace hK := hT
  clear hT
  refine ps_iald d_X9_spanOf_8 at_335 a_8_8 (ps_in_of b6) rfl ?_
  refine ps_topI (fun v1 ev1 => ?_)
  replace hK := ps_ltE ev1 hK
  refine pm_ist2 d_X9_spanOf_9 rfl (by decide) ?_
  refine pm_ald d_X9_spanOf_10 rfl ?_
  refine pm_ki d_X9_spanOf_11 ?_
  refine ps_cVV d_X9_spanOf_13 mv_X9_ticksFor at_327 ob_8_0 rfl (As := [.int 10]) rfl rfl (ps_room.of (by omega) (by decide)) (Nat.le_of_ble_eq_true rfl) (C_X9_ticksFor 10 σ _ (ps_bdE hK)) ?_
  intro σ3 hT
  clear hK
  have hK := hT
  clear hT
  refine pm_ald d_X9_spanOf_16 rfl ?_
  refine ps_getR (q := 335) d_X9_spanOf_17 at_327 f_8_0_19 rfl ?_
  refine pm_ki d_X9_spanOf_20 ?_
  refine pm_ild d_X9_spanOf_22 rfl ?_
  refine pm_iadd d_X9_spanOf_23 ?_
  obtain ⟨b5, hT⟩ := ps_gd hK
  replace hK := hT
  clear hT
  refine ps_iald d_X9_spanOf_24 at_335 a_8_8 (ps_in_of b5) rfl ?_
  refine ps_topI (fun v4 ev4 => ?_)
  replace hK := ps_ltE ev4 hK
  refine pm_ild d_X9_spanOf_25 rfl ?_
  refine pm_isub d_X9_spanOf_26 ?_
  have hQ := ps_so hK
  exact ps_iret rfl d_X9_spanOf_27 ⟨_, rfl, hQ⟩
def qX9_busiest_28  (y1 : Int32) : Nat → Int32 → Int32 → Int32 → ps_S → Option (((Int32 × Int32 × Int32)) × ps_S)
  | 0, _, _, _, _ => none
  | n + 1, x2, x3, x4, σ =>
    if 8 ≤ x4 then
    some ((x2, x3, x4), σ)
    else
    ps_bd (qX9_spanOf y1 σ) (fun v8 σ9 =>
    if x3 < v8 then
    ps_let (x4 + 1) fun v11 =>
    qX9_busiest_28 y1 n x4 v8 v11 σ9
    else
    ps_let (x4 + 1) fun v12 =>
    qX9_busiest_28 y1 n x2 x3 v12 σ9)
set_option maxRecDepth 100000 in
theorem L_X9_busiest_28 {g : pm_G} (D : Nat) (hD : 8 ≤ D) {P : Int32 → ps_S → Prop}  (y1 : Int32) : ∀ (n : Nat) (x2 : Int32) (x3 : Int32) (x4 : Int32) (σ : ps_S), ps_ok (qX9_busiest_28 y1 n x2 x3 x4 σ) (fun res σ => match res with | (x2, x3, x4) => pm_W g mX9_busiest (ps_F g D (ps_qI P)) 0 0 63 [some (.ref (g.2.2.1 + 327)), some (.int y1), some (.int x2), some (.int x3), some (.int x4), none] [] 345 (ps_E g σ)) → pm_W g mX9_busiest (ps_F g D (ps_qI P)) 0 0 28 [some (.ref (g.2.2.1 + 327)), some (.int y1), some (.int x2), some (.int x3), some (.int x4), none] [] 345 (ps_E g σ) := by
  intro n
  induction n with
  | zero => intro x2 x3 x4 σ hK; exact (ps_no hK).elim
  | succ n ih =>
    intro x2 x3 x4 σ hK
    rw [qX9_busiest_28] at hK
    refine pm_ild d_X9_busiest_28 rfl ?_
    refine pm_ki d_X9_busiest_30 ?_
    refine pm_icmp_ge d_X9_busiest_32 (fun c7 => ?_) (fun c7 => ?_)
    · replace hK := ps_ifT c7 hK
      exact ps_so hK
    · replace hK := ps_ifF c7 hK
      refine pm_ald d_X9_busiest_35 rfl ?_
      refine pm_ild d_X9_busiest_36 rfl ?_
      refine ps_cVI d_X9_busiest_37 mv_X9_spanOf at_327 ob_8_0 rfl (As := [.int y1]) rfl rfl (ps_room.of (by omega) (by decide)) (Nat.le_of_ble_eq_true rfl) (C_X9_spanOf y1 σ _ (ps_bdE hK)) ?_
      intro v8 σ9 hT
      clear hK
      have hK := hT
      clear hT
      refine pm_ist5 d_X9_busiest_40 rfl (by decide) ?_
      refine pm_ild d_X9_busiest_42 rfl ?_
      refine pm_ild d_X9_busiest_44 rfl ?_
      refine pm_icmp_gt d_X9_busiest_45 (fun c10 => ?_) (fun c10 => ?_)
      · replace hK := ps_ifT c10 hK
        refine pm_ild d_X9_busiest_51 rfl ?_
        refine pm_ist2 d_X9_busiest_53 rfl (by decide) ?_
        refine pm_ild d_X9_busiest_54 rfl ?_
        refine pm_ist3 d_X9_busiest_56 rfl (by decide) ?_
        refine pm_inc4 d_X9_busiest_57 rfl ?_
        obtain ⟨v11, ev11⟩ : ∃ y : Int32, y = x4 + 1 := ⟨_, rfl⟩
        rw [← ev11]
        replace hK := ps_ltE ev11 hK
        refine pm_goto d_X9_busiest_60 ?_
        refine pm_wk (ls' := [some (.ref (g.2.2.1 + 327)), some (.int y1), some (.int x4), some (.int v8), some (.int v11), none]) ⟨rfl, ⟨rfl, ⟨rfl, ⟨rfl, ⟨rfl, trivial⟩⟩⟩⟩⟩ ?_
        exact ih _ _ _ _ hK
      · replace hK := ps_ifF c10 hK
        refine pm_goto d_X9_busiest_48 ?_
        refine pm_inc4 d_X9_busiest_57 rfl ?_
        obtain ⟨v12, ev12⟩ : ∃ y : Int32, y = x4 + 1 := ⟨_, rfl⟩
        rw [← ev12]
        replace hK := ps_ltE ev12 hK
        refine pm_goto d_X9_busiest_60 ?_
        refine pm_wk (ls' := [some (.ref (g.2.2.1 + 327)), some (.int y1), some (.int x2), some (.int x3), some (.int v12), none]) ⟨rfl, ⟨rfl, ⟨rfl, ⟨rfl, ⟨rfl, trivial⟩⟩⟩⟩⟩ ?_
        exact ih _ _ _ _ hK
def qX9_busiest (p1 : Int32) (σ : ps_S) : Option (Int32 × ps_S) :=
  ps_let (ps_rI σ 327 (upd (σ.1 327) 0 0)) fun σ1 =>
  ps_bd (qX9_isDevice (((p1).toInt64)) σ1) (fun v2 σ3 =>
  if v2 = 0 then
  some ((-2), σ3)
  else
  ps_bd (qX9_begins σ3) (fun _ σ6 =>
  ps_bd (qX9_busiest_28 p1 ps_N 0 ((-1)) 0 σ6) (fun res σ13 => match res with
  | (v14, v15, v16) =>
    some (v14, σ13))))
set_option maxRecDepth 100000 in
theorem C_X9_busiest {g : pm_G} (p1 : Int32) (σ : ps_S) (P : Int32 → ps_S → Prop) (hK : ps_ok (qX9_busiest p1 σ) P) : ps_C g mX9_busiest 8 [.ref (g.2.2.1 + 327), .int p1] σ (ps_qI P) := by
  unfold qX9_busiest at hK
  refine ps_C.of (ls := [some (.ref (g.2.2.1 + 327)), some (.int p1), none, none, none, none]) 4 (by decide) rfl (Nat.le_of_ble_eq_true rfl) rfl ?_
  refine pm_ald d_X9_busiest_0 rfl ?_
  refine pm_ki d_X9_busiest_1 ?_
  refine ps_putI d_X9_busiest_2 at_327 f_8_0_0 rfl rfl ?_
  refine ps_nmS (fun σ1 eσ1 => ?_)
  replace hK := ps_ltE eσ1 hK
  refine pm_ald d_X9_busiest_5 rfl ?_
  refine pm_ild d_X9_busiest_6 rfl ?_
  refine pm_i2l d_X9_busiest_7 ?_
  refine ps_cVI d_X9_busiest_8 mv_X9_isDevice at_327 ob_8_0 rfl (As := [.long ((p1).toInt64)]) rfl rfl (ps_room.of (by omega) (by decide)) (Nat.le_of_ble_eq_true rfl) (C_X9_isDevice (((p1).toInt64)) σ1 _ (ps_bdE hK)) ?_
  intro v2 σ3 hT
  clear hK
  have hK := hT
  clear hT
  refine pm_if_ne d_X9_busiest_11 (fun c4 => ?_) (fun c4 => ?_)
  · replace hK := ps_ifF c4 hK
    refine pm_ald d_X9_busiest_17 rfl ?_
    refine ps_cVV d_X9_busiest_18 mv_X9_begins at_327 ob_8_0 rfl (As := []) rfl rfl (ps_room.of (by omega) (by decide)) (Nat.le_of_ble_eq_true rfl) (C_X9_begins σ3 _ (ps_bdE hK)) ?_
    intro σ6 hT
    clear hK
    have hK := hT
    clear hT
    refine pm_ki d_X9_busiest_21 ?_
    refine pm_ist2 d_X9_busiest_22 rfl (by decide) ?_
    refine pm_ki d_X9_busiest_23 ?_
    refine pm_ist3 d_X9_busiest_24 rfl (by decide) ?_
    refine pm_ki d_X9_busiest_25 ?_
    refine pm_ist4 d_X9_busiest_26 rfl (by decide) ?_
    refine L_X9_busiest_28 _ (by decide) p1 _ _ _ _ _ (ps_ok.mono (ps_bdE hK) ?_)
    rintro ⟨v14, v15, v16⟩ σ13 hT
    clear hK
    have hK := hT
    clear hT
    refine pm_ild d_X9_busiest_63 rfl ?_
    have hQ := ps_so hK
    exact ps_iret rfl d_X9_busiest_64 ⟨_, rfl, hQ⟩
  · replace hK := ps_ifT c4 hK
    refine pm_ki d_X9_busiest_14 ?_
    have hQ := ps_so hK
    exact ps_iret rfl d_X9_busiest_16 ⟨_, rfl, hQ⟩
def qX9_goesLots_51 (rec : Nat → Int32 → Int32 → Int64 → ps_S → Option (Unit × ps_S))  (y1 : Int32) (y2 : Int32) (y3 : Int64) (y5 : Int32) : Nat → Int32 → ps_S → Option (((Int32)) × ps_S)
  | 0, _, _ => none
  | n + 1, x6, σ =>
    if 83 ≤ x6 then
    some (x6, σ)
    else
    if ps_in x6 83 = true then
    ps_let (σ.1 335 (x6).toNatClampNeg) fun v4 =>
    if ps_in ((((83 * y5)) + x6)) 249 = true then
    ps_let (ps_rI σ 340 (upd (σ.1 340) ((((83 * y5)) + x6)).toNatClampNeg v4)) fun σ5 =>
    ps_let (x6 + 1) fun v6 =>
    qX9_goesLots_51 rec y1 y2 y3 y5 n v6 σ5
    else none
    else none
set_option maxRecDepth 100000 in
theorem L_X9_goesLots_51 {g : pm_G} (D : Nat) (hD : 7 ≤ D) {P : Unit → ps_S → Prop} (rec : Nat → Int32 → Int32 → Int64 → ps_S → Option (Unit × ps_S)) (D0 : Nat) (hD0 : D0 < D) (hrec_X9_goesLots : ∀ (p1 : Int32) (p2 : Int32) (p3 : Int64) (σ : ps_S) (P : Unit → ps_S → Prop), ps_ok (rec 0 p1 p2 p3 σ) P → ps_C g mX9_goesLots D0 [.ref (g.2.2.1 + 327), .int p1, .int p2, .long p3] σ (ps_qV P))  (y1 : Int32) (y2 : Int32) (y3 : Int64) (y5 : Int32) : ∀ (n : Nat) (x6 : Int32) (σ : ps_S), ps_ok (qX9_goesLots_51 rec y1 y2 y3 y5 n x6 σ) (fun res σ => match res with | x6 => pm_W g mX9_goesLots (ps_F g D (ps_qV P)) 0 0 84 [some (.ref (g.2.2.1 + 327)), some (.int y1), some (.int y2), some (.long y3), none, some (.int y5), some (.int x6), none] [] 345 (ps_E g σ)) → pm_W g mX9_goesLots (ps_F g D (ps_qV P)) 0 0 51 [some (.ref (g.2.2.1 + 327)), some (.int y1), some (.int y2), some (.long y3), none, some (.int y5), some (.int x6), none] [] 345 (ps_E g σ) := by
  intro n
  induction n with
  | zero => intro x6 σ hK; exact (ps_no hK).elim
  | succ n ih =>
    intro x6 σ hK
    rw [qX9_goesLots_51] at hK
    refine pm_ild d_X9_goesLots_51 rfl ?_
    refine pm_ki d_X9_goesLots_53 ?_
    refine pm_icmp_ge d_X9_goesLots_55 (fun c3 => ?_) (fun c3 => ?_)
    · replace hK := ps_ifT c3 hK
      exact ps_so hK
    · replace hK := ps_ifF c3 hK
      refine pm_ald d_X9_goesLots_58 rfl ?_
      refine ps_getR (q := 340) d_X9_goesLots_59 at_327 f_8_0_31 rfl ?_
      refine pm_ki d_X9_goesLots_62 ?_
      refine pm_ild d_X9_goesLots_64 rfl ?_
      refine pm_imul d_X9_goesLots_66 ?_
      refine pm_ild d_X9_goesLots_67 rfl ?_
      refine pm_iadd d_X9_goesLots_69 ?_
      refine pm_ald d_X9_goesLots_70 rfl ?_
      refine ps_getR (q := 335) d_X9_goesLots_71 at_327 f_8_0_19 rfl ?_
      refine pm_ild d_X9_goesLots_74 rfl ?_
      obtain ⟨b8, hT⟩ := ps_gd hK
      replace hK := hT
      clear hT
      refine ps_iald d_X9_goesLots_76 at_335 a_8_8 (ps_in_of b8) rfl ?_
      refine ps_topI (fun v4 ev4 => ?_)
      replace hK := ps_ltE ev4 hK
      obtain ⟨b7, hT⟩ := ps_gd hK
      replace hK := hT
      clear hT
      refine ps_iast d_X9_goesLots_77 at_340 a_8_13 (ps_in_of b7) ?_
      refine ps_nmS (fun σ5 eσ5 => ?_)
      replace hK := ps_ltE eσ5 hK
      refine pm_inc6 d_X9_goesLots_78 rfl ?_
      obtain ⟨v6, ev6⟩ : ∃ y : Int32, y = x6 + 1 := ⟨_, rfl⟩
      rw [← ev6]
      replace hK := ps_ltE ev6 hK
      refine pm_goto d_X9_goesLots_81 ?_
      exact ih _ _ hK
def qX9_goesLots_87 (rec : Nat → Int32 → Int32 → Int64 → ps_S → Option (Unit × ps_S))  (y1 : Int32) (y2 : Int32) (y3 : Int64) (y5 : Int32) : Nat → Int32 → ps_S → Option (((Int32)) × ps_S)
  | 0, _, _ => none
  | n + 1, x6, σ =>
    if 4 ≤ x6 then
    some (x6, σ)
    else
    if ps_in x6 4 = true then
    ps_let (σ.2.2 336 (x6).toNatClampNeg) fun v12 =>
    if ps_in ((((4 * y5)) + x6)) 12 = true then
    ps_let (ps_rD σ 341 (vf_upd (σ.2.2 341) ((((4 * y5)) + x6)).toNatClampNeg v12)) fun σ13 =>
    ps_let (x6 + 1) fun v14 =>
    qX9_goesLots_87 rec y1 y2 y3 y5 n v14 σ13
    else none
    else none
set_option maxRecDepth 100000 in
theorem L_X9_goesLots_87 {g : pm_G} (D : Nat) (hD : 7 ≤ D) {P : Unit → ps_S → Prop} (rec : Nat → Int32 → Int32 → Int64 → ps_S → Option (Unit × ps_S)) (D0 : Nat) (hD0 : D0 < D) (hrec_X9_goesLots : ∀ (p1 : Int32) (p2 : Int32) (p3 : Int64) (σ : ps_S) (P : Unit → ps_S → Prop), ps_ok (rec 0 p1 p2 p3 σ) P → ps_C g mX9_goesLots D0 [.ref (g.2.2.1 + 327), .int p1, .int p2, .long p3] σ (ps_qV P))  (y1 : Int32) (y2 : Int32) (y3 : Int64) (y5 : Int32) : ∀ (n : Nat) (x6 : Int32) (σ : ps_S), ps_ok (qX9_goesLots_87 rec y1 y2 y3 y5 n x6 σ) (fun res σ => match res with | x6 => pm_W g mX9_goesLots (ps_F g D (ps_qV P)) 0 0 118 [some (.ref (g.2.2.1 + 327)), some (.int y1), some (.int y2), some (.long y3), none, some (.int y5), some (.int x6), none] [] 345 (ps_E g σ)) → pm_W g mX9_goesLots (ps_F g D (ps_qV P)) 0 0 87 [some (.ref (g.2.2.1 + 327)), some (.int y1), some (.int y2), some (.long y3), none, some (.int y5), some (.int x6), none] [] 345 (ps_E g σ) := by
  intro n
  induction n with
  | zero => intro x6 σ hK; exact (ps_no hK).elim
  | succ n ih =>
    intro x6 σ hK
    rw [qX9_goesLots_87] at hK
    refine pm_ild d_X9_goesLots_87 rfl ?_
    refine pm_ki d_X9_goesLots_89 ?_
    refine pm_icmp_ge d_X9_goesLots_90 (fun c11 => ?_) (fun c11 => ?_)
    · replace hK := ps_ifT c11 hK
      exact ps_so hK
    · replace hK := ps_ifF c11 hK
      refine pm_ald d_X9_goesLots_93 rfl ?_
      refine ps_getR (q := 341) d_X9_goesLots_94 at_327 f_8_0_32 rfl ?_
      refine pm_ki d_X9_goesLots_97 ?_
      refine pm_ild d_X9_goesLots_98 rfl ?_
      refine pm_imul d_X9_goesLots_100 ?_
      refine pm_ild d_X9_goesLots_101 rfl ?_
      refine pm_iadd d_X9_goesLots_103 ?_
      refine pm_ald d_X9_goesLots_104 rfl ?_
      refine ps_getR (q := 336) d_X9_goesLots_105 at_327 f_8_0_20 rfl ?_
      refine pm_ild d_X9_goesLots_108 rfl ?_
      obtain ⟨b16, hT⟩ := ps_gd hK
      replace hK := hT
      clear hT
      refine ps_dald d_X9_goesLots_110 at_336 a_8_9 (ps_in_of b16) rfl ?_
      refine ps_topD (fun v12 ev12 => ?_)
      replace hK := ps_ltE ev12 hK
      obtain ⟨b15, hT⟩ := ps_gd hK
      replace hK := hT
      clear hT
      refine ps_dast d_X9_goesLots_111 at_341 a_8_14 (ps_in_of b15) ?_
      refine ps_nmS (fun σ13 eσ13 => ?_)
      replace hK := ps_ltE eσ13 hK
      refine pm_inc6 d_X9_goesLots_112 rfl ?_
      obtain ⟨v14, ev14⟩ : ∃ y : Int32, y = x6 + 1 := ⟨_, rfl⟩
      rw [← ev14]
      replace hK := ps_ltE ev14 hK
      refine pm_goto d_X9_goesLots_115 ?_
      exact ih _ _ hK
def qX9_goesLots_181 (rec : Nat → Int32 → Int32 → Int64 → ps_S → Option (Unit × ps_S))  (y1 : Int32) (y2 : Int32) (y3 : Int64) (y5 : Int32) (y6 : Int32) : Nat → Int32 → ps_S → Option (((Int32)) × ps_S)
  | 0, _, _ => none
  | n + 1, x7, σ =>
    if 83 ≤ x7 then
    some (x7, σ)
    else
    if ps_in ((((83 * y5)) + x7)) 249 = true then
    ps_let (σ.1 340 ((((83 * y5)) + x7)).toNatClampNeg) fun v30 =>
    if ps_in x7 83 = true then
    ps_let (ps_rI σ 335 (upd (σ.1 335) (x7).toNatClampNeg v30)) fun σ31 =>
    ps_let (x7 + 1) fun v32 =>
    qX9_goesLots_181 rec y1 y2 y3 y5 y6 n v32 σ31
    else none
    else none
set_option maxRecDepth 100000 in
theorem L_X9_goesLots_181 {g : pm_G} (D : Nat) (hD : 7 ≤ D) {P : Unit → ps_S → Prop} (rec : Nat → Int32 → Int32 → Int64 → ps_S → Option (Unit × ps_S)) (D0 : Nat) (hD0 : D0 < D) (hrec_X9_goesLots : ∀ (p1 : Int32) (p2 : Int32) (p3 : Int64) (σ : ps_S) (P : Unit → ps_S → Prop), ps_ok (rec 0 p1 p2 p3 σ) P → ps_C g mX9_goesLots D0 [.ref (g.2.2.1 + 327), .int p1, .int p2, .long p3] σ (ps_qV P))  (y1 : Int32) (y2 : Int32) (y3 : Int64) (y5 : Int32) (y6 : Int32) : ∀ (n : Nat) (x7 : Int32) (σ : ps_S), ps_ok (qX9_goesLots_181 rec y1 y2 y3 y5 y6 n x7 σ) (fun res σ => match res with | x7 => pm_W g mX9_goesLots (ps_F g D (ps_qV P)) 0 0 214 [some (.ref (g.2.2.1 + 327)), some (.int y1), some (.int y2), some (.long y3), none, some (.int y5), some (.int y6), some (.int x7)] [] 345 (ps_E g σ)) → pm_W g mX9_goesLots (ps_F g D (ps_qV P)) 0 0 181 [some (.ref (g.2.2.1 + 327)), some (.int y1), some (.int y2), some (.long y3), none, some (.int y5), some (.int y6), some (.int x7)] [] 345 (ps_E g σ) := by
  intro n
  induction n with
  | zero => intro x7 σ hK; exact (ps_no hK).elim
  | succ n ih =>
    intro x7 σ hK
    rw [qX9_goesLots_181] at hK
    refine pm_ild d_X9_goesLots_181 rfl ?_
    refine pm_ki d_X9_goesLots_183 ?_
    refine pm_icmp_ge d_X9_goesLots_185 (fun c29 => ?_) (fun c29 => ?_)
    · replace hK := ps_ifT c29 hK
      exact ps_so hK
    · replace hK := ps_ifF c29 hK
      refine pm_ald d_X9_goesLots_188 rfl ?_
      refine ps_getR (q := 335) d_X9_goesLots_189 at_327 f_8_0_19 rfl ?_
      refine pm_ild d_X9_goesLots_192 rfl ?_
      refine pm_ald d_X9_goesLots_194 rfl ?_
      refine ps_getR (q := 340) d_X9_goesLots_195 at_327 f_8_0_31 rfl ?_
      refine pm_ki d_X9_goesLots_198 ?_
      refine pm_ild d_X9_goesLots_200 rfl ?_
      refine pm_imul d_X9_goesLots_202 ?_
      refine pm_ild d_X9_goesLots_203 rfl ?_
      refine pm_iadd d_X9_goesLots_205 ?_
      obtain ⟨b34, hT⟩ := ps_gd hK
      replace hK := hT
      clear hT
      refine ps_iald d_X9_goesLots_206 at_340 a_8_13 (ps_in_of b34) rfl ?_
      refine ps_topI (fun v30 ev30 => ?_)
      replace hK := ps_ltE ev30 hK
      obtain ⟨b33, hT⟩ := ps_gd hK
      replace hK := hT
      clear hT
      refine ps_iast d_X9_goesLots_207 at_335 a_8_8 (ps_in_of b33) ?_
      refine ps_nmS (fun σ31 eσ31 => ?_)
      replace hK := ps_ltE eσ31 hK
      refine pm_inc7 d_X9_goesLots_208 rfl ?_
      obtain ⟨v32, ev32⟩ : ∃ y : Int32, y = x7 + 1 := ⟨_, rfl⟩
      rw [← ev32]
      replace hK := ps_ltE ev32 hK
      refine pm_goto d_X9_goesLots_211 ?_
      exact ih _ _ hK
def qX9_goesLots_217 (rec : Nat → Int32 → Int32 → Int64 → ps_S → Option (Unit × ps_S))  (y1 : Int32) (y2 : Int32) (y3 : Int64) (y5 : Int32) (y6 : Int32) : Nat → Int32 → ps_S → Option (((Int32)) × ps_S)
  | 0, _, _ => none
  | n + 1, x7, σ =>
    if 4 ≤ x7 then
    some (x7, σ)
    else
    if ps_in ((((4 * y5)) + x7)) 12 = true then
    ps_let (σ.2.2 341 ((((4 * y5)) + x7)).toNatClampNeg) fun v38 =>
    if ps_in x7 4 = true then
    ps_let (ps_rD σ 336 (vf_upd (σ.2.2 336) (x7).toNatClampNeg v38)) fun σ39 =>
    ps_let (x7 + 1) fun v40 =>
    qX9_goesLots_217 rec y1 y2 y3 y5 y6 n v40 σ39
    else none
    else none
set_option maxRecDepth 100000 in
theorem L_X9_goesLots_217 {g : pm_G} (D : Nat) (hD : 7 ≤ D) {P : Unit → ps_S → Prop} (rec : Nat → Int32 → Int32 → Int64 → ps_S → Option (Unit × ps_S)) (D0 : Nat) (hD0 : D0 < D) (hrec_X9_goesLots : ∀ (p1 : Int32) (p2 : Int32) (p3 : Int64) (σ : ps_S) (P : Unit → ps_S → Prop), ps_ok (rec 0 p1 p2 p3 σ) P → ps_C g mX9_goesLots D0 [.ref (g.2.2.1 + 327), .int p1, .int p2, .long p3] σ (ps_qV P))  (y1 : Int32) (y2 : Int32) (y3 : Int64) (y5 : Int32) (y6 : Int32) : ∀ (n : Nat) (x7 : Int32) (σ : ps_S), ps_ok (qX9_goesLots_217 rec y1 y2 y3 y5 y6 n x7 σ) (fun res σ => match res with | x7 => pm_W g mX9_goesLots (ps_F g D (ps_qV P)) 0 0 248 [some (.ref (g.2.2.1 + 327)), some (.int y1), some (.int y2), some (.long y3), none, some (.int y5), some (.int y6), some (.int x7)] [] 345 (ps_E g σ)) → pm_W g mX9_goesLots (ps_F g D (ps_qV P)) 0 0 217 [some (.ref (g.2.2.1 + 327)), some (.int y1), some (.int y2), some (.long y3), none, some (.int y5), some (.int y6), some (.int x7)] [] 345 (ps_E g σ) := by
  intro n
  induction n with
  | zero => intro x7 σ hK; exact (ps_no hK).elim
  | succ n ih =>
    intro x7 σ hK
    rw [qX9_goesLots_217] at hK
    refine pm_ild d_X9_goesLots_217 rfl ?_
    refine pm_ki d_X9_goesLots_219 ?_
    refine pm_icmp_ge d_X9_goesLots_220 (fun c37 => ?_) (fun c37 => ?_)
    · replace hK := ps_ifT c37 hK
      exact ps_so hK
    · replace hK := ps_ifF c37 hK
      refine pm_ald d_X9_goesLots_223 rfl ?_
      refine ps_getR (q := 336) d_X9_goesLots_224 at_327 f_8_0_20 rfl ?_
      refine pm_ild d_X9_goesLots_227 rfl ?_
      refine pm_ald d_X9_goesLots_229 rfl ?_
      refine ps_getR (q := 341) d_X9_goesLots_230 at_327 f_8_0_32 rfl ?_
      refine pm_ki d_X9_goesLots_233 ?_
      refine pm_ild d_X9_goesLots_234 rfl ?_
      refine pm_imul d_X9_goesLots_236 ?_
      refine pm_ild d_X9_goesLots_237 rfl ?_
      refine pm_iadd d_X9_goesLots_239 ?_
      obtain ⟨b42, hT⟩ := ps_gd hK
      replace hK := hT
      clear hT
      refine ps_dald d_X9_goesLots_240 at_341 a_8_14 (ps_in_of b42) rfl ?_
      refine ps_topD (fun v38 ev38 => ?_)
      replace hK := ps_ltE ev38 hK
      obtain ⟨b41, hT⟩ := ps_gd hK
      replace hK := hT
      clear hT
      refine ps_dast d_X9_goesLots_241 at_336 a_8_9 (ps_in_of b41) ?_
      refine ps_nmS (fun σ39 eσ39 => ?_)
      replace hK := ps_ltE eσ39 hK
      refine pm_inc7 d_X9_goesLots_242 rfl ?_
      obtain ⟨v40, ev40⟩ : ∃ y : Int32, y = x7 + 1 := ⟨_, rfl⟩
      rw [← ev40]
      replace hK := ps_ltE ev40 hK
      refine pm_goto d_X9_goesLots_245 ?_
      exact ih _ _ hK
def qX9_goesLots_121 (rec : Nat → Int32 → Int32 → Int64 → ps_S → Option (Unit × ps_S))  (y1 : Int32) (y2 : Int32) (y3 : Int64) (y5 : Int32) : Nat → Int32 → ps_S → Option (((Int32)) × ps_S)
  | 0, _, _ => none
  | n + 1, x6, σ =>
    ps_let (σ.1 328 1) fun v19 =>
    if v19 < x6 then
    some (x6, σ)
    else
    ps_let (ps_rI σ 327 (upd (σ.1 327) 22 x6)) fun σ21 =>
    ps_bd (qX9_ticksFor 10 σ21) (fun _ σ23 =>
    ps_let (σ23.1 328 1) fun v24 =>
    if v24 ≤ x6 then
    ps_let (σ23.1 328 1) fun v26 =>
    ps_bd (rec 0 y1 y5 ((y3 * ((((10 - v26)).toInt64)))) σ23) (fun _ σ28 =>
    ps_bd (qX9_goesLots_181 rec y1 y2 y3 y5 x6 ps_N 0 σ28) (fun res σ35 => match res with
    | v36 =>
      ps_bd (qX9_goesLots_217 rec y1 y2 y3 y5 x6 ps_N 0 σ35) (fun res σ43 => match res with
      | v44 =>
        ps_let (x6 + 1) fun v45 =>
        qX9_goesLots_121 rec y1 y2 y3 y5 n v45 σ43)))
    else
    ps_bd (rec 0 y1 y5 y3 σ23) (fun _ σ47 =>
    ps_bd (qX9_goesLots_181 rec y1 y2 y3 y5 x6 ps_N 0 σ47) (fun res σ48 => match res with
    | v49 =>
      ps_bd (qX9_goesLots_217 rec y1 y2 y3 y5 x6 ps_N 0 σ48) (fun res σ50 => match res with
      | v51 =>
        ps_let (x6 + 1) fun v52 =>
        qX9_goesLots_121 rec y1 y2 y3 y5 n v52 σ50))))
set_option maxRecDepth 100000 in
theorem L_X9_goesLots_121 {g : pm_G} (D : Nat) (hD : 7 ≤ D) {P : Unit → ps_S → Prop} (rec : Nat → Int32 → Int32 → Int64 → ps_S → Option (Unit × ps_S)) (D0 : Nat) (hD0 : D0 < D) (hrec_X9_goesLots : ∀ (p1 : Int32) (p2 : Int32) (p3 : Int64) (σ : ps_S) (P : Unit → ps_S → Prop), ps_ok (rec 0 p1 p2 p3 σ) P → ps_C g mX9_goesLots D0 [.ref (g.2.2.1 + 327), .int p1, .int p2, .long p3] σ (ps_qV P))  (y1 : Int32) (y2 : Int32) (y3 : Int64) (y5 : Int32) : ∀ (n : Nat) (x6 : Int32) (σ : ps_S), ps_ok (qX9_goesLots_121 rec y1 y2 y3 y5 n x6 σ) (fun res σ => match res with | x6 => pm_W g mX9_goesLots (ps_F g D (ps_qV P)) 0 0 254 [some (.ref (g.2.2.1 + 327)), some (.int y1), some (.int y2), some (.long y3), none, some (.int y5), some (.int x6), none] [] 345 (ps_E g σ)) → pm_W g mX9_goesLots (ps_F g D (ps_qV P)) 0 0 121 [some (.ref (g.2.2.1 + 327)), some (.int y1), some (.int y2), some (.long y3), none, some (.int y5), some (.int x6), none] [] 345 (ps_E g σ) := by
  intro n
  induction n with
  | zero => intro x6 σ hK; exact (ps_no hK).elim
  | succ n ih =>
    intro x6 σ hK
    rw [qX9_goesLots_121] at hK
    refine pm_ild d_X9_goesLots_121 rfl ?_
    refine pm_ald d_X9_goesLots_123 rfl ?_
    refine ps_getR (q := 328) d_X9_goesLots_124 at_327 f_8_0_1 rfl ?_
    refine pm_ki d_X9_goesLots_127 ?_
    refine ps_iald (x := σ.1 328 1) d_X9_goesLots_128 at_328 a_8_1 (ps_in_of rfl) rfl ?_
    refine ps_topI (fun v19 ev19 => ?_)
    replace hK := ps_ltE ev19 hK
    refine pm_icmp_gt d_X9_goesLots_129 (fun c20 => ?_) (fun c20 => ?_)
    · replace hK := ps_ifT c20 hK
      exact ps_so hK
    · replace hK := ps_ifF c20 hK
      refine pm_ald d_X9_goesLots_132 rfl ?_
      refine pm_ild d_X9_goesLots_133 rfl ?_
      refine ps_putI d_X9_goesLots_135 at_327 f_8_0_22 rfl rfl ?_
      refine ps_nmS (fun σ21 eσ21 => ?_)
      replace hK := ps_ltE eσ21 hK
      refine pm_ald d_X9_goesLots_138 rfl ?_
      refine pm_ki d_X9_goesLots_139 ?_
      refine ps_cVV d_X9_goesLots_141 mv_X9_ticksFor at_327 ob_8_0 rfl (As := [.int 10]) rfl rfl (ps_room.of (by omega) (by decide)) (Nat.le_of_ble_eq_true rfl) (C_X9_ticksFor 10 σ21 _ (ps_bdE hK)) ?_
      intro σ23 hT
      clear hK
      have hK := hT
      clear hT
      refine pm_ald d_X9_goesLots_144 rfl ?_
      refine pm_ild d_X9_goesLots_145 rfl ?_
      refine pm_ild d_X9_goesLots_146 rfl ?_
      refine pm_ild d_X9_goesLots_148 rfl ?_
      refine pm_ald d_X9_goesLots_150 rfl ?_
      refine ps_getR (q := 328) d_X9_goesLots_151 at_327 f_8_0_1 rfl ?_
      refine pm_ki d_X9_goesLots_154 ?_
      refine ps_iald (x := σ23.1 328 1) d_X9_goesLots_155 at_328 a_8_1 (ps_in_of rfl) rfl ?_
      refine ps_topI (fun v24 ev24 => ?_)
      replace hK := ps_ltE ev24 hK
      refine pm_icmp_ge d_X9_goesLots_156 (fun c25 => ?_) (fun c25 => ?_)
      · replace hK := ps_ifT c25 hK
        refine pm_lld d_X9_goesLots_163 rfl ?_
        refine pm_ki d_X9_goesLots_164 ?_
        refine pm_ald d_X9_goesLots_166 rfl ?_
        refine ps_getR (q := 328) d_X9_goesLots_167 at_327 f_8_0_1 rfl ?_
        refine pm_ki d_X9_goesLots_170 ?_
        refine ps_iald (x := σ23.1 328 1) d_X9_goesLots_171 at_328 a_8_1 (ps_in_of rfl) rfl ?_
        refine ps_topI (fun v26 ev26 => ?_)
        replace hK := ps_ltE ev26 hK
        refine pm_isub d_X9_goesLots_172 ?_
        refine pm_i2l d_X9_goesLots_173 ?_
        refine pm_lmul d_X9_goesLots_174 ?_
        refine ps_cVV d_X9_goesLots_175 mv_X9_goesLots at_327 ob_8_0 rfl (As := [.int y1, .int y5, .long (y3 * ((((10 - v26)).toInt64)))]) rfl rfl (ps_room.of (by omega) (by decide)) (Nat.le_of_ble_eq_true rfl) (hrec_X9_goesLots y1 y5 ((y3 * ((((10 - v26)).toInt64)))) σ23 _ (ps_bdE hK)) ?_
        intro σ28 hT
        clear hK
        have hK := hT
        clear hT
        refine pm_ki d_X9_goesLots_178 ?_
        refine pm_ist7 d_X9_goesLots_179 rfl (by decide) ?_
        refine L_X9_goesLots_181 D hD rec D0 hD0 hrec_X9_goesLots y1 y2 y3 y5 x6 _ _ _ (ps_ok.mono (ps_bdE hK) ?_)
        rintro v36 σ35 hT
        clear hK
        have hK := hT
        clear hT
        refine pm_ki d_X9_goesLots_214 ?_
        refine pm_ist7 d_X9_goesLots_215 rfl (by decide) ?_
        refine L_X9_goesLots_217 D hD rec D0 hD0 hrec_X9_goesLots y1 y2 y3 y5 x6 _ _ _ (ps_ok.mono (ps_bdE hK) ?_)
        rintro v44 σ43 hT
        clear hK
        have hK := hT
        clear hT
        refine pm_inc6 d_X9_goesLots_248 rfl ?_
        obtain ⟨v45, ev45⟩ : ∃ y : Int32, y = x6 + 1 := ⟨_, rfl⟩
        rw [← ev45]
        replace hK := ps_ltE ev45 hK
        refine pm_goto d_X9_goesLots_251 ?_
        refine pm_wk (ls' := [some (.ref (g.2.2.1 + 327)), some (.int y1), some (.int y2), some (.long y3), none, some (.int y5), some (.int v45), none]) ⟨rfl, ⟨rfl, ⟨rfl, ⟨rfl, ⟨rfl, ⟨rfl, trivial⟩⟩⟩⟩⟩⟩ ?_
        exact ih _ _ hK
      · replace hK := ps_ifF c25 hK
        refine pm_lld d_X9_goesLots_159 rfl ?_
        refine pm_goto d_X9_goesLots_160 ?_
        refine ps_cVV d_X9_goesLots_175 mv_X9_goesLots at_327 ob_8_0 rfl (As := [.int y1, .int y5, .long y3]) rfl rfl (ps_room.of (by omega) (by decide)) (Nat.le_of_ble_eq_true rfl) (hrec_X9_goesLots y1 y5 y3 σ23 _ (ps_bdE hK)) ?_
        intro σ47 hT
        clear hK
        have hK := hT
        clear hT
        refine pm_ki d_X9_goesLots_178 ?_
        refine pm_ist7 d_X9_goesLots_179 rfl (by decide) ?_
        refine L_X9_goesLots_181 D hD rec D0 hD0 hrec_X9_goesLots y1 y2 y3 y5 x6 _ _ _ (ps_ok.mono (ps_bdE hK) ?_)
        rintro v49 σ48 hT
        clear hK
        have hK := hT
        clear hT
        refine pm_ki d_X9_goesLots_214 ?_
        refine pm_ist7 d_X9_goesLots_215 rfl (by decide) ?_
        refine L_X9_goesLots_217 D hD rec D0 hD0 hrec_X9_goesLots y1 y2 y3 y5 x6 _ _ _ (ps_ok.mono (ps_bdE hK) ?_)
        rintro v51 σ50 hT
        clear hK
        have hK := hT
        clear hT
        refine pm_inc6 d_X9_goesLots_248 rfl ?_
        obtain ⟨v52, ev52⟩ : ∃ y : Int32, y = x6 + 1 := ⟨_, rfl⟩
        rw [← ev52]
        replace hK := ps_ltE ev52 hK
        refine pm_goto d_X9_goesLots_251 ?_
        refine pm_wk (ls' := [some (.ref (g.2.2.1 + 327)), some (.int y1), some (.int y2), some (.long y3), none, some (.int y5), some (.int v52), none]) ⟨rfl, ⟨rfl, ⟨rfl, ⟨rfl, ⟨rfl, ⟨rfl, trivial⟩⟩⟩⟩⟩⟩ ?_
        exact ih _ _ hK
def bX9_goesLots (rec : Nat → Int32 → Int32 → Int64 → ps_S → Option (Unit × ps_S)) (p1 : Int32) (p2 : Int32) (p3 : Int64) (σ : ps_S) : Option (Unit × ps_S) :=
  if p2 = 0 then
  ps_let (σ.2.1 327 33) fun v55 =>
  ps_bd (qX9_allNow σ) (fun v56 σ57 =>
  if p1 ≤ v56 then
  ps_let (ps_rL σ57 327 (vp_updL (σ57.2.1 327) 33 ((v55 + 0)))) fun σ59 =>
  ps_let (σ59.2.1 327 34) fun v60 =>
  ps_bd (qX9_allNow σ59) (fun v61 σ62 =>
  ps_let (ps_rL σ62 327 (vp_updL (σ62.2.1 327) 34 ((v60 + ((p3 * (((v61).toInt64)))))))) fun σ63 =>
  some ((), σ63))
  else
  ps_let (ps_rL σ57 327 (vp_updL (σ57.2.1 327) 33 ((v55 + p3)))) fun σ64 =>
  ps_let (σ64.2.1 327 34) fun v65 =>
  ps_bd (qX9_allNow σ64) (fun v66 σ67 =>
  ps_let (ps_rL σ67 327 (vp_updL (σ67.2.1 327) 34 ((v65 + ((p3 * (((v66).toInt64)))))))) fun σ68 =>
  some ((), σ68)))
  else
  ps_let ((p2 - 1)) fun v2 =>
  ps_bd (qX9_goesLots_51 rec p1 p2 p3 v2 ps_N 0 σ) (fun res σ9 => match res with
  | v10 =>
    ps_bd (qX9_goesLots_87 rec p1 p2 p3 v2 ps_N 0 σ9) (fun res σ17 => match res with
    | v18 =>
      ps_bd (qX9_goesLots_121 rec p1 p2 p3 v2 ps_N 0 σ17) (fun res σ53 => match res with
      | v54 =>
        some ((), σ53))))
set_option maxRecDepth 100000 in
theorem B_X9_goesLots {g : pm_G} (D : Nat) (hD : 7 ≤ D) (rec : Nat → Int32 → Int32 → Int64 → ps_S → Option (Unit × ps_S)) (D0 : Nat) (hD0 : D0 < D) (hrec_X9_goesLots : ∀ (p1 : Int32) (p2 : Int32) (p3 : Int64) (σ : ps_S) (P : Unit → ps_S → Prop), ps_ok (rec 0 p1 p2 p3 σ) P → ps_C g mX9_goesLots D0 [.ref (g.2.2.1 + 327), .int p1, .int p2, .long p3] σ (ps_qV P)) (p1 : Int32) (p2 : Int32) (p3 : Int64) (σ : ps_S) (P : Unit → ps_S → Prop) (hK : ps_ok (bX9_goesLots rec p1 p2 p3 σ) P) : ps_C g mX9_goesLots D [.ref (g.2.2.1 + 327), .int p1, .int p2, .long p3] σ (ps_qV P) := by
  unfold bX9_goesLots at hK
  refine ps_C.of (ls := [some (.ref (g.2.2.1 + 327)), some (.int p1), some (.int p2), some (.long p3), none, none, none, none]) 3 (by decide) rfl (Nat.le_of_ble_eq_true rfl) rfl ?_
  refine pm_ild d_X9_goesLots_0 rfl ?_
  refine pm_if_ne d_X9_goesLots_1 (fun c1 => ?_) (fun c1 => ?_)
  · replace hK := ps_ifF c1 hK
    refine pm_ild d_X9_goesLots_43 rfl ?_
    refine pm_ki d_X9_goesLots_44 ?_
    refine pm_isub d_X9_goesLots_45 ?_
    refine ps_topI (fun v2 ev2 => ?_)
    replace hK := ps_ltE ev2 hK
    refine pm_ist5 d_X9_goesLots_46 rfl (by decide) ?_
    refine pm_ki d_X9_goesLots_48 ?_
    refine pm_ist6 d_X9_goesLots_49 rfl (by decide) ?_
    refine L_X9_goesLots_51 D hD rec D0 hD0 hrec_X9_goesLots p1 p2 p3 v2 _ _ _ (ps_ok.mono (ps_bdE hK) ?_)
    rintro v10 σ9 hT
    clear hK
    have hK := hT
    clear hT
    refine pm_ki d_X9_goesLots_84 ?_
    refine pm_ist6 d_X9_goesLots_85 rfl (by decide) ?_
    refine L_X9_goesLots_87 D hD rec D0 hD0 hrec_X9_goesLots p1 p2 p3 v2 _ _ _ (ps_ok.mono (ps_bdE hK) ?_)
    rintro v18 σ17 hT
    clear hK
    have hK := hT
    clear hT
    refine pm_ki d_X9_goesLots_118 ?_
    refine pm_ist6 d_X9_goesLots_119 rfl (by decide) ?_
    refine L_X9_goesLots_121 D hD rec D0 hD0 hrec_X9_goesLots p1 p2 p3 v2 _ _ _ (ps_ok.mono (ps_bdE hK) ?_)
    rintro v54 σ53 hT
    clear hK
    have hK := hT
    clear hT
    have hQ := ps_so hK
    exact ps_vret rfl d_X9_goesLots_254 ⟨rfl, hQ⟩
  · replace hK := ps_ifT c1 hK
    refine pm_ald d_X9_goesLots_4 rfl ?_
    refine pm_dup d_X9_goesLots_5 rfl ?_
    refine ps_getL d_X9_goesLots_6 at_327 f_8_0_33 rfl ?_
    refine ps_topL (fun v55 ev55 => ?_)
    replace hK := ps_ltE ev55 hK
    refine pm_ald d_X9_goesLots_9 rfl ?_
    refine ps_cVI d_X9_goesLots_10 mv_X9_allNow at_327 ob_8_0 rfl (As := []) rfl rfl (ps_room.of (by omega) (by decide)) (Nat.le_of_ble_eq_true rfl) (C_X9_allNow σ _ (ps_bdE hK)) ?_
    intro v56 σ57 hT
    clear hK
    have hK := hT
    clear hT
    refine pm_ild d_X9_goesLots_13 rfl ?_
    refine pm_icmp_ge d_X9_goesLots_14 (fun c58 => ?_) (fun c58 => ?_)
    · replace hK := ps_ifT c58 hK
      refine pm_kl d_X9_goesLots_21 ?_
      refine pm_ladd d_X9_goesLots_22 ?_
      refine ps_putL d_X9_goesLots_23 at_327 f_8_0_33 ?_
      refine ps_nmS (fun σ59 eσ59 => ?_)
      replace hK := ps_ltE eσ59 hK
      refine pm_ald d_X9_goesLots_26 rfl ?_
      refine pm_dup d_X9_goesLots_27 rfl ?_
      refine ps_getL d_X9_goesLots_28 at_327 f_8_0_34 rfl ?_
      refine ps_topL (fun v60 ev60 => ?_)
      replace hK := ps_ltE ev60 hK
      refine pm_lld d_X9_goesLots_31 rfl ?_
      refine pm_ald d_X9_goesLots_32 rfl ?_
      refine ps_cVI d_X9_goesLots_33 mv_X9_allNow at_327 ob_8_0 rfl (As := []) rfl rfl (ps_room.of (by omega) (by decide)) (Nat.le_of_ble_eq_true rfl) (C_X9_allNow σ59 _ (ps_bdE hK)) ?_
      intro v61 σ62 hT
      clear hK
      have hK := hT
      clear hT
      refine pm_i2l d_X9_goesLots_36 ?_
      refine pm_lmul d_X9_goesLots_37 ?_
      refine pm_ladd d_X9_goesLots_38 ?_
      refine ps_putL d_X9_goesLots_39 at_327 f_8_0_34 ?_
      refine ps_nmS (fun σ63 eσ63 => ?_)
      replace hK := ps_ltE eσ63 hK
      have hQ := ps_so hK
      exact ps_vret rfl d_X9_goesLots_42 ⟨rfl, hQ⟩
    · replace hK := ps_ifF c58 hK
      refine pm_lld d_X9_goesLots_17 rfl ?_
      refine pm_goto d_X9_goesLots_18 ?_
      refine pm_ladd d_X9_goesLots_22 ?_
      refine ps_putL d_X9_goesLots_23 at_327 f_8_0_33 ?_
      refine ps_nmS (fun σ64 eσ64 => ?_)
      replace hK := ps_ltE eσ64 hK
      refine pm_ald d_X9_goesLots_26 rfl ?_
      refine pm_dup d_X9_goesLots_27 rfl ?_
      refine ps_getL d_X9_goesLots_28 at_327 f_8_0_34 rfl ?_
      refine ps_topL (fun v65 ev65 => ?_)
      replace hK := ps_ltE ev65 hK
      refine pm_lld d_X9_goesLots_31 rfl ?_
      refine pm_ald d_X9_goesLots_32 rfl ?_
      refine ps_cVI d_X9_goesLots_33 mv_X9_allNow at_327 ob_8_0 rfl (As := []) rfl rfl (ps_room.of (by omega) (by decide)) (Nat.le_of_ble_eq_true rfl) (C_X9_allNow σ64 _ (ps_bdE hK)) ?_
      intro v66 σ67 hT
      clear hK
      have hK := hT
      clear hT
      refine pm_i2l d_X9_goesLots_36 ?_
      refine pm_lmul d_X9_goesLots_37 ?_
      refine pm_ladd d_X9_goesLots_38 ?_
      refine ps_putL d_X9_goesLots_39 at_327 f_8_0_34 ?_
      refine ps_nmS (fun σ68 eσ68 => ?_)
      replace hK := ps_ltE eσ68 hK
      have hQ := ps_so hK
      exact ps_vret rfl d_X9_goesLots_42 ⟨rfl, hQ⟩
def rc_X9l : Nat → Nat → Int32 → Int32 → Int64 → ps_S → Option (Unit × ps_S)
  | 0, _, _, _, _, _ => none
  | n + 1, w, p1, p2, p3, σ => if w = 0 then bX9_goesLots (rc_X9l n) p1 p2 p3 σ else none
theorem R_X9l {g : pm_G} : ∀ n : Nat, (∀ (p1 : Int32) (p2 : Int32) (p3 : Int64) (σ : ps_S) (P : Unit → ps_S → Prop), ps_ok (rc_X9l n 0 p1 p2 p3 σ) P → ps_C g mX9_goesLots (7 + n) [.ref (g.2.2.1 + 327), .int p1, .int p2, .long p3] σ (ps_qV P)) := by
  intro n
  induction n with
  | zero => exact fun _ _ _ σ P hK => (ps_no hK).elim
  | succ n ih =>
    have ih0 := ih
    refine ?_
    · intro p1 p2 p3 σ P hK
      rw [rc_X9l] at hK
      replace hK := ps_ifT rfl hK
      exact B_X9_goesLots (7 + (n + 1)) (by omega) (rc_X9l n) (7 + n) (by omega) ih0 p1 p2 p3 σ P hK

def qX9_goesLots (p1 : Int32) (p2 : Int32) (p3 : Int64) (σ : ps_S) : Option (Unit × ps_S) := rc_X9l 5 0 p1 p2 p3 σ
theorem C_X9_goesLots {g : pm_G} (p1 : Int32) (p2 : Int32) (p3 : Int64) (σ : ps_S) (P : Unit → ps_S → Prop) (hK : ps_ok (qX9_goesLots p1 p2 p3 σ) P) : ps_C g mX9_goesLots 12 [.ref (g.2.2.1 + 327), .int p1, .int p2, .long p3] σ (ps_qV P) := (R_X9l 5) p1 p2 p3 σ P hK
def qX9_laysLots (p1 : Int32) (p2 : Int32) (σ : ps_S) : Option (Unit × ps_S) :=
  ps_let (ps_rL σ 327 (vp_updL (σ.2.1 327) 33 0)) fun σ1 =>
  ps_let (ps_rL σ1 327 (vp_updL (σ1.2.1 327) 34 0)) fun σ2 =>
  ps_bd (qX9_begins σ2) (fun _ σ4 =>
  ps_bd (qX9_goesLots p1 p2 1 σ4) (fun _ σ6 =>
  some ((), σ6)))
set_option maxRecDepth 100000 in
theorem C_X9_laysLots {g : pm_G} (p1 : Int32) (p2 : Int32) (σ : ps_S) (P : Unit → ps_S → Prop) (hK : ps_ok (qX9_laysLots p1 p2 σ) P) : ps_C g mX9_laysLots 13 [.ref (g.2.2.1 + 327), .int p1, .int p2] σ (ps_qV P) := by
  unfold qX9_laysLots at hK
  refine ps_C.of (ls := [some (.ref (g.2.2.1 + 327)), some (.int p1), some (.int p2)]) 0 (by decide) rfl (Nat.le_of_ble_eq_true rfl) rfl ?_
  refine pm_ald d_X9_laysLots_0 rfl ?_
  refine pm_kl d_X9_laysLots_1 ?_
  refine ps_putL d_X9_laysLots_2 at_327 f_8_0_33 ?_
  refine ps_nmS (fun σ1 eσ1 => ?_)
  replace hK := ps_ltE eσ1 hK
  refine pm_ald d_X9_laysLots_5 rfl ?_
  refine pm_kl d_X9_laysLots_6 ?_
  refine ps_putL d_X9_laysLots_7 at_327 f_8_0_34 ?_
  refine ps_nmS (fun σ2 eσ2 => ?_)
  replace hK := ps_ltE eσ2 hK
  refine pm_ald d_X9_laysLots_10 rfl ?_
  refine ps_cVV d_X9_laysLots_11 mv_X9_begins at_327 ob_8_0 rfl (As := []) rfl rfl (ps_room.of (by omega) (by decide)) (Nat.le_of_ble_eq_true rfl) (C_X9_begins σ2 _ (ps_bdE hK)) ?_
  intro σ4 hT
  clear hK
  have hK := hT
  clear hT
  refine pm_ald d_X9_laysLots_14 rfl ?_
  refine pm_ild d_X9_laysLots_15 rfl ?_
  refine pm_ild d_X9_laysLots_16 rfl ?_
  refine pm_kl d_X9_laysLots_17 ?_
  refine ps_cVV d_X9_laysLots_18 mv_X9_goesLots at_327 ob_8_0 rfl (As := [.int p1, .int p2, .long 1]) rfl rfl (ps_room.of (by omega) (by decide)) (Nat.le_of_ble_eq_true rfl) (C_X9_goesLots p1 p2 1 σ4 _ (ps_bdE hK)) ?_
  intro σ6 hT
  clear hK
  have hK := hT
  clear hT
  have hQ := ps_so hK
  exact ps_vret rfl d_X9_laysLots_21 ⟨rfl, hQ⟩
def bX9_common (rec : Nat → Int64 → Int64 → ps_S → Option (Int64 × ps_S)) (p1 : Int64) (p2 : Int64) (σ : ps_S) : Option (Int64 × ps_S) :=
  if ((lg_cmp p2 0)) = 0 then
  some (p1, σ)
  else
  if p2 = 0 then none else
  ps_bd (rec 0 p2 ((p1 - p1 / p2 * p2)) σ) (fun v2 σ3 =>
  some (v2, σ3))
set_option maxRecDepth 100000 in
theorem B_X9_common {g : pm_G} (D : Nat) (hD : 1 ≤ D) (rec : Nat → Int64 → Int64 → ps_S → Option (Int64 × ps_S)) (D0 : Nat) (hD0 : D0 < D) (hrec_X9_common : ∀ (p1 : Int64) (p2 : Int64) (σ : ps_S) (P : Int64 → ps_S → Prop), ps_ok (rec 0 p1 p2 σ) P → ps_C g mX9_common D0 [.long p1, .long p2] σ (ps_qL P)) (p1 : Int64) (p2 : Int64) (σ : ps_S) (P : Int64 → ps_S → Prop) (hK : ps_ok (bX9_common rec p1 p2 σ) P) : ps_C g mX9_common D [.long p1, .long p2] σ (ps_qL P) := by
  unfold bX9_common at hK
  refine ps_C.of (ls := [some (.long p1), none, some (.long p2), none]) 0 (by decide) rfl (Nat.le_of_ble_eq_true rfl) rfl ?_
  refine pm_lld d_X9_common_0 rfl ?_
  refine pm_kl d_X9_common_1 ?_
  refine pm_lcmp d_X9_common_2 ?_
  refine pm_if_ne d_X9_common_3 (fun c1 => ?_) (fun c1 => ?_)
  · replace hK := ps_ifF c1 hK
    refine pm_lld d_X9_common_10 rfl ?_
    refine pm_lld d_X9_common_11 rfl ?_
    refine pm_lld d_X9_common_12 rfl ?_
    by_cases z4 : p2 = 0
    · exact (ps_no (ps_ifT z4 hK)).elim
    replace hK := ps_ifF z4 hK
    refine pm_lrem d_X9_common_13 z4 ?_
    refine ps_cSL d_X9_common_14 ms_X9_common (As := [.long p2, .long (p1 - p1 / p2 * p2)]) rfl rfl (ps_room.of (by omega) (by decide)) (Nat.le_of_ble_eq_true rfl) (hrec_X9_common p2 ((p1 - p1 / p2 * p2)) σ _ (ps_bdE hK)) ?_
    intro v2 σ3 hT
    clear hK
    have hK := hT
    clear hT
    have hQ := ps_so hK
    exact ps_lret rfl d_X9_common_17 ⟨_, rfl, hQ⟩
  · replace hK := ps_ifT c1 hK
    refine pm_lld d_X9_common_6 rfl ?_
    refine pm_goto d_X9_common_7 ?_
    have hQ := ps_so hK
    exact ps_lret rfl d_X9_common_17 ⟨_, rfl, hQ⟩
def rc_X9c : Nat → Nat → Int64 → Int64 → ps_S → Option (Int64 × ps_S)
  | 0, _, _, _, _ => none
  | n + 1, w, p1, p2, σ => if w = 0 then bX9_common (rc_X9c n) p1 p2 σ else none
theorem R_X9c {g : pm_G} : ∀ n : Nat, (∀ (p1 : Int64) (p2 : Int64) (σ : ps_S) (P : Int64 → ps_S → Prop), ps_ok (rc_X9c n 0 p1 p2 σ) P → ps_C g mX9_common (1 + n) [.long p1, .long p2] σ (ps_qL P)) := by
  intro n
  induction n with
  | zero => exact fun _ _ σ P hK => (ps_no hK).elim
  | succ n ih =>
    have ih0 := ih
    refine ?_
    · intro p1 p2 σ P hK
      rw [rc_X9c] at hK
      replace hK := ps_ifT rfl hK
      exact B_X9_common (1 + (n + 1)) (by omega) (rc_X9c n) (1 + n) (by omega) ih0 p1 p2 σ P hK

def qX9_common (p1 : Int64) (p2 : Int64) (σ : ps_S) : Option (Int64 × ps_S) := rc_X9c 100 0 p1 p2 σ
theorem C_X9_common {g : pm_G} (p1 : Int64) (p2 : Int64) (σ : ps_S) (P : Int64 → ps_S → Prop) (hK : ps_ok (qX9_common p1 p2 σ) P) : ps_C g mX9_common 101 [.long p1, .long p2] σ (ps_qL P) := (R_X9c 100) p1 p2 σ P hK
def qX9_part (p1 : Int64) (p2 : Int64) (p3 : Int32) (σ : ps_S) : Option (Int32 × ps_S) :=
  if p3 = 0 then
  ps_bd (qX9_common p1 p2 σ) (fun v5 σ6 =>
  if v5 = 0 then none else
  some ((((p1 / v5)).toInt32), σ6))
  else
  ps_bd (qX9_common p1 p2 σ) (fun v2 σ3 =>
  if v2 = 0 then none else
  some ((((p2 / v2)).toInt32), σ3))
set_option maxRecDepth 100000 in
theorem C_X9_part {g : pm_G} (p1 : Int64) (p2 : Int64) (p3 : Int32) (σ : ps_S) (P : Int32 → ps_S → Prop) (hK : ps_ok (qX9_part p1 p2 p3 σ) P) : ps_C g mX9_part 102 [.long p1, .long p2, .int p3] σ (ps_qI P) := by
  unfold qX9_part at hK
  refine ps_C.of (ls := [some (.long p1), none, some (.long p2), none, some (.int p3)]) 0 (by decide) rfl (Nat.le_of_ble_eq_true rfl) rfl ?_
  refine pm_ild d_X9_part_0 rfl ?_
  refine pm_if_ne d_X9_part_2 (fun c1 => ?_) (fun c1 => ?_)
  · replace hK := ps_ifF c1 hK
    refine pm_lld d_X9_part_9 rfl ?_
    refine pm_lld d_X9_part_10 rfl ?_
    refine pm_lld d_X9_part_11 rfl ?_
    refine ps_cSL d_X9_part_12 ms_X9_common (As := [.long p1, .long p2]) rfl rfl (ps_room.of (by omega) (by decide)) (Nat.le_of_ble_eq_true rfl) (C_X9_common p1 p2 σ _ (ps_bdE hK)) ?_
    intro v2 σ3 hT
    clear hK
    have hK := hT
    clear hT
    by_cases z4 : v2 = 0
    · exact (ps_no (ps_ifT z4 hK)).elim
    replace hK := ps_ifF z4 hK
    refine pm_ldiv d_X9_part_15 z4 ?_
    refine pm_l2i d_X9_part_16 ?_
    have hQ := ps_so hK
    exact ps_iret rfl d_X9_part_17 ⟨_, rfl, hQ⟩
  · replace hK := ps_ifT c1 hK
    refine pm_lld d_X9_part_5 rfl ?_
    refine pm_goto d_X9_part_6 ?_
    refine pm_lld d_X9_part_10 rfl ?_
    refine pm_lld d_X9_part_11 rfl ?_
    refine ps_cSL d_X9_part_12 ms_X9_common (As := [.long p1, .long p2]) rfl rfl (ps_room.of (by omega) (by decide)) (Nat.le_of_ble_eq_true rfl) (C_X9_common p1 p2 σ _ (ps_bdE hK)) ?_
    intro v5 σ6 hT
    clear hK
    have hK := hT
    clear hT
    by_cases z7 : v5 = 0
    · exact (ps_no (ps_ifT z7 hK)).elim
    replace hK := ps_ifF z7 hK
    refine pm_ldiv d_X9_part_15 z7 ?_
    refine pm_l2i d_X9_part_16 ?_
    have hQ := ps_so hK
    exact ps_iret rfl d_X9_part_17 ⟨_, rfl, hQ⟩
def qX9_wholeOf_4  (y0 : Int32) : Nat → Int64 → Int32 → ps_S → Option (((Int64 × Int32)) × ps_S)
  | 0, _, _, _ => none
  | n + 1, x1, x3, σ =>
    if y0 ≤ x3 then
    some ((x1, x3), σ)
    else
    ps_let ((x1 * 10)) fun v2 =>
    ps_let (x3 + 1) fun v3 =>
    qX9_wholeOf_4 y0 n v2 v3 σ
set_option maxRecDepth 100000 in
theorem L_X9_wholeOf_4 {g : pm_G} (D : Nat) (hD : 1 ≤ D) {P : Int64 → ps_S → Prop}  (y0 : Int32) : ∀ (n : Nat) (x1 : Int64) (x3 : Int32) (σ : ps_S), ps_ok (qX9_wholeOf_4 y0 n x1 x3 σ) (fun res σ => match res with | (x1, x3) => pm_W g mX9_wholeOf (ps_F g D (ps_qL P)) 0 0 21 [some (.int y0), some (.long x1), none, some (.int x3)] [] 345 (ps_E g σ)) → pm_W g mX9_wholeOf (ps_F g D (ps_qL P)) 0 0 4 [some (.int y0), some (.long x1), none, some (.int x3)] [] 345 (ps_E g σ) := by
  intro n
  induction n with
  | zero => intro x1 x3 σ hK; exact (ps_no hK).elim
  | succ n ih =>
    intro x1 x3 σ hK
    rw [qX9_wholeOf_4] at hK
    refine pm_ild d_X9_wholeOf_4 rfl ?_
    refine pm_ild d_X9_wholeOf_5 rfl ?_
    refine pm_icmp_ge d_X9_wholeOf_6 (fun c1 => ?_) (fun c1 => ?_)
    · replace hK := ps_ifT c1 hK
      exact ps_so hK
    · replace hK := ps_ifF c1 hK
      refine pm_lld d_X9_wholeOf_9 rfl ?_
      refine pm_kl d_X9_wholeOf_10 ?_
      refine pm_lmul d_X9_wholeOf_13 ?_
      refine ps_topL (fun v2 ev2 => ?_)
      replace hK := ps_ltE ev2 hK
      refine pm_lst1 d_X9_wholeOf_14 rfl (by decide) ?_
      refine pm_inc3 d_X9_wholeOf_15 rfl ?_
      obtain ⟨v3, ev3⟩ : ∃ y : Int32, y = x3 + 1 := ⟨_, rfl⟩
      rw [← ev3]
      replace hK := ps_ltE ev3 hK
      refine pm_goto d_X9_wholeOf_18 ?_
      exact ih _ _ _ hK
def qX9_wholeOf (p1 : Int32) (σ : ps_S) : Option (Int64 × ps_S) :=
  ps_bd (qX9_wholeOf_4 p1 ps_N 1 0 σ) (fun res σ4 => match res with
  | (v5, v6) =>
    some (v5, σ4))
set_option maxRecDepth 100000 in
theorem C_X9_wholeOf {g : pm_G} (p1 : Int32) (σ : ps_S) (P : Int64 → ps_S → Prop) (hK : ps_ok (qX9_wholeOf p1 σ) P) : ps_C g mX9_wholeOf 1 [.int p1] σ (ps_qL P) := by
  unfold qX9_wholeOf at hK
  refine ps_C.of (ls := [some (.int p1), none, none, none]) 3 (by decide) rfl (Nat.le_of_ble_eq_true rfl) rfl ?_
  refine pm_kl d_X9_wholeOf_0 ?_
  refine pm_lst1 d_X9_wholeOf_1 rfl (by decide) ?_
  refine pm_ki d_X9_wholeOf_2 ?_
  refine pm_ist3 d_X9_wholeOf_3 rfl (by decide) ?_
  refine L_X9_wholeOf_4 _ (by decide) p1 _ _ _ _ (ps_ok.mono (ps_bdE hK) ?_)
  rintro ⟨v5, v6⟩ σ4 hT
  clear hK
  have hK := hT
  clear hT
  refine pm_lld d_X9_wholeOf_21 rfl ?_
  have hQ := ps_so hK
  exact ps_lret rfl d_X9_wholeOf_22 ⟨_, rfl, hQ⟩
def qX9_chance (p1 : Int32) (p2 : Int32) (p3 : Int32) (σ : ps_S) : Option (Int32 × ps_S) :=
  ps_let (ps_rI σ 327 (upd (σ.1 327) 0 0)) fun σ1 =>
  ps_bd (qX9_within (((p3).toInt64)) 0 1 σ1) (fun v2 σ3 =>
  if v2 = 0 then
  some ((-2), σ3)
  else
  ps_bd (qX9_within (((p1).toInt64)) 1 1000 σ3) (fun v5 σ6 =>
  if v5 = 0 then
  some ((-3), σ6)
  else
  ps_bd (qX9_within (((p2).toInt64)) 1 3 σ6) (fun v8 σ9 =>
  if v8 = 0 then
  some ((-3), σ9)
  else
  ps_bd (qX9_laysLots p1 p2 σ9) (fun _ σ12 =>
  ps_let (σ12.2.1 327 33) fun v13 =>
  ps_bd (qX9_wholeOf p2 σ12) (fun v14 σ15 =>
  ps_bd (qX9_part v13 v14 p3 σ15) (fun v16 σ17 =>
  some (v16, σ17)))))))
set_option maxRecDepth 100000 in
theorem C_X9_chance {g : pm_G} (p1 : Int32) (p2 : Int32) (p3 : Int32) (σ : ps_S) (P : Int32 → ps_S → Prop) (hK : ps_ok (qX9_chance p1 p2 p3 σ) P) : ps_C g mX9_chance 103 [.ref (g.2.2.1 + 327), .int p1, .int p2, .int p3] σ (ps_qI P) := by
  unfold qX9_chance at hK
  refine ps_C.of (ls := [some (.ref (g.2.2.1 + 327)), some (.int p1), some (.int p2), some (.int p3)]) 0 (by decide) rfl (Nat.le_of_ble_eq_true rfl) rfl ?_
  refine pm_ald d_X9_chance_0 rfl ?_
  refine pm_ki d_X9_chance_1 ?_
  refine ps_putI d_X9_chance_2 at_327 f_8_0_0 rfl rfl ?_
  refine ps_nmS (fun σ1 eσ1 => ?_)
  replace hK := ps_ltE eσ1 hK
  refine pm_ild d_X9_chance_5 rfl ?_
  refine pm_i2l d_X9_chance_6 ?_
  refine pm_kl d_X9_chance_7 ?_
  refine pm_kl d_X9_chance_8 ?_
  refine ps_cSI d_X9_chance_9 ms_X9_within (As := [.long ((p3).toInt64), .long 0, .long 1]) rfl rfl (ps_room.of (by omega) (by decide)) (Nat.le_of_ble_eq_true rfl) (C_X9_within (((p3).toInt64)) 0 1 σ1 _ (ps_bdE hK)) ?_
  intro v2 σ3 hT
  clear hK
  have hK := hT
  clear hT
  refine pm_if_ne d_X9_chance_12 (fun c4 => ?_) (fun c4 => ?_)
  · replace hK := ps_ifF c4 hK
    refine pm_ild d_X9_chance_18 rfl ?_
    refine pm_i2l d_X9_chance_19 ?_
    refine pm_kl d_X9_chance_20 ?_
    refine pm_kl d_X9_chance_21 ?_
    refine ps_cSI d_X9_chance_24 ms_X9_within (As := [.long ((p1).toInt64), .long 1, .long 1000]) rfl rfl (ps_room.of (by omega) (by decide)) (Nat.le_of_ble_eq_true rfl) (C_X9_within (((p1).toInt64)) 1 1000 σ3 _ (ps_bdE hK)) ?_
    intro v5 σ6 hT
    clear hK
    have hK := hT
    clear hT
    refine pm_if_eq d_X9_chance_27 (fun c7 => ?_) (fun c7 => ?_)
    · replace hK := ps_ifT c7 hK
      refine pm_ki d_X9_chance_42 ?_
      have hQ := ps_so hK
      exact ps_iret rfl d_X9_chance_44 ⟨_, rfl, hQ⟩
    · replace hK := ps_ifF c7 hK
      refine pm_ild d_X9_chance_30 rfl ?_
      refine pm_i2l d_X9_chance_31 ?_
      refine pm_kl d_X9_chance_32 ?_
      refine pm_kl d_X9_chance_33 ?_
      refine ps_cSI d_X9_chance_36 ms_X9_within (As := [.long ((p2).toInt64), .long 1, .long 3]) rfl rfl (ps_room.of (by omega) (by decide)) (Nat.le_of_ble_eq_true rfl) (C_X9_within (((p2).toInt64)) 1 3 σ6 _ (ps_bdE hK)) ?_
      intro v8 σ9 hT
      clear hK
      have hK := hT
      clear hT
      refine pm_if_ne d_X9_chance_39 (fun c10 => ?_) (fun c10 => ?_)
      · replace hK := ps_ifF c10 hK
        refine pm_ald d_X9_chance_45 rfl ?_
        refine pm_ild d_X9_chance_46 rfl ?_
        refine pm_ild d_X9_chance_47 rfl ?_
        refine ps_cVV d_X9_chance_48 mv_X9_laysLots at_327 ob_8_0 rfl (As := [.int p1, .int p2]) rfl rfl (ps_room.of (by omega) (by decide)) (Nat.le_of_ble_eq_true rfl) (C_X9_laysLots p1 p2 σ9 _ (ps_bdE hK)) ?_
        intro σ12 hT
        clear hK
        have hK := hT
        clear hT
        refine pm_ald d_X9_chance_51 rfl ?_
        refine ps_getL d_X9_chance_52 at_327 f_8_0_33 rfl ?_
        refine ps_topL (fun v13 ev13 => ?_)
        replace hK := ps_ltE ev13 hK
        refine pm_ild d_X9_chance_55 rfl ?_
        refine ps_cSL d_X9_chance_56 ms_X9_wholeOf (As := [.int p2]) rfl rfl (ps_room.of (by omega) (by decide)) (Nat.le_of_ble_eq_true rfl) (C_X9_wholeOf p2 σ12 _ (ps_bdE hK)) ?_
        intro v14 σ15 hT
        clear hK
        have hK := hT
        clear hT
        refine pm_ild d_X9_chance_59 rfl ?_
        refine ps_cSI d_X9_chance_60 ms_X9_part (As := [.long v13, .long v14, .int p3]) rfl rfl (ps_room.of (by omega) (by decide)) (Nat.le_of_ble_eq_true rfl) (C_X9_part v13 v14 p3 σ15 _ (ps_bdE hK)) ?_
        intro v16 σ17 hT
        clear hK
        have hK := hT
        clear hT
        have hQ := ps_so hK
        exact ps_iret rfl d_X9_chance_63 ⟨_, rfl, hQ⟩
      · replace hK := ps_ifT c10 hK
        refine pm_ki d_X9_chance_42 ?_
        have hQ := ps_so hK
        exact ps_iret rfl d_X9_chance_44 ⟨_, rfl, hQ⟩
  · replace hK := ps_ifT c4 hK
    refine pm_ki d_X9_chance_15 ?_
    have hQ := ps_so hK
    exact ps_iret rfl d_X9_chance_17 ⟨_, rfl, hQ⟩
def qX9_wroteInAll  (σ : ps_S) : Option (Int32 × ps_S) :=
  ps_bd (qX9_sumOf 45 4 σ) (fun v1 σ2 =>
  some (v1, σ2))
set_option maxRecDepth 100000 in
theorem C_X9_wroteInAll {g : pm_G}  (σ : ps_S) (P : Int32 → ps_S → Prop) (hK : ps_ok (qX9_wroteInAll  σ) P) : ps_C g mX9_wroteInAll 2 [.ref (g.2.2.1 + 327)] σ (ps_qI P) := by
  unfold qX9_wroteInAll at hK
  refine ps_C.of (ls := [some (.ref (g.2.2.1 + 327))]) 0 (by decide) rfl (Nat.le_of_ble_eq_true rfl) rfl ?_
  refine pm_ald d_X9_wroteInAll_0 rfl ?_
  refine pm_ki d_X9_wroteInAll_1 ?_
  refine pm_ki d_X9_wroteInAll_3 ?_
  refine ps_cVI d_X9_wroteInAll_4 mv_X9_sumOf at_327 ob_8_0 rfl (As := [.int 45, .int 4]) rfl rfl (ps_room.of (by omega) (by decide)) (Nat.le_of_ble_eq_true rfl) (C_X9_sumOf 45 4 σ _ (ps_bdE hK)) ?_
  intro v1 σ2 hT
  clear hK
  have hK := hT
  clear hT
  have hQ := ps_so hK
  exact ps_iret rfl d_X9_wroteInAll_7 ⟨_, rfl, hQ⟩
def qX9_count (p1 : Int32) (σ : ps_S) : Option (Int32 × ps_S) :=
  ps_let (ps_rI σ 327 (upd (σ.1 327) 0 0)) fun σ1 =>
  ps_bd (qX9_begins σ1) (fun _ σ3 =>
  if p1 = 0 then
  ps_let (σ3.1 328 1) fun v5 =>
  some (v5, σ3)
  else
  if p1 = 1 then
  ps_let (σ3.1 328 2) fun v7 =>
  some (v7, σ3)
  else
  if p1 = 2 then
  ps_let (σ3.1 328 3) fun v9 =>
  some (v9, σ3)
  else
  if p1 = 3 then
  ps_let (σ3.1 335 0) fun v11 =>
  some (v11, σ3)
  else
  if p1 = 4 then
  ps_bd (qX9_allNow σ3) (fun v13 σ14 =>
  some (v13, σ14))
  else
  if p1 = 5 then
  ps_bd (qX9_sumOf 1 12 σ3) (fun v16 σ17 =>
  some (v16, σ17))
  else
  if p1 = 6 then
  ps_bd (qX9_sumOf 71 6 σ3) (fun v19 σ20 =>
  some (v19, σ20))
  else
  if p1 = 7 then
  ps_bd (qX9_wroteInAll σ3) (fun v22 σ23 =>
  some (v22, σ23))
  else
  if p1 = 8 then
  ps_let (σ3.1 328 118) fun v25 =>
  some (v25, σ3)
  else
  if p1 = 9 then
  ps_let (σ3.1 327 6) fun v27 =>
  some (v27, σ3)
  else
  if p1 = 10 then
  ps_let (σ3.1 328 0) fun v29 =>
  some (v29, σ3)
  else
  some ((-1), σ3))
set_option maxRecDepth 100000 in
theorem C_X9_count {g : pm_G} (p1 : Int32) (σ : ps_S) (P : Int32 → ps_S → Prop) (hK : ps_ok (qX9_count p1 σ) P) : ps_C g mX9_count 3 [.ref (g.2.2.1 + 327), .int p1] σ (ps_qI P) := by
  unfold qX9_count at hK
  refine ps_C.of (ls := [some (.ref (g.2.2.1 + 327)), some (.int p1)]) 0 (by decide) rfl (Nat.le_of_ble_eq_true rfl) rfl ?_
  refine pm_ald d_X9_count_0 rfl ?_
  refine pm_ki d_X9_count_1 ?_
  refine ps_putI d_X9_count_2 at_327 f_8_0_0 rfl rfl ?_
  refine ps_nmS (fun σ1 eσ1 => ?_)
  replace hK := ps_ltE eσ1 hK
  refine pm_ald d_X9_count_5 rfl ?_
  refine ps_cVV d_X9_count_6 mv_X9_begins at_327 ob_8_0 rfl (As := []) rfl rfl (ps_room.of (by omega) (by decide)) (Nat.le_of_ble_eq_true rfl) (C_X9_begins σ1 _ (ps_bdE hK)) ?_
  intro σ3 hT
  clear hK
  have hK := hT
  clear hT
  refine pm_ild d_X9_count_9 rfl ?_
  by_cases c4 : p1 = 0
  · replace hK := ps_ifT c4 hK
    refine pm_tabIn (tgt := 68) (off := 58) d_X9_count_10 (by rw [c4]; decide) (by rw [c4]; decide) (by rw [c4]; rfl) (by decide) ?_
    refine pm_ald d_X9_count_68 rfl ?_
    refine ps_getR (q := 328) d_X9_count_69 at_327 f_8_0_1 rfl ?_
    refine pm_ki d_X9_count_72 ?_
    refine ps_iald (x := σ3.1 328 1) d_X9_count_73 at_328 a_8_1 (ps_in_of rfl) rfl ?_
    refine ps_topI (fun v5 ev5 => ?_)
    replace hK := ps_ltE ev5 hK
    have hQ := ps_so hK
    exact ps_iret rfl d_X9_count_74 ⟨_, rfl, hQ⟩
  replace hK := ps_ifF c4 hK
  by_cases c6 : p1 = 1
  · replace hK := ps_ifT c6 hK
    refine pm_tabIn (tgt := 75) (off := 65) d_X9_count_10 (by rw [c6]; decide) (by rw [c6]; decide) (by rw [c6]; rfl) (by decide) ?_
    refine pm_ald d_X9_count_75 rfl ?_
    refine ps_getR (q := 328) d_X9_count_76 at_327 f_8_0_1 rfl ?_
    refine pm_ki d_X9_count_79 ?_
    refine ps_iald (x := σ3.1 328 2) d_X9_count_80 at_328 a_8_1 (ps_in_of rfl) rfl ?_
    refine ps_topI (fun v7 ev7 => ?_)
    replace hK := ps_ltE ev7 hK
    have hQ := ps_so hK
    exact ps_iret rfl d_X9_count_81 ⟨_, rfl, hQ⟩
  replace hK := ps_ifF c6 hK
  by_cases c8 : p1 = 2
  · replace hK := ps_ifT c8 hK
    refine pm_tabIn (tgt := 82) (off := 72) d_X9_count_10 (by rw [c8]; decide) (by rw [c8]; decide) (by rw [c8]; rfl) (by decide) ?_
    refine pm_ald d_X9_count_82 rfl ?_
    refine ps_getR (q := 328) d_X9_count_83 at_327 f_8_0_1 rfl ?_
    refine pm_ki d_X9_count_86 ?_
    refine ps_iald (x := σ3.1 328 3) d_X9_count_87 at_328 a_8_1 (ps_in_of rfl) rfl ?_
    refine ps_topI (fun v9 ev9 => ?_)
    replace hK := ps_ltE ev9 hK
    have hQ := ps_so hK
    exact ps_iret rfl d_X9_count_88 ⟨_, rfl, hQ⟩
  replace hK := ps_ifF c8 hK
  by_cases c10 : p1 = 3
  · replace hK := ps_ifT c10 hK
    refine pm_tabIn (tgt := 89) (off := 79) d_X9_count_10 (by rw [c10]; decide) (by rw [c10]; decide) (by rw [c10]; rfl) (by decide) ?_
    refine pm_ald d_X9_count_89 rfl ?_
    refine ps_getR (q := 335) d_X9_count_90 at_327 f_8_0_19 rfl ?_
    refine pm_ki d_X9_count_93 ?_
    refine ps_iald (x := σ3.1 335 0) d_X9_count_94 at_335 a_8_8 (ps_in_of rfl) rfl ?_
    refine ps_topI (fun v11 ev11 => ?_)
    replace hK := ps_ltE ev11 hK
    have hQ := ps_so hK
    exact ps_iret rfl d_X9_count_95 ⟨_, rfl, hQ⟩
  replace hK := ps_ifF c10 hK
  by_cases c12 : p1 = 4
  · replace hK := ps_ifT c12 hK
    refine pm_tabIn (tgt := 96) (off := 86) d_X9_count_10 (by rw [c12]; decide) (by rw [c12]; decide) (by rw [c12]; rfl) (by decide) ?_
    refine pm_ald d_X9_count_96 rfl ?_
    refine ps_cVI d_X9_count_97 mv_X9_allNow at_327 ob_8_0 rfl (As := []) rfl rfl (ps_room.of (by omega) (by decide)) (Nat.le_of_ble_eq_true rfl) (C_X9_allNow σ3 _ (ps_bdE hK)) ?_
    intro v13 σ14 hT
    clear hK
    have hK := hT
    clear hT
    have hQ := ps_so hK
    exact ps_iret rfl d_X9_count_100 ⟨_, rfl, hQ⟩
  replace hK := ps_ifF c12 hK
  by_cases c15 : p1 = 5
  · replace hK := ps_ifT c15 hK
    refine pm_tabIn (tgt := 101) (off := 91) d_X9_count_10 (by rw [c15]; decide) (by rw [c15]; decide) (by rw [c15]; rfl) (by decide) ?_
    refine pm_ald d_X9_count_101 rfl ?_
    refine pm_ki d_X9_count_102 ?_
    refine pm_ki d_X9_count_103 ?_
    refine ps_cVI d_X9_count_105 mv_X9_sumOf at_327 ob_8_0 rfl (As := [.int 1, .int 12]) rfl rfl (ps_room.of (by omega) (by decide)) (Nat.le_of_ble_eq_true rfl) (C_X9_sumOf 1 12 σ3 _ (ps_bdE hK)) ?_
    intro v16 σ17 hT
    clear hK
    have hK := hT
    clear hT
    have hQ := ps_so hK
    exact ps_iret rfl d_X9_count_108 ⟨_, rfl, hQ⟩
  replace hK := ps_ifF c15 hK
  by_cases c18 : p1 = 6
  · replace hK := ps_ifT c18 hK
    refine pm_tabIn (tgt := 109) (off := 99) d_X9_count_10 (by rw [c18]; decide) (by rw [c18]; decide) (by rw [c18]; rfl) (by decide) ?_
    refine pm_ald d_X9_count_109 rfl ?_
    refine pm_ki d_X9_count_110 ?_
    refine pm_ki d_X9_count_112 ?_
    refine ps_cVI d_X9_count_114 mv_X9_sumOf at_327 ob_8_0 rfl (As := [.int 71, .int 6]) rfl rfl (ps_room.of (by omega) (by decide)) (Nat.le_of_ble_eq_true rfl) (C_X9_sumOf 71 6 σ3 _ (ps_bdE hK)) ?_
    intro v19 σ20 hT
    clear hK
    have hK := hT
    clear hT
    have hQ := ps_so hK
    exact ps_iret rfl d_X9_count_117 ⟨_, rfl, hQ⟩
  replace hK := ps_ifF c18 hK
  by_cases c21 : p1 = 7
  · replace hK := ps_ifT c21 hK
    refine pm_tabIn (tgt := 118) (off := 108) d_X9_count_10 (by rw [c21]; decide) (by rw [c21]; decide) (by rw [c21]; rfl) (by decide) ?_
    refine pm_ald d_X9_count_118 rfl ?_
    refine ps_cVI d_X9_count_119 mv_X9_wroteInAll at_327 ob_8_0 rfl (As := []) rfl rfl (ps_room.of (by omega) (by decide)) (Nat.le_of_ble_eq_true rfl) (C_X9_wroteInAll σ3 _ (ps_bdE hK)) ?_
    intro v22 σ23 hT
    clear hK
    have hK := hT
    clear hT
    have hQ := ps_so hK
    exact ps_iret rfl d_X9_count_122 ⟨_, rfl, hQ⟩
  replace hK := ps_ifF c21 hK
  by_cases c24 : p1 = 8
  · replace hK := ps_ifT c24 hK
    refine pm_tabIn (tgt := 123) (off := 113) d_X9_count_10 (by rw [c24]; decide) (by rw [c24]; decide) (by rw [c24]; rfl) (by decide) ?_
    refine pm_ald d_X9_count_123 rfl ?_
    refine ps_getR (q := 328) d_X9_count_124 at_327 f_8_0_1 rfl ?_
    refine pm_ki d_X9_count_127 ?_
    refine ps_iald (x := σ3.1 328 118) d_X9_count_129 at_328 a_8_1 (ps_in_of rfl) rfl ?_
    refine ps_topI (fun v25 ev25 => ?_)
    replace hK := ps_ltE ev25 hK
    have hQ := ps_so hK
    exact ps_iret rfl d_X9_count_130 ⟨_, rfl, hQ⟩
  replace hK := ps_ifF c24 hK
  by_cases c26 : p1 = 9
  · replace hK := ps_ifT c26 hK
    refine pm_tabIn (tgt := 131) (off := 121) d_X9_count_10 (by rw [c26]; decide) (by rw [c26]; decide) (by rw [c26]; rfl) (by decide) ?_
    refine pm_ald d_X9_count_131 rfl ?_
    refine ps_getI d_X9_count_132 at_327 f_8_0_6 rfl ?_
    refine ps_topI (fun v27 ev27 => ?_)
    replace hK := ps_ltE ev27 hK
    have hQ := ps_so hK
    exact ps_iret rfl d_X9_count_135 ⟨_, rfl, hQ⟩
  replace hK := ps_ifF c26 hK
  by_cases c28 : p1 = 10
  · replace hK := ps_ifT c28 hK
    refine pm_tabIn (tgt := 136) (off := 126) d_X9_count_10 (by rw [c28]; decide) (by rw [c28]; decide) (by rw [c28]; rfl) (by decide) ?_
    refine pm_ald d_X9_count_136 rfl ?_
    refine ps_getR (q := 328) d_X9_count_137 at_327 f_8_0_1 rfl ?_
    refine pm_ki d_X9_count_140 ?_
    refine ps_iald (x := σ3.1 328 0) d_X9_count_141 at_328 a_8_1 (ps_in_of rfl) rfl ?_
    refine ps_topI (fun v29 ev29 => ?_)
    replace hK := ps_ltE ev29 hK
    have hQ := ps_so hK
    exact ps_iret rfl d_X9_count_142 ⟨_, rfl, hQ⟩
  replace hK := ps_ifF c28 hK
  refine pm_tabOut (tgt := 143) d_X9_count_10 (by decide) (ps_swout (lo := 0) (n := 11) (by decide) (by decide) (fun k hk => match k, hk with | 0, _ => c4 | 1, _ => c6 | 2, _ => c8 | 3, _ => c10 | 4, _ => c12 | 5, _ => c15 | 6, _ => c18 | 7, _ => c21 | 8, _ => c24 | 9, _ => c26 | 10, _ => c28 | k + 11, hk => absurd hk (by omega))) ?_
  refine pm_ki d_X9_count_143 ?_
  have hQ := ps_so hK
  exact ps_iret rfl d_X9_count_144 ⟨_, rfl, hQ⟩
def qX9_device (p1 : Int32) (p2 : Int32) (σ : ps_S) : Option (Int64 × ps_S) :=
  ps_let (ps_rI σ 327 (upd (σ.1 327) 0 0)) fun σ1 =>
  ps_bd (qX9_isDevice (((p1).toInt64)) σ1) (fun v2 σ3 =>
  if v2 = 0 then
  some ((-2), σ3)
  else
  ps_bd (qX9_begins σ3) (fun _ σ6 =>
  if p2 = 0 then
  if ps_in ((25 + p1)) 83 = true then
  ps_let (σ6.1 335 ((25 + p1)).toNatClampNeg) fun v8 =>
  some (((v8).toInt64), σ6)
  else none
  else
  if p2 = 1 then
  if ps_in ((29 + p1)) 83 = true then
  ps_let (σ6.1 335 ((29 + p1)).toNatClampNeg) fun v11 =>
  some (((v11).toInt64), σ6)
  else none
  else
  if p2 = 2 then
  ps_bd (qX9_dirtyOn p1 σ6) (fun v14 σ15 =>
  some (((v14).toInt64), σ15))
  else
  if p2 = 3 then
  if ps_in ((33 + p1)) 83 = true then
  ps_let (σ6.1 335 ((33 + p1)).toNatClampNeg) fun v17 =>
  some (((v17).toInt64), σ6)
  else none
  else
  if p2 = 4 then
  if ps_in p1 4 = true then
  ps_let (σ6.2.2 336 (p1).toNatClampNeg) fun v20 =>
  if ps_nn (FP.dmul v20 4652007308841189376) = true then
  ps_let (FP.dmul v20 4652007308841189376) fun v21 =>
  some ((FP.d2l (v21)), σ6)
  else none
  else none
  else
  if p2 = 5 then
  if ps_in ((37 + p1)) 83 = true then
  ps_let (σ6.1 335 ((37 + p1)).toNatClampNeg) fun v25 =>
  some (((v25).toInt64), σ6)
  else none
  else
  if p2 = 6 then
  ps_bd (qX9_shareOf p1 σ6) (fun v28 σ29 =>
  some (((v28).toInt64), σ29))
  else
  if p2 = 7 then
  if ps_in ((45 + p1)) 83 = true then
  ps_let (σ6.1 335 ((45 + p1)).toNatClampNeg) fun v31 =>
  some (((v31).toInt64), σ6)
  else none
  else
  if p2 = 8 then
  if ps_in ((49 + p1)) 83 = true then
  ps_let (σ6.1 335 ((49 + p1)).toNatClampNeg) fun v34 =>
  some (((v34).toInt64), σ6)
  else none
  else
  some ((-2), σ6)))
set_option maxRecDepth 100000 in
theorem C_X9_device {g : pm_G} (p1 : Int32) (p2 : Int32) (σ : ps_S) (P : Int64 → ps_S → Prop) (hK : ps_ok (qX9_device p1 p2 σ) P) : ps_C g mX9_device 3 [.ref (g.2.2.1 + 327), .int p1, .int p2] σ (ps_qL P) := by
  unfold qX9_device at hK
  refine ps_C.of (ls := [some (.ref (g.2.2.1 + 327)), some (.int p1), some (.int p2)]) 0 (by decide) rfl (Nat.le_of_ble_eq_true rfl) rfl ?_
  refine pm_ald d_X9_device_0 rfl ?_
  refine pm_ki d_X9_device_1 ?_
  refine ps_putI d_X9_device_2 at_327 f_8_0_0 rfl rfl ?_
  refine ps_nmS (fun σ1 eσ1 => ?_)
  replace hK := ps_ltE eσ1 hK
  refine pm_ald d_X9_device_5 rfl ?_
  refine pm_ild d_X9_device_6 rfl ?_
  refine pm_i2l d_X9_device_7 ?_
  refine ps_cVI d_X9_device_8 mv_X9_isDevice at_327 ob_8_0 rfl (As := [.long ((p1).toInt64)]) rfl rfl (ps_room.of (by omega) (by decide)) (Nat.le_of_ble_eq_true rfl) (C_X9_isDevice (((p1).toInt64)) σ1 _ (ps_bdE hK)) ?_
  intro v2 σ3 hT
  clear hK
  have hK := hT
  clear hT
  refine pm_if_ne d_X9_device_11 (fun c4 => ?_) (fun c4 => ?_)
  · replace hK := ps_ifF c4 hK
    refine pm_ald d_X9_device_18 rfl ?_
    refine ps_cVV d_X9_device_19 mv_X9_begins at_327 ob_8_0 rfl (As := []) rfl rfl (ps_room.of (by omega) (by decide)) (Nat.le_of_ble_eq_true rfl) (C_X9_begins σ3 _ (ps_bdE hK)) ?_
    intro σ6 hT
    clear hK
    have hK := hT
    clear hT
    refine pm_ild d_X9_device_22 rfl ?_
    by_cases c7 : p2 = 0
    · replace hK := ps_ifT c7 hK
      refine pm_tabIn (tgt := 72) (off := 49) d_X9_device_23 (by rw [c7]; decide) (by rw [c7]; decide) (by rw [c7]; rfl) (by decide) ?_
      refine pm_ald d_X9_device_72 rfl ?_
      refine ps_getR (q := 335) d_X9_device_73 at_327 f_8_0_19 rfl ?_
      refine pm_ki d_X9_device_76 ?_
      refine pm_ild d_X9_device_78 rfl ?_
      refine pm_iadd d_X9_device_79 ?_
      obtain ⟨b9, hT⟩ := ps_gd hK
      replace hK := hT
      clear hT
      refine ps_iald d_X9_device_80 at_335 a_8_8 (ps_in_of b9) rfl ?_
      refine ps_topI (fun v8 ev8 => ?_)
      replace hK := ps_ltE ev8 hK
      refine pm_i2l d_X9_device_81 ?_
      have hQ := ps_so hK
      exact ps_lret rfl d_X9_device_82 ⟨_, rfl, hQ⟩
    replace hK := ps_ifF c7 hK
    by_cases c10 : p2 = 1
    · replace hK := ps_ifT c10 hK
      refine pm_tabIn (tgt := 83) (off := 60) d_X9_device_23 (by rw [c10]; decide) (by rw [c10]; decide) (by rw [c10]; rfl) (by decide) ?_
      refine pm_ald d_X9_device_83 rfl ?_
      refine ps_getR (q := 335) d_X9_device_84 at_327 f_8_0_19 rfl ?_
      refine pm_ki d_X9_device_87 ?_
      refine pm_ild d_X9_device_89 rfl ?_
      refine pm_iadd d_X9_device_90 ?_
      obtain ⟨b12, hT⟩ := ps_gd hK
      replace hK := hT
      clear hT
      refine ps_iald d_X9_device_91 at_335 a_8_8 (ps_in_of b12) rfl ?_
      refine ps_topI (fun v11 ev11 => ?_)
      replace hK := ps_ltE ev11 hK
      refine pm_i2l d_X9_device_92 ?_
      have hQ := ps_so hK
      exact ps_lret rfl d_X9_device_93 ⟨_, rfl, hQ⟩
    replace hK := ps_ifF c10 hK
    by_cases c13 : p2 = 2
    · replace hK := ps_ifT c13 hK
      refine pm_tabIn (tgt := 94) (off := 71) d_X9_device_23 (by rw [c13]; decide) (by rw [c13]; decide) (by rw [c13]; rfl) (by decide) ?_
      refine pm_ald d_X9_device_94 rfl ?_
      refine pm_ild d_X9_device_95 rfl ?_
      refine ps_cVI d_X9_device_96 mv_X9_dirtyOn at_327 ob_8_0 rfl (As := [.int p1]) rfl rfl (ps_room.of (by omega) (by decide)) (Nat.le_of_ble_eq_true rfl) (C_X9_dirtyOn p1 σ6 _ (ps_bdE hK)) ?_
      intro v14 σ15 hT
      clear hK
      have hK := hT
      clear hT
      refine pm_i2l d_X9_device_99 ?_
      have hQ := ps_so hK
      exact ps_lret rfl d_X9_device_100 ⟨_, rfl, hQ⟩
    replace hK := ps_ifF c13 hK
    by_cases c16 : p2 = 3
    · replace hK := ps_ifT c16 hK
      refine pm_tabIn (tgt := 101) (off := 78) d_X9_device_23 (by rw [c16]; decide) (by rw [c16]; decide) (by rw [c16]; rfl) (by decide) ?_
      refine pm_ald d_X9_device_101 rfl ?_
      refine ps_getR (q := 335) d_X9_device_102 at_327 f_8_0_19 rfl ?_
      refine pm_ki d_X9_device_105 ?_
      refine pm_ild d_X9_device_107 rfl ?_
      refine pm_iadd d_X9_device_108 ?_
      obtain ⟨b18, hT⟩ := ps_gd hK
      replace hK := hT
      clear hT
      refine ps_iald d_X9_device_109 at_335 a_8_8 (ps_in_of b18) rfl ?_
      refine ps_topI (fun v17 ev17 => ?_)
      replace hK := ps_ltE ev17 hK
      refine pm_i2l d_X9_device_110 ?_
      have hQ := ps_so hK
      exact ps_lret rfl d_X9_device_111 ⟨_, rfl, hQ⟩
    replace hK := ps_ifF c16 hK
    by_cases c19 : p2 = 4
    · replace hK := ps_ifT c19 hK
      refine pm_tabIn (tgt := 112) (off := 89) d_X9_device_23 (by rw [c19]; decide) (by rw [c19]; decide) (by rw [c19]; rfl) (by decide) ?_
      refine pm_ald d_X9_device_112 rfl ?_
      refine ps_getR (q := 336) d_X9_device_113 at_327 f_8_0_20 rfl ?_
      refine pm_ild d_X9_device_116 rfl ?_
      obtain ⟨b23, hT⟩ := ps_gd hK
      replace hK := hT
      clear hT
      refine ps_dald d_X9_device_117 at_336 a_8_9 (ps_in_of b23) rfl ?_
      refine ps_topD (fun v20 ev20 => ?_)
      replace hK := ps_ltE ev20 hK
      refine pm_kd d_X9_device_118 ?_
      obtain ⟨b22, hT⟩ := ps_gd hK
      replace hK := hT
      clear hT
      refine pm_dmul d_X9_device_121 (ps_nn_of b22) ?_
      refine ps_topD (fun v21 ev21 => ?_)
      replace hK := ps_ltE ev21 hK
      refine pm_d2l d_X9_device_122 ?_
      have hQ := ps_so hK
      exact ps_lret rfl d_X9_device_123 ⟨_, rfl, hQ⟩
    replace hK := ps_ifF c19 hK
    by_cases c24 : p2 = 5
    · replace hK := ps_ifT c24 hK
      refine pm_tabIn (tgt := 124) (off := 101) d_X9_device_23 (by rw [c24]; decide) (by rw [c24]; decide) (by rw [c24]; rfl) (by decide) ?_
      refine pm_ald d_X9_device_124 rfl ?_
      refine ps_getR (q := 335) d_X9_device_125 at_327 f_8_0_19 rfl ?_
      refine pm_ki d_X9_device_128 ?_
      refine pm_ild d_X9_device_130 rfl ?_
      refine pm_iadd d_X9_device_131 ?_
      obtain ⟨b26, hT⟩ := ps_gd hK
      replace hK := hT
      clear hT
      refine ps_iald d_X9_device_132 at_335 a_8_8 (ps_in_of b26) rfl ?_
      refine ps_topI (fun v25 ev25 => ?_)
      replace hK := ps_ltE ev25 hK
      refine pm_i2l d_X9_device_133 ?_
      have hQ := ps_so hK
      exact ps_lret rfl d_X9_device_134 ⟨_, rfl, hQ⟩
    replace hK := ps_ifF c24 hK
    by_cases c27 : p2 = 6
    · replace hK := ps_ifT c27 hK
      refine pm_tabIn (tgt := 135) (off := 112) d_X9_device_23 (by rw [c27]; decide) (by rw [c27]; decide) (by rw [c27]; rfl) (by decide) ?_
      refine pm_ald d_X9_device_135 rfl ?_
      refine pm_ild d_X9_device_136 rfl ?_
      refine ps_cVI d_X9_device_137 mv_X9_shareOf at_327 ob_8_0 rfl (As := [.int p1]) rfl rfl (ps_room.of (by omega) (by decide)) (Nat.le_of_ble_eq_true rfl) (C_X9_shareOf p1 σ6 _ (ps_bdE hK)) ?_
      intro v28 σ29 hT
      clear hK
      have hK := hT
      clear hT
      refine pm_i2l d_X9_device_140 ?_
      have hQ := ps_so hK
      exact ps_lret rfl d_X9_device_141 ⟨_, rfl, hQ⟩
    replace hK := ps_ifF c27 hK
    by_cases c30 : p2 = 7
    · replace hK := ps_ifT c30 hK
      refine pm_tabIn (tgt := 142) (off := 119) d_X9_device_23 (by rw [c30]; decide) (by rw [c30]; decide) (by rw [c30]; rfl) (by decide) ?_
      refine pm_ald d_X9_device_142 rfl ?_
      refine ps_getR (q := 335) d_X9_device_143 at_327 f_8_0_19 rfl ?_
      refine pm_ki d_X9_device_146 ?_
      refine pm_ild d_X9_device_148 rfl ?_
      refine pm_iadd d_X9_device_149 ?_
      obtain ⟨b32, hT⟩ := ps_gd hK
      replace hK := hT
      clear hT
      refine ps_iald d_X9_device_150 at_335 a_8_8 (ps_in_of b32) rfl ?_
      refine ps_topI (fun v31 ev31 => ?_)
      replace hK := ps_ltE ev31 hK
      refine pm_i2l d_X9_device_151 ?_
      have hQ := ps_so hK
      exact ps_lret rfl d_X9_device_152 ⟨_, rfl, hQ⟩
    replace hK := ps_ifF c30 hK
    by_cases c33 : p2 = 8
    · replace hK := ps_ifT c33 hK
      refine pm_tabIn (tgt := 153) (off := 130) d_X9_device_23 (by rw [c33]; decide) (by rw [c33]; decide) (by rw [c33]; rfl) (by decide) ?_
      refine pm_ald d_X9_device_153 rfl ?_
      refine ps_getR (q := 335) d_X9_device_154 at_327 f_8_0_19 rfl ?_
      refine pm_ki d_X9_device_157 ?_
      refine pm_ild d_X9_device_159 rfl ?_
      refine pm_iadd d_X9_device_160 ?_
      obtain ⟨b35, hT⟩ := ps_gd hK
      replace hK := hT
      clear hT
      refine ps_iald d_X9_device_161 at_335 a_8_8 (ps_in_of b35) rfl ?_
      refine ps_topI (fun v34 ev34 => ?_)
      replace hK := ps_ltE ev34 hK
      refine pm_i2l d_X9_device_162 ?_
      have hQ := ps_so hK
      exact ps_lret rfl d_X9_device_163 ⟨_, rfl, hQ⟩
    replace hK := ps_ifF c33 hK
    refine pm_tabOut (tgt := 164) d_X9_device_23 (by decide) (ps_swout (lo := 0) (n := 9) (by decide) (by decide) (fun k hk => match k, hk with | 0, _ => c7 | 1, _ => c10 | 2, _ => c13 | 3, _ => c16 | 4, _ => c19 | 5, _ => c24 | 6, _ => c27 | 7, _ => c30 | 8, _ => c33 | k + 9, hk => absurd hk (by omega))) ?_
    refine pm_kl d_X9_device_164 ?_
    have hQ := ps_so hK
    exact ps_lret rfl d_X9_device_167 ⟨_, rfl, hQ⟩
  · replace hK := ps_ifT c4 hK
    refine pm_kl d_X9_device_14 ?_
    have hQ := ps_so hK
    exact ps_lret rfl d_X9_device_17 ⟨_, rfl, hQ⟩
def qX9_drains_16  : Nat → Int32 → ps_S → Option ((Int32 ⊕ (Int32)) × ps_S)
  | 0, _, _ => none
  | n + 1, x1, σ =>
    if 999 < x1 then
    some (.inr x1, σ)
    else
    ps_bd (qX9_allNow σ) (fun v6 σ7 =>
    if v6 = 0 then
    some (.inl x1, σ7)
    else
    ps_bd (qX9_ticksOnce σ7) (fun _ σ10 =>
    ps_let (x1 + 1) fun v11 =>
    qX9_drains_16 n v11 σ10))
set_option maxRecDepth 100000 in
theorem L_X9_drains_16 {g : pm_G} (D : Nat) (hD : 6 ≤ D) {P : Int32 → ps_S → Prop}  : ∀ (n : Nat) (x1 : Int32) (σ : ps_S), ps_ok (qX9_drains_16 n x1 σ) (fun res σ => match res with | .inl r => P r σ | .inr x1 => pm_W g mX9_drains (ps_F g D (ps_qI P)) 0 0 42 [some (.ref (g.2.2.1 + 327)), some (.int x1)] [] 345 (ps_E g σ)) → pm_W g mX9_drains (ps_F g D (ps_qI P)) 0 0 16 [some (.ref (g.2.2.1 + 327)), some (.int x1)] [] 345 (ps_E g σ) := by
  intro n
  induction n with
  | zero => intro x1 σ hK; exact (ps_no hK).elim
  | succ n ih =>
    intro x1 σ hK
    rw [qX9_drains_16] at hK
    refine pm_ild d_X9_drains_16 rfl ?_
    refine pm_ki d_X9_drains_17 ?_
    refine pm_icmp_gt d_X9_drains_20 (fun c5 => ?_) (fun c5 => ?_)
    · replace hK := ps_ifT c5 hK
      exact ps_so hK
    · replace hK := ps_ifF c5 hK
      refine pm_ald d_X9_drains_23 rfl ?_
      refine ps_cVI d_X9_drains_24 mv_X9_allNow at_327 ob_8_0 rfl (As := []) rfl rfl (ps_room.of (by omega) (by decide)) (Nat.le_of_ble_eq_true rfl) (C_X9_allNow σ _ (ps_bdE hK)) ?_
      intro v6 σ7 hT
      clear hK
      have hK := hT
      clear hT
      refine pm_if_ne d_X9_drains_27 (fun c8 => ?_) (fun c8 => ?_)
      · replace hK := ps_ifF c8 hK
        refine pm_ald d_X9_drains_32 rfl ?_
        refine ps_cVV d_X9_drains_33 mv_X9_ticksOnce at_327 ob_8_0 rfl (As := []) rfl rfl (ps_room.of (by omega) (by decide)) (Nat.le_of_ble_eq_true rfl) (C_X9_ticksOnce σ7 _ (ps_bdE hK)) ?_
        intro σ10 hT
        clear hK
        have hK := hT
        clear hT
        refine pm_inc1 d_X9_drains_36 rfl ?_
        obtain ⟨v11, ev11⟩ : ∃ y : Int32, y = x1 + 1 := ⟨_, rfl⟩
        rw [← ev11]
        replace hK := ps_ltE ev11 hK
        refine pm_goto d_X9_drains_39 ?_
        exact ih _ _ hK
      · replace hK := ps_ifT c8 hK
        refine pm_ild d_X9_drains_30 rfl ?_
        have hQ := ps_so hK
        exact ps_iret rfl d_X9_drains_31 ⟨_, rfl, hQ⟩
def qX9_drains  (σ : ps_S) : Option (Int32 × ps_S) :=
  ps_let (ps_rI σ 327 (upd (σ.1 327) 0 0)) fun σ1 =>
  ps_bd (qX9_begins σ1) (fun _ σ3 =>
  ps_let (ps_rI σ3 327 (upd (σ3.1 327) 25 0)) fun σ4 =>
  ps_bd (qX9_drains_16 ps_N 0 σ4) (fun res σ12 => match res with
  | .inl r => some (r, σ12)
  | .inr v13 =>
    some ((-1), σ12)))
set_option maxRecDepth 100000 in
theorem C_X9_drains {g : pm_G}  (σ : ps_S) (P : Int32 → ps_S → Prop) (hK : ps_ok (qX9_drains  σ) P) : ps_C g mX9_drains 6 [.ref (g.2.2.1 + 327)] σ (ps_qI P) := by
  unfold qX9_drains at hK
  refine ps_C.of (ls := [some (.ref (g.2.2.1 + 327)), none]) 1 (by decide) rfl (Nat.le_of_ble_eq_true rfl) rfl ?_
  refine pm_ald d_X9_drains_0 rfl ?_
  refine pm_ki d_X9_drains_1 ?_
  refine ps_putI d_X9_drains_2 at_327 f_8_0_0 rfl rfl ?_
  refine ps_nmS (fun σ1 eσ1 => ?_)
  replace hK := ps_ltE eσ1 hK
  refine pm_ald d_X9_drains_5 rfl ?_
  refine ps_cVV d_X9_drains_6 mv_X9_begins at_327 ob_8_0 rfl (As := []) rfl rfl (ps_room.of (by omega) (by decide)) (Nat.le_of_ble_eq_true rfl) (C_X9_begins σ1 _ (ps_bdE hK)) ?_
  intro σ3 hT
  clear hK
  have hK := hT
  clear hT
  refine pm_ald d_X9_drains_9 rfl ?_
  refine pm_ki d_X9_drains_10 ?_
  refine ps_putI d_X9_drains_11 at_327 f_8_0_25 rfl rfl ?_
  refine ps_nmS (fun σ4 eσ4 => ?_)
  replace hK := ps_ltE eσ4 hK
  refine pm_ki d_X9_drains_14 ?_
  refine pm_ist1 d_X9_drains_15 rfl (by decide) ?_
  refine L_X9_drains_16 _ (by decide) _ _ _ (ps_ok.mono (ps_bdE hK) ?_)
  intro res σ12 hT
  clear hK
  match res, hT with
  | .inl r, hT => exact ps_so hT
  | .inr v13, hT =>
    have hK := hT
    clear hT
    refine pm_ki d_X9_drains_42 ?_
    have hQ := ps_so hK
    exact ps_iret rfl d_X9_drains_43 ⟨_, rfl, hQ⟩
def qX9_enough_58  (y1 : Int32) (y2 : Int32) (y3 : Int32) : Nat → Int32 → ps_S → Option (((Int32)) × ps_S)
  | 0, _, _ => none
  | n + 1, x4, σ =>
    if y1 ≤ x4 then
    some (x4, σ)
    else
    ps_bd (qX9_sumOf 77 6 σ) (fun v14 σ15 =>
    if v14 = y3 then
    ps_bd (qX9_ticksOnce σ15) (fun _ σ18 =>
    ps_let (x4 + 1) fun v19 =>
    qX9_enough_58 y1 y2 y3 n v19 σ18)
    else
    some (x4, σ15))
set_option maxRecDepth 100000 in
theorem L_X9_enough_58 {g : pm_G} (D : Nat) (hD : 6 ≤ D) {P : Int32 → ps_S → Prop}  (y1 : Int32) (y2 : Int32) (y3 : Int32) : ∀ (n : Nat) (x4 : Int32) (σ : ps_S), ps_ok (qX9_enough_58 y1 y2 y3 n x4 σ) (fun res σ => match res with | x4 => pm_W g mX9_enough (ps_F g D (ps_qI P)) 0 0 86 [some (.ref (g.2.2.1 + 327)), some (.int y1), some (.int y2), some (.int y3), some (.int x4)] [] 345 (ps_E g σ)) → pm_W g mX9_enough (ps_F g D (ps_qI P)) 0 0 58 [some (.ref (g.2.2.1 + 327)), some (.int y1), some (.int y2), some (.int y3), some (.int x4)] [] 345 (ps_E g σ) := by
  intro n
  induction n with
  | zero => intro x4 σ hK; exact (ps_no hK).elim
  | succ n ih =>
    intro x4 σ hK
    rw [qX9_enough_58] at hK
    refine pm_ild d_X9_enough_58 rfl ?_
    refine pm_ild d_X9_enough_60 rfl ?_
    refine pm_icmp_ge d_X9_enough_61 (fun c13 => ?_) (fun c13 => ?_)
    · replace hK := ps_ifT c13 hK
      exact ps_so hK
    · replace hK := ps_ifF c13 hK
      refine pm_ald d_X9_enough_64 rfl ?_
      refine pm_ki d_X9_enough_65 ?_
      refine pm_ki d_X9_enough_67 ?_
      refine ps_cVI d_X9_enough_69 mv_X9_sumOf at_327 ob_8_0 rfl (As := [.int 77, .int 6]) rfl rfl (ps_room.of (by omega) (by decide)) (Nat.le_of_ble_eq_true rfl) (C_X9_sumOf 77 6 σ _ (ps_bdE hK)) ?_
      intro v14 σ15 hT
      clear hK
      have hK := hT
      clear hT
      refine pm_ild d_X9_enough_72 rfl ?_
      refine pm_icmp_ne d_X9_enough_73 (fun c16 => ?_) (fun c16 => ?_)
      · replace hK := ps_ifF c16 hK
        exact ps_so hK
      · replace hK := ps_ifT c16 hK
        refine pm_ald d_X9_enough_76 rfl ?_
        refine ps_cVV d_X9_enough_77 mv_X9_ticksOnce at_327 ob_8_0 rfl (As := []) rfl rfl (ps_room.of (by omega) (by decide)) (Nat.le_of_ble_eq_true rfl) (C_X9_ticksOnce σ15 _ (ps_bdE hK)) ?_
        intro σ18 hT
        clear hK
        have hK := hT
        clear hT
        refine pm_inc4 d_X9_enough_80 rfl ?_
        obtain ⟨v19, ev19⟩ : ∃ y : Int32, y = x4 + 1 := ⟨_, rfl⟩
        rw [← ev19]
        replace hK := ps_ltE ev19 hK
        refine pm_goto d_X9_enough_83 ?_
        exact ih _ _ hK
def qX9_enough_30  (y1 : Int32) : Nat → Int32 → ps_S → Option ((Int32 ⊕ (Int32)) × ps_S)
  | 0, _, _ => none
  | n + 1, x2, σ =>
    if 999 < x2 then
    some (.inr x2, σ)
    else
    ps_bd (qX9_begins σ) (fun _ σ9 =>
    ps_let (ps_rI σ9 327 (upd (σ9.1 327) 21 x2)) fun σ10 =>
    ps_bd (qX9_sumOf 77 6 σ10) (fun v11 σ12 =>
    ps_bd (qX9_enough_58 y1 x2 v11 ps_N 0 σ12) (fun res σ20 => match res with
    | v21 =>
      ps_bd (qX9_sumOf 77 6 σ20) (fun v22 σ23 =>
      if v22 = v11 then
      some (.inl x2, σ23)
      else
      ps_let (x2 + 1) fun v25 =>
      qX9_enough_30 y1 n v25 σ23))))
set_option maxRecDepth 100000 in
theorem L_X9_enough_30 {g : pm_G} (D : Nat) (hD : 6 ≤ D) {P : Int32 → ps_S → Prop}  (y1 : Int32) : ∀ (n : Nat) (x2 : Int32) (σ : ps_S), ps_ok (qX9_enough_30 y1 n x2 σ) (fun res σ => match res with | .inl r => P r σ | .inr x2 => pm_W g mX9_enough (ps_F g D (ps_qI P)) 0 0 106 [some (.ref (g.2.2.1 + 327)), some (.int y1), some (.int x2), none, none] [] 345 (ps_E g σ)) → pm_W g mX9_enough (ps_F g D (ps_qI P)) 0 0 30 [some (.ref (g.2.2.1 + 327)), some (.int y1), some (.int x2), none, none] [] 345 (ps_E g σ) := by
  intro n
  induction n with
  | zero => intro x2 σ hK; exact (ps_no hK).elim
  | succ n ih =>
    intro x2 σ hK
    rw [qX9_enough_30] at hK
    refine pm_ild d_X9_enough_30 rfl ?_
    refine pm_ki d_X9_enough_31 ?_
    refine pm_icmp_gt d_X9_enough_34 (fun c7 => ?_) (fun c7 => ?_)
    · replace hK := ps_ifT c7 hK
      exact ps_so hK
    · replace hK := ps_ifF c7 hK
      refine pm_ald d_X9_enough_37 rfl ?_
      refine ps_cVV d_X9_enough_38 mv_X9_begins at_327 ob_8_0 rfl (As := []) rfl rfl (ps_room.of (by omega) (by decide)) (Nat.le_of_ble_eq_true rfl) (C_X9_begins σ _ (ps_bdE hK)) ?_
      intro σ9 hT
      clear hK
      have hK := hT
      clear hT
      refine pm_ald d_X9_enough_41 rfl ?_
      refine pm_ild d_X9_enough_42 rfl ?_
      refine ps_putI d_X9_enough_43 at_327 f_8_0_21 rfl rfl ?_
      refine ps_nmS (fun σ10 eσ10 => ?_)
      replace hK := ps_ltE eσ10 hK
      refine pm_ald d_X9_enough_46 rfl ?_
      refine pm_ki d_X9_enough_47 ?_
      refine pm_ki d_X9_enough_49 ?_
      refine ps_cVI d_X9_enough_51 mv_X9_sumOf at_327 ob_8_0 rfl (As := [.int 77, .int 6]) rfl rfl (ps_room.of (by omega) (by decide)) (Nat.le_of_ble_eq_true rfl) (C_X9_sumOf 77 6 σ10 _ (ps_bdE hK)) ?_
      intro v11 σ12 hT
      clear hK
      have hK := hT
      clear hT
      refine pm_ist3 d_X9_enough_54 rfl (by decide) ?_
      refine pm_ki d_X9_enough_55 ?_
      refine pm_ist4 d_X9_enough_56 rfl (by decide) ?_
      refine L_X9_enough_58 D hD y1 x2 v11 _ _ _ (ps_ok.mono (ps_bdE hK) ?_)
      rintro v21 σ20 hT
      clear hK
      have hK := hT
      clear hT
      refine pm_ald d_X9_enough_86 rfl ?_
      refine pm_ki d_X9_enough_87 ?_
      refine pm_ki d_X9_enough_89 ?_
      refine ps_cVI d_X9_enough_91 mv_X9_sumOf at_327 ob_8_0 rfl (As := [.int 77, .int 6]) rfl rfl (ps_room.of (by omega) (by decide)) (Nat.le_of_ble_eq_true rfl) (C_X9_sumOf 77 6 σ20 _ (ps_bdE hK)) ?_
      intro v22 σ23 hT
      clear hK
      have hK := hT
      clear hT
      refine pm_ild d_X9_enough_94 rfl ?_
      refine pm_icmp_ne d_X9_enough_95 (fun c24 => ?_) (fun c24 => ?_)
      · replace hK := ps_ifF c24 hK
        refine pm_inc2 d_X9_enough_100 rfl ?_
        obtain ⟨v25, ev25⟩ : ∃ y : Int32, y = x2 + 1 := ⟨_, rfl⟩
        rw [← ev25]
        replace hK := ps_ltE ev25 hK
        refine pm_goto d_X9_enough_103 ?_
        refine pm_wk (ls' := [some (.ref (g.2.2.1 + 327)), some (.int y1), some (.int v25), none, none]) ⟨rfl, ⟨rfl, ⟨rfl, trivial⟩⟩⟩ ?_
        exact ih _ _ hK
      · replace hK := ps_ifT c24 hK
        refine pm_ild d_X9_enough_98 rfl ?_
        have hQ := ps_so hK
        exact ps_iret rfl d_X9_enough_99 ⟨_, rfl, hQ⟩
def qX9_enough (p1 : Int32) (σ : ps_S) : Option (Int32 × ps_S) :=
  ps_let (ps_rI σ 327 (upd (σ.1 327) 0 0)) fun σ1 =>
  ps_bd (qX9_within (((p1).toInt64)) 1 99 σ1) (fun v2 σ3 =>
  if v2 = 0 then
  some ((-3), σ3)
  else
  ps_let (σ3.1 328 11) fun v5 =>
  ps_let ((v5 + 1)) fun v6 =>
  ps_bd (qX9_enough_30 p1 ps_N v6 σ3) (fun res σ26 => match res with
  | .inl r => some (r, σ26)
  | .inr v27 =>
    some ((-1), σ26)))
set_option maxRecDepth 100000 in
theorem C_X9_enough {g : pm_G} (p1 : Int32) (σ : ps_S) (P : Int32 → ps_S → Prop) (hK : ps_ok (qX9_enough p1 σ) P) : ps_C g mX9_enough 6 [.ref (g.2.2.1 + 327), .int p1] σ (ps_qI P) := by
  unfold qX9_enough at hK
  refine ps_C.of (ls := [some (.ref (g.2.2.1 + 327)), some (.int p1), none, none, none]) 3 (by decide) rfl (Nat.le_of_ble_eq_true rfl) rfl ?_
  refine pm_ald d_X9_enough_0 rfl ?_
  refine pm_ki d_X9_enough_1 ?_
  refine ps_putI d_X9_enough_2 at_327 f_8_0_0 rfl rfl ?_
  refine ps_nmS (fun σ1 eσ1 => ?_)
  replace hK := ps_ltE eσ1 hK
  refine pm_ild d_X9_enough_5 rfl ?_
  refine pm_i2l d_X9_enough_6 ?_
  refine pm_kl d_X9_enough_7 ?_
  refine pm_kl d_X9_enough_8 ?_
  refine ps_cSI d_X9_enough_11 ms_X9_within (As := [.long ((p1).toInt64), .long 1, .long 99]) rfl rfl (ps_room.of (by omega) (by decide)) (Nat.le_of_ble_eq_true rfl) (C_X9_within (((p1).toInt64)) 1 99 σ1 _ (ps_bdE hK)) ?_
  intro v2 σ3 hT
  clear hK
  have hK := hT
  clear hT
  refine pm_if_ne d_X9_enough_14 (fun c4 => ?_) (fun c4 => ?_)
  · replace hK := ps_ifF c4 hK
    refine pm_ald d_X9_enough_20 rfl ?_
    refine ps_getR (q := 328) d_X9_enough_21 at_327 f_8_0_1 rfl ?_
    refine pm_ki d_X9_enough_24 ?_
    refine ps_iald (x := σ3.1 328 11) d_X9_enough_26 at_328 a_8_1 (ps_in_of rfl) rfl ?_
    refine ps_topI (fun v5 ev5 => ?_)
    replace hK := ps_ltE ev5 hK
    refine pm_ki d_X9_enough_27 ?_
    refine pm_iadd d_X9_enough_28 ?_
    refine ps_topI (fun v6 ev6 => ?_)
    replace hK := ps_ltE ev6 hK
    refine pm_ist2 d_X9_enough_29 rfl (by decide) ?_
    refine L_X9_enough_30 _ (by decide) p1 _ _ _ (ps_ok.mono (ps_bdE hK) ?_)
    intro res σ26 hT
    clear hK
    match res, hT with
    | .inl r, hT => exact ps_so hT
    | .inr v27, hT =>
      have hK := hT
      clear hT
      refine pm_ki d_X9_enough_106 ?_
      have hQ := ps_so hK
      exact ps_iret rfl d_X9_enough_107 ⟨_, rfl, hQ⟩
  · replace hK := ps_ifT c4 hK
    refine pm_ki d_X9_enough_17 ?_
    have hQ := ps_so hK
    exact ps_iret rfl d_X9_enough_19 ⟨_, rfl, hQ⟩
def qX9_laysPages_6  (y1 : Int32) : Nat → Int32 → ps_S → Option (((Int32)) × ps_S)
  | 0, _, _ => none
  | n + 1, x2, σ =>
    if 6 ≤ x2 then
    some (x2, σ)
    else
    if ps_in ((71 + x2)) 83 = true then
    ps_let (σ.1 335 ((71 + x2)).toNatClampNeg) fun v4 =>
    if ps_in x2 6 = true then
    ps_let (ps_rI σ 339 (upd (σ.1 339) (x2).toNatClampNeg v4)) fun σ5 =>
    ps_let (x2 + 1) fun v6 =>
    qX9_laysPages_6 y1 n v6 σ5
    else none
    else none
set_option maxRecDepth 100000 in
theorem L_X9_laysPages_6 {g : pm_G} (D : Nat) (hD : 7 ≤ D) {P : Unit → ps_S → Prop}  (y1 : Int32) : ∀ (n : Nat) (x2 : Int32) (σ : ps_S), ps_ok (qX9_laysPages_6 y1 n x2 σ) (fun res σ => match res with | x2 => pm_W g mX9_laysPages (ps_F g D (ps_qV P)) 0 0 33 [some (.ref (g.2.2.1 + 327)), some (.int y1), some (.int x2)] [] 345 (ps_E g σ)) → pm_W g mX9_laysPages (ps_F g D (ps_qV P)) 0 0 6 [some (.ref (g.2.2.1 + 327)), some (.int y1), some (.int x2)] [] 345 (ps_E g σ) := by
  intro n
  induction n with
  | zero => intro x2 σ hK; exact (ps_no hK).elim
  | succ n ih =>
    intro x2 σ hK
    rw [qX9_laysPages_6] at hK
    refine pm_ild d_X9_laysPages_6 rfl ?_
    refine pm_ki d_X9_laysPages_7 ?_
    refine pm_icmp_ge d_X9_laysPages_9 (fun c3 => ?_) (fun c3 => ?_)
    · replace hK := ps_ifT c3 hK
      exact ps_so hK
    · replace hK := ps_ifF c3 hK
      refine pm_ald d_X9_laysPages_12 rfl ?_
      refine ps_getR (q := 339) d_X9_laysPages_13 at_327 f_8_0_30 rfl ?_
      refine pm_ild d_X9_laysPages_16 rfl ?_
      refine pm_ald d_X9_laysPages_17 rfl ?_
      refine ps_getR (q := 335) d_X9_laysPages_18 at_327 f_8_0_19 rfl ?_
      refine pm_ki d_X9_laysPages_21 ?_
      refine pm_ild d_X9_laysPages_23 rfl ?_
      refine pm_iadd d_X9_laysPages_24 ?_
      obtain ⟨b8, hT⟩ := ps_gd hK
      replace hK := hT
      clear hT
      refine ps_iald d_X9_laysPages_25 at_335 a_8_8 (ps_in_of b8) rfl ?_
      refine ps_topI (fun v4 ev4 => ?_)
      replace hK := ps_ltE ev4 hK
      obtain ⟨b7, hT⟩ := ps_gd hK
      replace hK := hT
      clear hT
      refine ps_iast d_X9_laysPages_26 at_339 a_8_12 (ps_in_of b7) ?_
      refine ps_nmS (fun σ5 eσ5 => ?_)
      replace hK := ps_ltE eσ5 hK
      refine pm_inc2 d_X9_laysPages_27 rfl ?_
      obtain ⟨v6, ev6⟩ : ∃ y : Int32, y = x2 + 1 := ⟨_, rfl⟩
      rw [← ev6]
      replace hK := ps_ltE ev6 hK
      refine pm_goto d_X9_laysPages_30 ?_
      exact ih _ _ hK
def qX9_laysPages_40  (y1 : Int32) : Nat → Int32 → ps_S → Option (((Int32)) × ps_S)
  | 0, _, _ => none
  | n + 1, x2, σ =>
    if 6 ≤ x2 then
    some (x2, σ)
    else
    if ps_in ((71 + x2)) 83 = true then
    ps_let (σ.1 335 ((71 + x2)).toNatClampNeg) fun v14 =>
    if ps_in x2 6 = true then
    ps_let (σ.1 339 (x2).toNatClampNeg) fun v15 =>
    if ps_in x2 6 = true then
    ps_let (ps_rI σ 339 (upd (σ.1 339) (x2).toNatClampNeg ((v14 - v15)))) fun σ16 =>
    ps_let (x2 + 1) fun v17 =>
    qX9_laysPages_40 y1 n v17 σ16
    else none
    else none
    else none
set_option maxRecDepth 100000 in
theorem L_X9_laysPages_40 {g : pm_G} (D : Nat) (hD : 7 ≤ D) {P : Unit → ps_S → Prop}  (y1 : Int32) : ∀ (n : Nat) (x2 : Int32) (σ : ps_S), ps_ok (qX9_laysPages_40 y1 n x2 σ) (fun res σ => match res with | x2 => pm_W g mX9_laysPages (ps_F g D (ps_qV P)) 0 0 74 [some (.ref (g.2.2.1 + 327)), some (.int y1), some (.int x2)] [] 345 (ps_E g σ)) → pm_W g mX9_laysPages (ps_F g D (ps_qV P)) 0 0 40 [some (.ref (g.2.2.1 + 327)), some (.int y1), some (.int x2)] [] 345 (ps_E g σ) := by
  intro n
  induction n with
  | zero => intro x2 σ hK; exact (ps_no hK).elim
  | succ n ih =>
    intro x2 σ hK
    rw [qX9_laysPages_40] at hK
    refine pm_ild d_X9_laysPages_40 rfl ?_
    refine pm_ki d_X9_laysPages_41 ?_
    refine pm_icmp_ge d_X9_laysPages_43 (fun c13 => ?_) (fun c13 => ?_)
    · replace hK := ps_ifT c13 hK
      exact ps_so hK
    · replace hK := ps_ifF c13 hK
      refine pm_ald d_X9_laysPages_46 rfl ?_
      refine ps_getR (q := 339) d_X9_laysPages_47 at_327 f_8_0_30 rfl ?_
      refine pm_ild d_X9_laysPages_50 rfl ?_
      refine pm_ald d_X9_laysPages_51 rfl ?_
      refine ps_getR (q := 335) d_X9_laysPages_52 at_327 f_8_0_19 rfl ?_
      refine pm_ki d_X9_laysPages_55 ?_
      refine pm_ild d_X9_laysPages_57 rfl ?_
      refine pm_iadd d_X9_laysPages_58 ?_
      obtain ⟨b20, hT⟩ := ps_gd hK
      replace hK := hT
      clear hT
      refine ps_iald d_X9_laysPages_59 at_335 a_8_8 (ps_in_of b20) rfl ?_
      refine ps_topI (fun v14 ev14 => ?_)
      replace hK := ps_ltE ev14 hK
      refine pm_ald d_X9_laysPages_60 rfl ?_
      refine ps_getR (q := 339) d_X9_laysPages_61 at_327 f_8_0_30 rfl ?_
      refine pm_ild d_X9_laysPages_64 rfl ?_
      obtain ⟨b19, hT⟩ := ps_gd hK
      replace hK := hT
      clear hT
      refine ps_iald d_X9_laysPages_65 at_339 a_8_12 (ps_in_of b19) rfl ?_
      refine ps_topI (fun v15 ev15 => ?_)
      replace hK := ps_ltE ev15 hK
      refine pm_isub d_X9_laysPages_66 ?_
      obtain ⟨b18, hT⟩ := ps_gd hK
      replace hK := hT
      clear hT
      refine ps_iast d_X9_laysPages_67 at_339 a_8_12 (ps_in_of b18) ?_
      refine ps_nmS (fun σ16 eσ16 => ?_)
      replace hK := ps_ltE eσ16 hK
      refine pm_inc2 d_X9_laysPages_68 rfl ?_
      obtain ⟨v17, ev17⟩ : ∃ y : Int32, y = x2 + 1 := ⟨_, rfl⟩
      rw [← ev17]
      replace hK := ps_ltE ev17 hK
      refine pm_goto d_X9_laysPages_71 ?_
      exact ih _ _ hK
def qX9_laysPages (p1 : Int32) (σ : ps_S) : Option (Unit × ps_S) :=
  ps_bd (qX9_begins σ) (fun _ σ2 =>
  ps_bd (qX9_laysPages_6 p1 ps_N 0 σ2) (fun res σ9 => match res with
  | v10 =>
    ps_bd (qX9_ticksFor p1 σ9) (fun _ σ12 =>
    ps_bd (qX9_laysPages_40 p1 ps_N 0 σ12) (fun res σ21 => match res with
    | v22 =>
      some ((), σ21)))))
set_option maxRecDepth 100000 in
theorem C_X9_laysPages {g : pm_G} (p1 : Int32) (σ : ps_S) (P : Unit → ps_S → Prop) (hK : ps_ok (qX9_laysPages p1 σ) P) : ps_C g mX9_laysPages 7 [.ref (g.2.2.1 + 327), .int p1] σ (ps_qV P) := by
  unfold qX9_laysPages at hK
  refine ps_C.of (ls := [some (.ref (g.2.2.1 + 327)), some (.int p1), none]) 1 (by decide) rfl (Nat.le_of_ble_eq_true rfl) rfl ?_
  refine pm_ald d_X9_laysPages_0 rfl ?_
  refine ps_cVV d_X9_laysPages_1 mv_X9_begins at_327 ob_8_0 rfl (As := []) rfl rfl (ps_room.of (by omega) (by decide)) (Nat.le_of_ble_eq_true rfl) (C_X9_begins σ _ (ps_bdE hK)) ?_
  intro σ2 hT
  clear hK
  have hK := hT
  clear hT
  refine pm_ki d_X9_laysPages_4 ?_
  refine pm_ist2 d_X9_laysPages_5 rfl (by decide) ?_
  refine L_X9_laysPages_6 _ (by decide) p1 _ _ _ (ps_ok.mono (ps_bdE hK) ?_)
  rintro v10 σ9 hT
  clear hK
  have hK := hT
  clear hT
  refine pm_ald d_X9_laysPages_33 rfl ?_
  refine pm_ild d_X9_laysPages_34 rfl ?_
  refine ps_cVV d_X9_laysPages_35 mv_X9_ticksFor at_327 ob_8_0 rfl (As := [.int p1]) rfl rfl (ps_room.of (by omega) (by decide)) (Nat.le_of_ble_eq_true rfl) (C_X9_ticksFor p1 σ9 _ (ps_bdE hK)) ?_
  intro σ12 hT
  clear hK
  have hK := hT
  clear hT
  refine pm_ki d_X9_laysPages_38 ?_
  refine pm_ist2 d_X9_laysPages_39 rfl (by decide) ?_
  refine L_X9_laysPages_40 _ (by decide) p1 _ _ _ (ps_ok.mono (ps_bdE hK) ?_)
  rintro v22 σ21 hT
  clear hK
  have hK := hT
  clear hT
  have hQ := ps_so hK
  exact ps_vret rfl d_X9_laysPages_74 ⟨rfl, hQ⟩
def qX9_fair_48  (y1 : Int32) (y2 : Int32) : Nat → Int64 → Int64 → Int32 → ps_S → Option (((Int64 × Int64 × Int32)) × ps_S)
  | 0, _, _, _, _ => none
  | n + 1, x3, x5, x7, σ =>
    ps_let (σ.1 328 3) fun v10 =>
    if v10 ≤ x7 then
    some ((x3, x5, x7), σ)
    else
    if ps_in x7 6 = true then
    ps_let (σ.1 339 (x7).toNatClampNeg) fun v12 =>
    ps_let ((x3 + (((v12).toInt64)))) fun v13 =>
    if ps_in x7 6 = true then
    ps_let (σ.1 339 (x7).toNatClampNeg) fun v14 =>
    if ps_in x7 6 = true then
    ps_let (σ.1 339 (x7).toNatClampNeg) fun v15 =>
    ps_let ((x5 + (((((v14).toInt64)) * (((v15).toInt64)))))) fun v16 =>
    ps_let (x7 + 1) fun v17 =>
    qX9_fair_48 y1 y2 n v13 v16 v17 σ
    else none
    else none
    else none
set_option maxRecDepth 100000 in
theorem L_X9_fair_48 {g : pm_G} (D : Nat) (hD : 102 ≤ D) {P : Int64 → ps_S → Prop}  (y1 : Int32) (y2 : Int32) : ∀ (n : Nat) (x3 : Int64) (x5 : Int64) (x7 : Int32) (σ : ps_S), ps_ok (qX9_fair_48 y1 y2 n x3 x5 x7 σ) (fun res σ => match res with | (x3, x5, x7) => pm_W g mX9_fair (ps_F g D (ps_qL P)) 0 0 98 [some (.ref (g.2.2.1 + 327)), some (.int y1), some (.int y2), some (.long x3), none, some (.long x5), none, some (.int x7), none, none, none] [] 345 (ps_E g σ)) → pm_W g mX9_fair (ps_F g D (ps_qL P)) 0 0 48 [some (.ref (g.2.2.1 + 327)), some (.int y1), some (.int y2), some (.long x3), none, some (.long x5), none, some (.int x7), none, none, none] [] 345 (ps_E g σ) := by
  intro n
  induction n with
  | zero => intro x3 x5 x7 σ hK; exact (ps_no hK).elim
  | succ n ih =>
    intro x3 x5 x7 σ hK
    rw [qX9_fair_48] at hK
    refine pm_ild d_X9_fair_48 rfl ?_
    refine pm_ald d_X9_fair_50 rfl ?_
    refine ps_getR (q := 328) d_X9_fair_51 at_327 f_8_0_1 rfl ?_
    refine pm_ki d_X9_fair_54 ?_
    refine ps_iald (x := σ.1 328 3) d_X9_fair_55 at_328 a_8_1 (ps_in_of rfl) rfl ?_
    refine ps_topI (fun v10 ev10 => ?_)
    replace hK := ps_ltE ev10 hK
    refine pm_icmp_ge d_X9_fair_56 (fun c11 => ?_) (fun c11 => ?_)
    · replace hK := ps_ifT c11 hK
      exact ps_so hK
    · replace hK := ps_ifF c11 hK
      refine pm_lld d_X9_fair_59 rfl ?_
      refine pm_ald d_X9_fair_60 rfl ?_
      refine ps_getR (q := 339) d_X9_fair_61 at_327 f_8_0_30 rfl ?_
      refine pm_ild d_X9_fair_64 rfl ?_
      obtain ⟨b20, hT⟩ := ps_gd hK
      replace hK := hT
      clear hT
      refine ps_iald d_X9_fair_66 at_339 a_8_12 (ps_in_of b20) rfl ?_
      refine ps_topI (fun v12 ev12 => ?_)
      replace hK := ps_ltE ev12 hK
      refine pm_i2l d_X9_fair_67 ?_
      refine pm_ladd d_X9_fair_68 ?_
      refine ps_topL (fun v13 ev13 => ?_)
      replace hK := ps_ltE ev13 hK
      refine pm_lst3 d_X9_fair_69 rfl (by decide) ?_
      refine pm_lld d_X9_fair_70 rfl ?_
      refine pm_ald d_X9_fair_72 rfl ?_
      refine ps_getR (q := 339) d_X9_fair_73 at_327 f_8_0_30 rfl ?_
      refine pm_ild d_X9_fair_76 rfl ?_
      obtain ⟨b19, hT⟩ := ps_gd hK
      replace hK := hT
      clear hT
      refine ps_iald d_X9_fair_78 at_339 a_8_12 (ps_in_of b19) rfl ?_
      refine ps_topI (fun v14 ev14 => ?_)
      replace hK := ps_ltE ev14 hK
      refine pm_i2l d_X9_fair_79 ?_
      refine pm_ald d_X9_fair_80 rfl ?_
      refine ps_getR (q := 339) d_X9_fair_81 at_327 f_8_0_30 rfl ?_
      refine pm_ild d_X9_fair_84 rfl ?_
      obtain ⟨b18, hT⟩ := ps_gd hK
      replace hK := hT
      clear hT
      refine ps_iald d_X9_fair_86 at_339 a_8_12 (ps_in_of b18) rfl ?_
      refine ps_topI (fun v15 ev15 => ?_)
      replace hK := ps_ltE ev15 hK
      refine pm_i2l d_X9_fair_87 ?_
      refine pm_lmul d_X9_fair_88 ?_
      refine pm_ladd d_X9_fair_89 ?_
      refine ps_topL (fun v16 ev16 => ?_)
      replace hK := ps_ltE ev16 hK
      refine pm_lst5 d_X9_fair_90 rfl (by decide) ?_
      refine pm_inc7 d_X9_fair_92 rfl ?_
      obtain ⟨v17, ev17⟩ : ∃ y : Int32, y = x7 + 1 := ⟨_, rfl⟩
      rw [← ev17]
      replace hK := ps_ltE ev17 hK
      refine pm_goto d_X9_fair_95 ?_
      exact ih _ _ _ _ hK
def qX9_fair (p1 : Int32) (p2 : Int32) (σ : ps_S) : Option (Int64 × ps_S) :=
  ps_let (ps_rI σ 327 (upd (σ.1 327) 0 0)) fun σ1 =>
  ps_bd (qX9_within (((p2).toInt64)) 0 1 σ1) (fun v2 σ3 =>
  if v2 = 0 then
  some ((-2), σ3)
  else
  ps_bd (qX9_within (((p1).toInt64)) 1 999 σ3) (fun v5 σ6 =>
  if v5 = 0 then
  some ((-3), σ6)
  else
  ps_bd (qX9_laysPages p1 σ6) (fun _ σ9 =>
  ps_bd (qX9_fair_48 p1 p2 ps_N 0 0 0 σ9) (fun res σ21 => match res with
  | (v22, v23, v24) =>
    if ((lg_cmp v22 0)) = 0 then
    some ((-1), σ21)
    else
    ps_let ((v22 * v22)) fun v26 =>
    ps_let (σ21.1 328 3) fun v27 =>
    ps_let (((((v27).toInt64)) * v23)) fun v28 =>
    if p2 = 0 then
    ps_bd (qX9_common v26 v28 σ21) (fun v33 σ34 =>
    if v33 = 0 then none else
    some ((v26 / v33), σ34))
    else
    ps_bd (qX9_common v26 v28 σ21) (fun v30 σ31 =>
    if v30 = 0 then none else
    some ((v28 / v30), σ31))))))
set_option maxRecDepth 100000 in
theorem C_X9_fair {g : pm_G} (p1 : Int32) (p2 : Int32) (σ : ps_S) (P : Int64 → ps_S → Prop) (hK : ps_ok (qX9_fair p1 p2 σ) P) : ps_C g mX9_fair 102 [.ref (g.2.2.1 + 327), .int p1, .int p2] σ (ps_qL P) := by
  unfold qX9_fair at hK
  refine ps_C.of (ls := [some (.ref (g.2.2.1 + 327)), some (.int p1), some (.int p2), none, none, none, none, none, none, none, none]) 8 (by decide) rfl (Nat.le_of_ble_eq_true rfl) rfl ?_
  refine pm_ald d_X9_fair_0 rfl ?_
  refine pm_ki d_X9_fair_1 ?_
  refine ps_putI d_X9_fair_2 at_327 f_8_0_0 rfl rfl ?_
  refine ps_nmS (fun σ1 eσ1 => ?_)
  replace hK := ps_ltE eσ1 hK
  refine pm_ild d_X9_fair_5 rfl ?_
  refine pm_i2l d_X9_fair_6 ?_
  refine pm_kl d_X9_fair_7 ?_
  refine pm_kl d_X9_fair_8 ?_
  refine ps_cSI d_X9_fair_9 ms_X9_within (As := [.long ((p2).toInt64), .long 0, .long 1]) rfl rfl (ps_room.of (by omega) (by decide)) (Nat.le_of_ble_eq_true rfl) (C_X9_within (((p2).toInt64)) 0 1 σ1 _ (ps_bdE hK)) ?_
  intro v2 σ3 hT
  clear hK
  have hK := hT
  clear hT
  refine pm_if_ne d_X9_fair_12 (fun c4 => ?_) (fun c4 => ?_)
  · replace hK := ps_ifF c4 hK
    refine pm_ild d_X9_fair_19 rfl ?_
    refine pm_i2l d_X9_fair_20 ?_
    refine pm_kl d_X9_fair_21 ?_
    refine pm_kl d_X9_fair_22 ?_
    refine ps_cSI d_X9_fair_25 ms_X9_within (As := [.long ((p1).toInt64), .long 1, .long 999]) rfl rfl (ps_room.of (by omega) (by decide)) (Nat.le_of_ble_eq_true rfl) (C_X9_within (((p1).toInt64)) 1 999 σ3 _ (ps_bdE hK)) ?_
    intro v5 σ6 hT
    clear hK
    have hK := hT
    clear hT
    refine pm_if_ne d_X9_fair_28 (fun c7 => ?_) (fun c7 => ?_)
    · replace hK := ps_ifF c7 hK
      refine pm_ald d_X9_fair_35 rfl ?_
      refine pm_ild d_X9_fair_36 rfl ?_
      refine ps_cVV d_X9_fair_37 mv_X9_laysPages at_327 ob_8_0 rfl (As := [.int p1]) rfl rfl (ps_room.of (by omega) (by decide)) (Nat.le_of_ble_eq_true rfl) (C_X9_laysPages p1 σ6 _ (ps_bdE hK)) ?_
      intro σ9 hT
      clear hK
      have hK := hT
      clear hT
      refine pm_kl d_X9_fair_40 ?_
      refine pm_lst3 d_X9_fair_41 rfl (by decide) ?_
      refine pm_kl d_X9_fair_42 ?_
      refine pm_lst5 d_X9_fair_43 rfl (by decide) ?_
      refine pm_ki d_X9_fair_45 ?_
      refine pm_ist7 d_X9_fair_46 rfl (by decide) ?_
      refine L_X9_fair_48 _ (by decide) p1 p2 _ _ _ _ _ (ps_ok.mono (ps_bdE hK) ?_)
      rintro ⟨v22, v23, v24⟩ σ21 hT
      clear hK
      have hK := hT
      clear hT
      refine pm_lld d_X9_fair_98 rfl ?_
      refine pm_kl d_X9_fair_99 ?_
      refine pm_lcmp d_X9_fair_100 ?_
      refine pm_if_ne d_X9_fair_101 (fun c25 => ?_) (fun c25 => ?_)
      · replace hK := ps_ifF c25 hK
        refine pm_lld d_X9_fair_108 rfl ?_
        refine pm_lld d_X9_fair_109 rfl ?_
        refine pm_lmul d_X9_fair_110 ?_
        refine ps_topL (fun v26 ev26 => ?_)
        replace hK := ps_ltE ev26 hK
        refine pm_lst7 d_X9_fair_111 rfl (by decide) ?_
        refine pm_ald d_X9_fair_113 rfl ?_
        refine ps_getR (q := 328) d_X9_fair_114 at_327 f_8_0_1 rfl ?_
        refine pm_ki d_X9_fair_117 ?_
        refine ps_iald (x := σ21.1 328 3) d_X9_fair_118 at_328 a_8_1 (ps_in_of rfl) rfl ?_
        refine ps_topI (fun v27 ev27 => ?_)
        replace hK := ps_ltE ev27 hK
        refine pm_i2l d_X9_fair_119 ?_
        refine pm_lld d_X9_fair_120 rfl ?_
        refine pm_lmul d_X9_fair_122 ?_
        refine ps_topL (fun v28 ev28 => ?_)
        replace hK := ps_ltE ev28 hK
        refine pm_lst9 d_X9_fair_123 rfl (by decide) ?_
        refine pm_ild d_X9_fair_125 rfl ?_
        refine pm_if_ne d_X9_fair_126 (fun c29 => ?_) (fun c29 => ?_)
        · replace hK := ps_ifF c29 hK
          refine pm_lld d_X9_fair_134 rfl ?_
          refine pm_lld d_X9_fair_136 rfl ?_
          refine pm_lld d_X9_fair_138 rfl ?_
          refine ps_cSL d_X9_fair_140 ms_X9_common (As := [.long v26, .long v28]) rfl rfl (ps_room.of (by omega) (by decide)) (Nat.le_of_ble_eq_true rfl) (C_X9_common v26 v28 σ21 _ (ps_bdE hK)) ?_
          intro v30 σ31 hT
          clear hK
          have hK := hT
          clear hT
          by_cases z32 : v30 = 0
          · exact (ps_no (ps_ifT z32 hK)).elim
          replace hK := ps_ifF z32 hK
          refine pm_ldiv d_X9_fair_143 z32 ?_
          have hQ := ps_so hK
          exact ps_lret rfl d_X9_fair_144 ⟨_, rfl, hQ⟩
        · replace hK := ps_ifT c29 hK
          refine pm_lld d_X9_fair_129 rfl ?_
          refine pm_goto d_X9_fair_131 ?_
          refine pm_lld d_X9_fair_136 rfl ?_
          refine pm_lld d_X9_fair_138 rfl ?_
          refine ps_cSL d_X9_fair_140 ms_X9_common (As := [.long v26, .long v28]) rfl rfl (ps_room.of (by omega) (by decide)) (Nat.le_of_ble_eq_true rfl) (C_X9_common v26 v28 σ21 _ (ps_bdE hK)) ?_
          intro v33 σ34 hT
          clear hK
          have hK := hT
          clear hT
          by_cases z35 : v33 = 0
          · exact (ps_no (ps_ifT z35 hK)).elim
          replace hK := ps_ifF z35 hK
          refine pm_ldiv d_X9_fair_143 z35 ?_
          have hQ := ps_so hK
          exact ps_lret rfl d_X9_fair_144 ⟨_, rfl, hQ⟩
      · replace hK := ps_ifT c25 hK
        refine pm_kl d_X9_fair_104 ?_
        have hQ := ps_so hK
        exact ps_lret rfl d_X9_fair_107 ⟨_, rfl, hQ⟩
    · replace hK := ps_ifT c7 hK
      refine pm_kl d_X9_fair_31 ?_
      have hQ := ps_so hK
      exact ps_lret rfl d_X9_fair_34 ⟨_, rfl, hQ⟩
  · replace hK := ps_ifT c4 hK
    refine pm_kl d_X9_fair_15 ?_
    have hQ := ps_so hK
    exact ps_lret rfl d_X9_fair_18 ⟨_, rfl, hQ⟩
def qX9_fault (p1 : Int32) (σ : ps_S) : Option (Int32 × ps_S) :=
  ps_let (ps_rI σ 327 (upd (σ.1 327) 0 0)) fun σ1 =>
  if p1 = 0 then
  ps_let (σ1.1 327 14) fun v5 =>
  some (v5, σ1)
  else
  if p1 = 1 then
  ps_let (σ1.1 327 15) fun v4 =>
  some (v4, σ1)
  else
  some ((-1), σ1)
set_option maxRecDepth 100000 in
theorem C_X9_fault {g : pm_G} (p1 : Int32) (σ : ps_S) (P : Int32 → ps_S → Prop) (hK : ps_ok (qX9_fault p1 σ) P) : ps_C g mX9_fault 1 [.ref (g.2.2.1 + 327), .int p1] σ (ps_qI P) := by
  unfold qX9_fault at hK
  refine ps_C.of (ls := [some (.ref (g.2.2.1 + 327)), some (.int p1)]) 0 (by decide) rfl (Nat.le_of_ble_eq_true rfl) rfl ?_
  refine pm_ald d_X9_fault_0 rfl ?_
  refine pm_ki d_X9_fault_1 ?_
  refine ps_putI d_X9_fault_2 at_327 f_8_0_0 rfl rfl ?_
  refine ps_nmS (fun σ1 eσ1 => ?_)
  replace hK := ps_ltE eσ1 hK
  refine pm_ild d_X9_fault_5 rfl ?_
  refine pm_if_ne d_X9_fault_6 (fun c2 => ?_) (fun c2 => ?_)
  · replace hK := ps_ifF c2 hK
    refine pm_ild d_X9_fault_16 rfl ?_
    refine pm_ki d_X9_fault_17 ?_
    refine pm_icmp_ne d_X9_fault_18 (fun c3 => ?_) (fun c3 => ?_)
    · replace hK := ps_ifF c3 hK
      refine pm_ki d_X9_fault_28 ?_
      have hQ := ps_so hK
      exact ps_iret rfl d_X9_fault_29 ⟨_, rfl, hQ⟩
    · replace hK := ps_ifT c3 hK
      refine pm_ald d_X9_fault_21 rfl ?_
      refine ps_getI d_X9_fault_22 at_327 f_8_0_15 rfl ?_
      refine ps_topI (fun v4 ev4 => ?_)
      replace hK := ps_ltE ev4 hK
      refine pm_goto d_X9_fault_25 ?_
      have hQ := ps_so hK
      exact ps_iret rfl d_X9_fault_29 ⟨_, rfl, hQ⟩
  · replace hK := ps_ifT c2 hK
    refine pm_ald d_X9_fault_9 rfl ?_
    refine ps_getI d_X9_fault_10 at_327 f_8_0_14 rfl ?_
    refine ps_topI (fun v5 ev5 => ?_)
    replace hK := ps_ltE ev5 hK
    refine pm_goto d_X9_fault_13 ?_
    have hQ := ps_so hK
    exact ps_iret rfl d_X9_fault_29 ⟨_, rfl, hQ⟩
