def qX9_dirtyOn_4  (y1 : Int32) : Nat → Int32 → Int32 → ps_S → Option (((Int32 × Int32)) × ps_S)
  | 0, _, _, _ => none
  | n + 1, x2, x3, σ =>
    ps_let (σ.1 328 2) fun v1 =>
    if v1 ≤ x3 then
    some ((x2, x3), σ)
    else
    if ps_in ((17 + x3)) 5550 = true then
    ps_let (σ.1 328 ((17 + x3)).toNatClampNeg) fun v3 =>
    if v3 = y1 then
    if ps_in ((1 + x3)) 83 = true then
    ps_let (σ.1 335 ((1 + x3)).toNatClampNeg) fun v7 =>
    ps_let ((x2 + v7)) fun v8 =>
    ps_let (x3 + 1) fun v9 =>
    qX9_dirtyOn_4 y1 n v8 v9 σ
    else none
    else
    ps_let ((x2 + 0)) fun v5 =>
    ps_let (x3 + 1) fun v6 =>
    qX9_dirtyOn_4 y1 n v5 v6 σ
    else none
set_option maxRecDepth 100000 in
theorem L_X9_dirtyOn_4 {g : pm_G} (D : Nat) (hD : 1 ≤ D) {P : Int32 → ps_S → Prop}  (y1 : Int32) : ∀ (n : Nat) (x2 : Int32) (x3 : Int32) (σ : ps_S), ps_ok (qX9_dirtyOn_4 y1 n x2 x3 σ) (fun res σ => match res with | (x2, x3) => pm_W g mX9_dirtyOn (ps_F g D (ps_qI P)) 0 0 48 [some (.ref (g.2.2.1 + 327)), some (.int y1), some (.int x2), some (.int x3)] [] 345 (ps_E g σ)) → pm_W g mX9_dirtyOn (ps_F g D (ps_qI P)) 0 0 4 [some (.ref (g.2.2.1 + 327)), some (.int y1), some (.int x2), some (.int x3)] [] 345 (ps_E g σ) := by
  intro n
  induction n with
  | zero => intro x2 x3 σ hK; exact (ps_no hK).elim
  | succ n ih =>
    intro x2 x3 σ hK
    rw [qX9_dirtyOn_4] at hK
    refine pm_ild d_X9_dirtyOn_4 rfl ?_
    refine pm_ald d_X9_dirtyOn_5 rfl ?_
    refine ps_getR (q := 328) d_X9_dirtyOn_6 at_327 f_8_0_1 rfl ?_
    refine pm_ki d_X9_dirtyOn_9 ?_
    refine ps_iald (x := σ.1 328 2) d_X9_dirtyOn_10 at_328 a_8_1 (ps_in_of rfl) rfl ?_
    refine ps_topI (fun v1 ev1 => ?_)
    replace hK := ps_ltE ev1 hK
    refine pm_icmp_ge d_X9_dirtyOn_11 (fun c2 => ?_) (fun c2 => ?_)
    · replace hK := ps_ifT c2 hK
      exact ps_so hK
    · replace hK := ps_ifF c2 hK
      refine pm_ild d_X9_dirtyOn_14 rfl ?_
      refine pm_ald d_X9_dirtyOn_15 rfl ?_
      refine ps_getR (q := 328) d_X9_dirtyOn_16 at_327 f_8_0_1 rfl ?_
      refine pm_ki d_X9_dirtyOn_19 ?_
      refine pm_ild d_X9_dirtyOn_21 rfl ?_
      refine pm_iadd d_X9_dirtyOn_22 ?_
      obtain ⟨b11, hT⟩ := ps_gd hK
      replace hK := hT
      clear hT
      refine ps_iald d_X9_dirtyOn_23 at_328 a_8_1 (ps_in_of b11) rfl ?_
      refine ps_topI (fun v3 ev3 => ?_)
      replace hK := ps_ltE ev3 hK
      refine pm_ild d_X9_dirtyOn_24 rfl ?_
      refine pm_icmp_ne d_X9_dirtyOn_25 (fun c4 => ?_) (fun c4 => ?_)
      · replace hK := ps_ifF c4 hK
        refine pm_ki d_X9_dirtyOn_39 ?_
        refine pm_iadd d_X9_dirtyOn_40 ?_
        refine ps_topI (fun v5 ev5 => ?_)
        replace hK := ps_ltE ev5 hK
        refine pm_ist2 d_X9_dirtyOn_41 rfl (by decide) ?_
        refine pm_inc3 d_X9_dirtyOn_42 rfl ?_
        obtain ⟨v6, ev6⟩ : ∃ y : Int32, y = x3 + 1 := ⟨_, rfl⟩
        rw [← ev6]
        replace hK := ps_ltE ev6 hK
        refine pm_goto d_X9_dirtyOn_45 ?_
        exact ih _ _ _ hK
      · replace hK := ps_ifT c4 hK
        refine pm_ald d_X9_dirtyOn_28 rfl ?_
        refine ps_getR (q := 335) d_X9_dirtyOn_29 at_327 f_8_0_19 rfl ?_
        refine pm_ki d_X9_dirtyOn_32 ?_
        refine pm_ild d_X9_dirtyOn_33 rfl ?_
        refine pm_iadd d_X9_dirtyOn_34 ?_
        obtain ⟨b10, hT⟩ := ps_gd hK
        replace hK := hT
        clear hT
        refine ps_iald d_X9_dirtyOn_35 at_335 a_8_8 (ps_in_of b10) rfl ?_
        refine ps_topI (fun v7 ev7 => ?_)
        replace hK := ps_ltE ev7 hK
        refine pm_goto d_X9_dirtyOn_36 ?_
        refine pm_iadd d_X9_dirtyOn_40 ?_
        refine ps_topI (fun v8 ev8 => ?_)
        replace hK := ps_ltE ev8 hK
        refine pm_ist2 d_X9_dirtyOn_41 rfl (by decide) ?_
        refine pm_inc3 d_X9_dirtyOn_42 rfl ?_
        obtain ⟨v9, ev9⟩ : ∃ y : Int32, y = x3 + 1 := ⟨_, rfl⟩
        rw [← ev9]
        replace hK := ps_ltE ev9 hK
        refine pm_goto d_X9_dirtyOn_45 ?_
        exact ih _ _ _ hK
def qX9_dirtyOn (p1 : Int32) (σ : ps_S) : Option (Int32 × ps_S) :=
  ps_bd (qX9_dirtyOn_4 p1 ps_N 0 0 σ) (fun res σ12 => match res with
  | (v13, v14) =>
    some (v13, σ12))
set_option maxRecDepth 100000 in
theorem C_X9_dirtyOn {g : pm_G} (p1 : Int32) (σ : ps_S) (P : Int32 → ps_S → Prop) (hK : ps_ok (qX9_dirtyOn p1 σ) P) : ps_C g mX9_dirtyOn 1 [.ref (g.2.2.1 + 327), .int p1] σ (ps_qI P) := by
  unfold qX9_dirtyOn at hK
  refine ps_C.of (ls := [some (.ref (g.2.2.1 + 327)), some (.int p1), none, none]) 2 (by decide) rfl (Nat.le_of_ble_eq_true rfl) rfl ?_
  refine pm_ki d_X9_dirtyOn_0 ?_
  refine pm_ist2 d_X9_dirtyOn_1 rfl (by decide) ?_
  refine pm_ki d_X9_dirtyOn_2 ?_
  refine pm_ist3 d_X9_dirtyOn_3 rfl (by decide) ?_
  refine L_X9_dirtyOn_4 _ (by decide) p1 _ _ _ _ (ps_ok.mono (ps_bdE hK) ?_)
  rintro ⟨v13, v14⟩ σ12 hT
  clear hK
  have hK := hT
  clear hT
  refine pm_ild d_X9_dirtyOn_48 rfl ?_
  have hQ := ps_so hK
  exact ps_iret rfl d_X9_dirtyOn_49 ⟨_, rfl, hQ⟩
def qX9_keptIn (p1 : UInt64) (p2 : UInt64) (p3 : UInt64) (σ : ps_S) : Option (UInt64 × ps_S) :=
  if 0 ≤ ((Op.cmpValue (FP.dcmp p1 p2) .g)) then
  if ((Op.cmpValue (FP.dcmp p1 p3) .l)) ≤ 0 then
  some (p1, σ)
  else
  some (p3, σ)
  else
  some (p2, σ)
set_option maxRecDepth 100000 in
theorem C_X9_keptIn {g : pm_G} (p1 : UInt64) (p2 : UInt64) (p3 : UInt64) (σ : ps_S) (P : UInt64 → ps_S → Prop) (hK : ps_ok (qX9_keptIn p1 p2 p3 σ) P) : ps_C g mX9_keptIn 1 [.double p1, .double p2, .double p3] σ (ps_qD P) := by
  unfold qX9_keptIn at hK
  refine ps_C.of (ls := [some (.double p1), none, some (.double p2), none, some (.double p3), none]) 0 (by decide) rfl (Nat.le_of_ble_eq_true rfl) rfl ?_
  refine pm_dld d_X9_keptIn_0 rfl ?_
  refine pm_dld d_X9_keptIn_1 rfl ?_
  refine pm_dcmp d_X9_keptIn_2 ?_
  refine pm_if_ge d_X9_keptIn_3 (fun c1 => ?_) (fun c1 => ?_)
  · replace hK := ps_ifT c1 hK
    refine pm_dld d_X9_keptIn_10 rfl ?_
    refine pm_dld d_X9_keptIn_11 rfl ?_
    refine pm_dcmp d_X9_keptIn_13 ?_
    refine pm_if_le d_X9_keptIn_14 (fun c2 => ?_) (fun c2 => ?_)
    · replace hK := ps_ifT c2 hK
      refine pm_dld d_X9_keptIn_22 rfl ?_
      have hQ := ps_so hK
      exact ps_dret rfl d_X9_keptIn_23 ⟨_, rfl, hQ⟩
    · replace hK := ps_ifF c2 hK
      refine pm_dld d_X9_keptIn_17 rfl ?_
      refine pm_goto d_X9_keptIn_19 ?_
      have hQ := ps_so hK
      exact ps_dret rfl d_X9_keptIn_23 ⟨_, rfl, hQ⟩
  · replace hK := ps_ifF c1 hK
    refine pm_dld d_X9_keptIn_6 rfl ?_
    refine pm_goto d_X9_keptIn_7 ?_
    have hQ := ps_so hK
    exact ps_dret rfl d_X9_keptIn_23 ⟨_, rfl, hQ⟩
def qX9_shareOf (p1 : Int32) (σ : ps_S) : Option (Int32 × ps_S) :=
  ps_bd (qX9_sumOf 37 4 σ) (fun v1 σ2 =>
  if v1 = 0 then
  ps_let (σ2.1 327 21) fun v10 =>
  ps_let (σ2.1 328 1) fun v11 =>
  if v11 = 0 then none else
  ps_let ((v10 / v11)) fun v12 =>
  if 1 ≤ v12 then
  some (v12, σ2)
  else
  some (1, σ2)
  else
  ps_let (σ2.1 327 21) fun v4 =>
  if ps_in ((37 + p1)) 83 = true then
  ps_let (σ2.1 335 ((37 + p1)).toNatClampNeg) fun v5 =>
  if (((v1).toInt64)) = 0 then none else
  ps_let (((((((((v4).toInt64)) * (((v5).toInt64)))) / (((v1).toInt64)))).toInt32)) fun v6 =>
  if 1 ≤ v6 then
  some (v6, σ2)
  else
  some (1, σ2)
  else none)
set_option maxRecDepth 100000 in
theorem C_X9_shareOf {g : pm_G} (p1 : Int32) (σ : ps_S) (P : Int32 → ps_S → Prop) (hK : ps_ok (qX9_shareOf p1 σ) P) : ps_C g mX9_shareOf 2 [.ref (g.2.2.1 + 327), .int p1] σ (ps_qI P) := by
  unfold qX9_shareOf at hK
  refine ps_C.of (ls := [some (.ref (g.2.2.1 + 327)), some (.int p1), none, none]) 2 (by decide) rfl (Nat.le_of_ble_eq_true rfl) rfl ?_
  refine pm_ald d_X9_shareOf_0 rfl ?_
  refine pm_ki d_X9_shareOf_1 ?_
  refine pm_ki d_X9_shareOf_3 ?_
  refine ps_cVI d_X9_shareOf_4 mv_X9_sumOf at_327 ob_8_0 rfl (As := [.int 37, .int 4]) rfl rfl (ps_room.of (by omega) (by decide)) (Nat.le_of_ble_eq_true rfl) (C_X9_sumOf 37 4 σ _ (ps_bdE hK)) ?_
  intro v1 σ2 hT
  clear hK
  have hK := hT
  clear hT
  refine pm_ist2 d_X9_shareOf_7 rfl (by decide) ?_
  refine pm_ild d_X9_shareOf_8 rfl ?_
  refine pm_if_ne d_X9_shareOf_9 (fun c3 => ?_) (fun c3 => ?_)
  · replace hK := ps_ifF c3 hK
    refine pm_ald d_X9_shareOf_26 rfl ?_
    refine ps_getI d_X9_shareOf_27 at_327 f_8_0_21 rfl ?_
    refine ps_topI (fun v4 ev4 => ?_)
    replace hK := ps_ltE ev4 hK
    refine pm_i2l d_X9_shareOf_30 ?_
    refine pm_ald d_X9_shareOf_31 rfl ?_
    refine ps_getR (q := 335) d_X9_shareOf_32 at_327 f_8_0_19 rfl ?_
    refine pm_ki d_X9_shareOf_35 ?_
    refine pm_ild d_X9_shareOf_37 rfl ?_
    refine pm_iadd d_X9_shareOf_38 ?_
    obtain ⟨b9, hT⟩ := ps_gd hK
    replace hK := hT
    clear hT
    refine ps_iald d_X9_shareOf_39 at_335 a_8_8 (ps_in_of b9) rfl ?_
    refine ps_topI (fun v5 ev5 => ?_)
    replace hK := ps_ltE ev5 hK
    refine pm_i2l d_X9_shareOf_40 ?_
    refine pm_lmul d_X9_shareOf_41 ?_
    refine pm_ild d_X9_shareOf_42 rfl ?_
    refine pm_i2l d_X9_shareOf_43 ?_
    by_cases z8 : (((v1).toInt64)) = 0
    · exact (ps_no (ps_ifT z8 hK)).elim
    replace hK := ps_ifF z8 hK
    refine pm_ldiv d_X9_shareOf_44 z8 ?_
    refine pm_l2i d_X9_shareOf_45 ?_
    refine ps_topI (fun v6 ev6 => ?_)
    replace hK := ps_ltE ev6 hK
    refine pm_ist3 d_X9_shareOf_46 rfl (by decide) ?_
    refine pm_ild d_X9_shareOf_47 rfl ?_
    refine pm_ki d_X9_shareOf_48 ?_
    refine pm_icmp_ge d_X9_shareOf_49 (fun c7 => ?_) (fun c7 => ?_)
    · replace hK := ps_ifT c7 hK
      refine pm_ild d_X9_shareOf_56 rfl ?_
      have hQ := ps_so hK
      exact ps_iret rfl d_X9_shareOf_57 ⟨_, rfl, hQ⟩
    · replace hK := ps_ifF c7 hK
      refine pm_ki d_X9_shareOf_52 ?_
      refine pm_goto d_X9_shareOf_53 ?_
      have hQ := ps_so hK
      exact ps_iret rfl d_X9_shareOf_57 ⟨_, rfl, hQ⟩
  · replace hK := ps_ifT c3 hK
    refine pm_ald d_X9_shareOf_12 rfl ?_
    refine ps_getI d_X9_shareOf_13 at_327 f_8_0_21 rfl ?_
    refine ps_topI (fun v10 ev10 => ?_)
    replace hK := ps_ltE ev10 hK
    refine pm_ald d_X9_shareOf_16 rfl ?_
    refine ps_getR (q := 328) d_X9_shareOf_17 at_327 f_8_0_1 rfl ?_
    refine pm_ki d_X9_shareOf_20 ?_
    refine ps_iald (x := σ2.1 328 1) d_X9_shareOf_21 at_328 a_8_1 (ps_in_of rfl) rfl ?_
    refine ps_topI (fun v11 ev11 => ?_)
    replace hK := ps_ltE ev11 hK
    by_cases z14 : v11 = 0
    · exact (ps_no (ps_ifT z14 hK)).elim
    replace hK := ps_ifF z14 hK
    refine pm_idiv d_X9_shareOf_22 z14 ?_
    refine pm_goto d_X9_shareOf_23 ?_
    refine ps_topI (fun v12 ev12 => ?_)
    replace hK := ps_ltE ev12 hK
    refine pm_ist3 d_X9_shareOf_46 rfl (by decide) ?_
    refine pm_ild d_X9_shareOf_47 rfl ?_
    refine pm_ki d_X9_shareOf_48 ?_
    refine pm_icmp_ge d_X9_shareOf_49 (fun c13 => ?_) (fun c13 => ?_)
    · replace hK := ps_ifT c13 hK
      refine pm_ild d_X9_shareOf_56 rfl ?_
      have hQ := ps_so hK
      exact ps_iret rfl d_X9_shareOf_57 ⟨_, rfl, hQ⟩
    · replace hK := ps_ifF c13 hK
      refine pm_ki d_X9_shareOf_52 ?_
      refine pm_goto d_X9_shareOf_53 ?_
      have hQ := ps_so hK
      exact ps_iret rfl d_X9_shareOf_57 ⟨_, rfl, hQ⟩
def qX9_pauseOf_115  (y1 : Int32) (y2 : Int32) (y3 : Int32) (y4 : UInt64) (y6 : UInt64) (y8 : UInt64) (y10 : UInt64) (y12 : Int32) (y13 : UInt64) : Nat → Int32 → Int32 → ps_S → Option (((Int32 × Int32)) × ps_S)
  | 0, _, _, _ => none
  | n + 1, x15, x16, σ =>
    ps_let (σ.1 328 3) fun v41 =>
    if v41 ≤ x16 then
    some ((x15, x16), σ)
    else
    ps_bd (qX9_deviceOf x16 σ) (fun v43 σ44 =>
    if v43 = y3 then
    ps_let ((x15 + 1)) fun v48 =>
    ps_let (x16 + 1) fun v49 =>
    qX9_pauseOf_115 y1 y2 y3 y4 y6 y8 y10 y12 y13 n v48 v49 σ44
    else
    ps_let ((x15 + 0)) fun v46 =>
    ps_let (x16 + 1) fun v47 =>
    qX9_pauseOf_115 y1 y2 y3 y4 y6 y8 y10 y12 y13 n v46 v47 σ44)
set_option maxRecDepth 100000 in
theorem L_X9_pauseOf_115 {g : pm_G} (D : Nat) (hD : 3 ≤ D) {P : Int32 → ps_S → Prop}  (y1 : Int32) (y2 : Int32) (y3 : Int32) (y4 : UInt64) (y6 : UInt64) (y8 : UInt64) (y10 : UInt64) (y12 : Int32) (y13 : UInt64) : ∀ (n : Nat) (x15 : Int32) (x16 : Int32) (σ : ps_S), ps_ok (qX9_pauseOf_115 y1 y2 y3 y4 y6 y8 y10 y12 y13 n x15 x16 σ) (fun res σ => match res with | (x15, x16) => pm_W g mX9_pauseOf (ps_F g D (ps_qI P)) 0 0 152 [some (.ref (g.2.2.1 + 327)), some (.int y1), some (.int y2), some (.int y3), some (.double y4), none, some (.double y6), none, some (.double y8), none, some (.double y10), none, some (.int y12), some (.double y13), none, some (.int x15), some (.int x16), none, none, none] [] 345 (ps_E g σ)) → pm_W g mX9_pauseOf (ps_F g D (ps_qI P)) 0 0 115 [some (.ref (g.2.2.1 + 327)), some (.int y1), some (.int y2), some (.int y3), some (.double y4), none, some (.double y6), none, some (.double y8), none, some (.double y10), none, some (.int y12), some (.double y13), none, some (.int x15), some (.int x16), none, none, none] [] 345 (ps_E g σ) := by
  intro n
  induction n with
  | zero => intro x15 x16 σ hK; exact (ps_no hK).elim
  | succ n ih =>
    intro x15 x16 σ hK
    rw [qX9_pauseOf_115] at hK
    refine pm_ild d_X9_pauseOf_115 rfl ?_
    refine pm_ald d_X9_pauseOf_117 rfl ?_
    refine ps_getR (q := 328) d_X9_pauseOf_118 at_327 f_8_0_1 rfl ?_
    refine pm_ki d_X9_pauseOf_121 ?_
    refine ps_iald (x := σ.1 328 3) d_X9_pauseOf_122 at_328 a_8_1 (ps_in_of rfl) rfl ?_
    refine ps_topI (fun v41 ev41 => ?_)
    replace hK := ps_ltE ev41 hK
    refine pm_icmp_ge d_X9_pauseOf_123 (fun c42 => ?_) (fun c42 => ?_)
    · replace hK := ps_ifT c42 hK
      exact ps_so hK
    · replace hK := ps_ifF c42 hK
      refine pm_ild d_X9_pauseOf_126 rfl ?_
      refine pm_ald d_X9_pauseOf_128 rfl ?_
      refine pm_ild d_X9_pauseOf_129 rfl ?_
      refine ps_cVI d_X9_pauseOf_131 mv_X9_deviceOf at_327 ob_8_0 rfl (As := [.int x16]) rfl rfl (ps_room.of (by omega) (by decide)) (Nat.le_of_ble_eq_true rfl) (C_X9_deviceOf x16 σ _ (ps_bdE hK)) ?_
      intro v43 σ44 hT
      clear hK
      have hK := hT
      clear hT
      refine pm_ild d_X9_pauseOf_134 rfl ?_
      refine pm_icmp_ne d_X9_pauseOf_135 (fun c45 => ?_) (fun c45 => ?_)
      · replace hK := ps_ifF c45 hK
        refine pm_ki d_X9_pauseOf_142 ?_
        refine pm_iadd d_X9_pauseOf_143 ?_
        refine ps_topI (fun v46 ev46 => ?_)
        replace hK := ps_ltE ev46 hK
        refine pm_ist15 d_X9_pauseOf_144 rfl (by decide) ?_
        refine pm_inc16 d_X9_pauseOf_146 rfl ?_
        obtain ⟨v47, ev47⟩ : ∃ y : Int32, y = x16 + 1 := ⟨_, rfl⟩
        rw [← ev47]
        replace hK := ps_ltE ev47 hK
        refine pm_goto d_X9_pauseOf_149 ?_
        exact ih _ _ _ hK
      · replace hK := ps_ifT c45 hK
        refine pm_ki d_X9_pauseOf_138 ?_
        refine pm_goto d_X9_pauseOf_139 ?_
        refine pm_iadd d_X9_pauseOf_143 ?_
        refine ps_topI (fun v48 ev48 => ?_)
        replace hK := ps_ltE ev48 hK
        refine pm_ist15 d_X9_pauseOf_144 rfl (by decide) ?_
        refine pm_inc16 d_X9_pauseOf_146 rfl ?_
        obtain ⟨v49, ev49⟩ : ∃ y : Int32, y = x16 + 1 := ⟨_, rfl⟩
        rw [← ev49]
        replace hK := ps_ltE ev49 hK
        refine pm_goto d_X9_pauseOf_149 ?_
        exact ih _ _ _ hK
def qX9_pauseOf (p1 : Int32) (p2 : Int32) (σ : ps_S) : Option (Int32 × ps_S) :=
  ps_bd (qX9_deviceOf p1 σ) (fun v1 σ2 =>
  ps_bd (qX9_freeNow σ2) (fun v3 σ4 =>
  ps_let (σ4.1 327 21) fun v5 =>
  if ps_nn (FP.ddiv ((FP.i2d ((v3 + v5)))) 4611686018427387904) = true then
  ps_let (FP.ddiv ((FP.i2d ((v3 + v5)))) 4611686018427387904) fun v6 =>
  ps_bd (qX9_allNow σ4) (fun v8 σ9 =>
  if ps_nn (FP.dsub v6 ((FP.i2d (v8)))) = true then
  ps_let (FP.dsub v6 ((FP.i2d (v8)))) fun v10 =>
  ps_let (σ9.1 327 21) fun v12 =>
  if ps_nn (FP.dsub ((FP.i2d (v12))) v6) = true then
  ps_let (FP.dsub ((FP.i2d (v12))) v6) fun v13 =>
  if ps_nn (FP.ddiv v10 v13) = true then
  ps_let (FP.ddiv v10 v13) fun v15 =>
  if ps_nn (FP.dmul v15 v15) = true then
  ps_let (FP.dmul v15 v15) fun v17 =>
  if ps_nn (FP.dmul v17 v15) = true then
  ps_let (FP.dmul v17 v15) fun v19 =>
  if ps_nn (FP.dadd FP.dconst1 v19) = true then
  ps_let (FP.dadd FP.dconst1 v19) fun v21 =>
  ps_bd (qX9_keptIn v21 FP.dconst0 4611686018427387904 σ9) (fun v23 σ24 =>
  ps_bd (qX9_shareOf v1 σ24) (fun v25 σ26 =>
  if ps_nn (FP.ddiv ((FP.i2d (v25))) 4611686018427387904) = true then
  ps_let (FP.ddiv ((FP.i2d (v25))) 4611686018427387904) fun v27 =>
  ps_bd (qX9_dirtyOn v1 σ26) (fun v29 σ30 =>
  if ps_in ((29 + v1)) 83 = true then
  ps_let (σ30.1 335 ((29 + v1)).toNatClampNeg) fun v31 =>
  ps_let ((v29 + v31)) fun v32 =>
  if ps_nn (FP.dsub v27 ((FP.i2d (v32)))) = true then
  ps_let (FP.dsub v27 ((FP.i2d (v32)))) fun v33 =>
  if ps_nn (FP.ddiv v33 v27) = true then
  ps_let (FP.ddiv v33 v27) fun v35 =>
  if ps_nn (FP.dadd FP.dconst1 v35) = true then
  ps_let (FP.dadd FP.dconst1 v35) fun v37 =>
  ps_bd (qX9_keptIn v37 FP.dconst0 4611686018427387904 σ30) (fun v39 σ40 =>
  ps_bd (qX9_pauseOf_115 p1 p2 v1 v6 v15 v23 v27 v32 v39 ps_N 0 0 σ40) (fun res σ50 => match res with
  | (v51, v52) =>
    if ps_in v1 4 = true then
    ps_let (σ50.2.2 336 (v1).toNatClampNeg) fun v53 =>
    if ps_nn (FP.ddiv v53 ((FP.i2d (v51)))) = true then
    ps_let (FP.ddiv v53 ((FP.i2d (v51)))) fun v54 =>
    if ps_nn (FP.dmul v54 v23) = true then
    ps_let (FP.dmul v54 v23) fun v56 =>
    if ps_nn (FP.dmul v56 v39) = true then
    ps_let (FP.dmul v56 v39) fun v58 =>
    if ps_nn (FP.dmul ((FP.i2d (p2))) 4636737291354636288) = true then
    ps_let (FP.dmul ((FP.i2d (p2))) 4636737291354636288) fun v60 =>
    if 0 ≤ ((Op.cmpValue (FP.dcmp v58 FP.dconst1) .g)) then
    if ps_nn (FP.ddiv v60 v58) = true then
    ps_let (FP.ddiv v60 v58) fun v63 =>
    ps_let (σ50.1 328 13) fun v65 =>
    if ((Op.cmpValue (FP.dcmp v63 ((FP.i2d (v65)))) .l)) ≤ 0 then
    some ((FP.d2i (v63)), σ50)
    else
    ps_let (σ50.1 328 13) fun v67 =>
    some (v67, σ50)
    else none
    else
    if ps_nn (FP.ddiv v60 FP.dconst1) = true then
    ps_let (FP.ddiv v60 FP.dconst1) fun v68 =>
    ps_let (σ50.1 328 13) fun v70 =>
    if ((Op.cmpValue (FP.dcmp v68 ((FP.i2d (v70)))) .l)) ≤ 0 then
    some ((FP.d2i (v68)), σ50)
    else
    ps_let (σ50.1 328 13) fun v72 =>
    some (v72, σ50)
    else none
    else none
    else none
    else none
    else none
    else none))
  else none
  else none
  else none
  else none)
  else none))
  else none
  else none
  else none
  else none
  else none
  else none)
  else none))
set_option maxRecDepth 100000 in
theorem C_X9_pauseOf {g : pm_G} (p1 : Int32) (p2 : Int32) (σ : ps_S) (P : Int32 → ps_S → Prop) (hK : ps_ok (qX9_pauseOf p1 p2 σ) P) : ps_C g mX9_pauseOf 3 [.ref (g.2.2.1 + 327), .int p1, .int p2] σ (ps_qI P) := by
  unfold qX9_pauseOf at hK
  refine ps_C.of (ls := [some (.ref (g.2.2.1 + 327)), some (.int p1), some (.int p2), none, none, none, none, none, none, none, none, none, none, none, none, none, none, none, none, none]) 17 (by decide) rfl (Nat.le_of_ble_eq_true rfl) rfl ?_
  refine pm_ald d_X9_pauseOf_0 rfl ?_
  refine pm_ild d_X9_pauseOf_1 rfl ?_
  refine ps_cVI d_X9_pauseOf_2 mv_X9_deviceOf at_327 ob_8_0 rfl (As := [.int p1]) rfl rfl (ps_room.of (by omega) (by decide)) (Nat.le_of_ble_eq_true rfl) (C_X9_deviceOf p1 σ _ (ps_bdE hK)) ?_
  intro v1 σ2 hT
  clear hK
  have hK := hT
  clear hT
  refine pm_ist3 d_X9_pauseOf_5 rfl (by decide) ?_
  refine pm_ald d_X9_pauseOf_6 rfl ?_
  refine ps_cVI d_X9_pauseOf_7 mv_X9_freeNow at_327 ob_8_0 rfl (As := []) rfl rfl (ps_room.of (by omega) (by decide)) (Nat.le_of_ble_eq_true rfl) (C_X9_freeNow σ2 _ (ps_bdE hK)) ?_
  intro v3 σ4 hT
  clear hK
  have hK := hT
  clear hT
  refine pm_ald d_X9_pauseOf_10 rfl ?_
  refine ps_getI d_X9_pauseOf_11 at_327 f_8_0_21 rfl ?_
  refine ps_topI (fun v5 ev5 => ?_)
  replace hK := ps_ltE ev5 hK
  refine pm_iadd d_X9_pauseOf_14 ?_
  refine pm_i2d d_X9_pauseOf_15 ?_
  refine pm_kd d_X9_pauseOf_16 ?_
  obtain ⟨b7, hT⟩ := ps_gd hK
  replace hK := hT
  clear hT
  refine pm_ddiv d_X9_pauseOf_19 (ps_nn_of b7) ?_
  refine ps_topD (fun v6 ev6 => ?_)
  replace hK := ps_ltE ev6 hK
  refine pm_dst4 d_X9_pauseOf_20 rfl (by decide) ?_
  refine pm_dld d_X9_pauseOf_22 rfl ?_
  refine pm_ald d_X9_pauseOf_24 rfl ?_
  refine ps_cVI d_X9_pauseOf_25 mv_X9_allNow at_327 ob_8_0 rfl (As := []) rfl rfl (ps_room.of (by omega) (by decide)) (Nat.le_of_ble_eq_true rfl) (C_X9_allNow σ4 _ (ps_bdE hK)) ?_
  intro v8 σ9 hT
  clear hK
  have hK := hT
  clear hT
  refine pm_i2d d_X9_pauseOf_28 ?_
  obtain ⟨b11, hT⟩ := ps_gd hK
  replace hK := hT
  clear hT
  refine pm_dsub d_X9_pauseOf_29 (ps_nn_of b11) ?_
  refine ps_topD (fun v10 ev10 => ?_)
  replace hK := ps_ltE ev10 hK
  refine pm_ald d_X9_pauseOf_30 rfl ?_
  refine ps_getI d_X9_pauseOf_31 at_327 f_8_0_21 rfl ?_
  refine ps_topI (fun v12 ev12 => ?_)
  replace hK := ps_ltE ev12 hK
  refine pm_i2d d_X9_pauseOf_34 ?_
  refine pm_dld d_X9_pauseOf_35 rfl ?_
  obtain ⟨b14, hT⟩ := ps_gd hK
  replace hK := hT
  clear hT
  refine pm_dsub d_X9_pauseOf_37 (ps_nn_of b14) ?_
  refine ps_topD (fun v13 ev13 => ?_)
  replace hK := ps_ltE ev13 hK
  obtain ⟨b16, hT⟩ := ps_gd hK
  replace hK := hT
  clear hT
  refine pm_ddiv d_X9_pauseOf_38 (ps_nn_of b16) ?_
  refine ps_topD (fun v15 ev15 => ?_)
  replace hK := ps_ltE ev15 hK
  refine pm_dst6 d_X9_pauseOf_39 rfl (by decide) ?_
  refine pm_kd d_X9_pauseOf_41 ?_
  refine pm_dld d_X9_pauseOf_42 rfl ?_
  refine pm_dld d_X9_pauseOf_44 rfl ?_
  obtain ⟨b18, hT⟩ := ps_gd hK
  replace hK := hT
  clear hT
  refine pm_dmul d_X9_pauseOf_46 (ps_nn_of b18) ?_
  refine ps_topD (fun v17 ev17 => ?_)
  replace hK := ps_ltE ev17 hK
  refine pm_dld d_X9_pauseOf_47 rfl ?_
  obtain ⟨b20, hT⟩ := ps_gd hK
  replace hK := hT
  clear hT
  refine pm_dmul d_X9_pauseOf_49 (ps_nn_of b20) ?_
  refine ps_topD (fun v19 ev19 => ?_)
  replace hK := ps_ltE ev19 hK
  obtain ⟨b22, hT⟩ := ps_gd hK
  replace hK := hT
  clear hT
  refine pm_dadd d_X9_pauseOf_50 (ps_nn_of b22) ?_
  refine ps_topD (fun v21 ev21 => ?_)
  replace hK := ps_ltE ev21 hK
  refine pm_kd d_X9_pauseOf_51 ?_
  refine pm_kd d_X9_pauseOf_52 ?_
  refine ps_cSD d_X9_pauseOf_55 ms_X9_keptIn (As := [.double v21, .double FP.dconst0, .double 4611686018427387904]) rfl rfl (ps_room.of (by omega) (by decide)) (Nat.le_of_ble_eq_true rfl) (C_X9_keptIn v21 FP.dconst0 4611686018427387904 σ9 _ (ps_bdE hK)) ?_
  intro v23 σ24 hT
  clear hK
  have hK := hT
  clear hT
  refine pm_dst8 d_X9_pauseOf_58 rfl (by decide) ?_
  refine pm_ald d_X9_pauseOf_60 rfl ?_
  refine pm_ild d_X9_pauseOf_61 rfl ?_
  refine ps_cVI d_X9_pauseOf_62 mv_X9_shareOf at_327 ob_8_0 rfl (As := [.int v1]) rfl rfl (ps_room.of (by omega) (by decide)) (Nat.le_of_ble_eq_true rfl) (C_X9_shareOf v1 σ24 _ (ps_bdE hK)) ?_
  intro v25 σ26 hT
  clear hK
  have hK := hT
  clear hT
  refine pm_i2d d_X9_pauseOf_65 ?_
  refine pm_kd d_X9_pauseOf_66 ?_
  obtain ⟨b28, hT⟩ := ps_gd hK
  replace hK := hT
  clear hT
  refine pm_ddiv d_X9_pauseOf_69 (ps_nn_of b28) ?_
  refine ps_topD (fun v27 ev27 => ?_)
  replace hK := ps_ltE ev27 hK
  refine pm_dst10 d_X9_pauseOf_70 rfl (by decide) ?_
  refine pm_ald d_X9_pauseOf_72 rfl ?_
  refine pm_ild d_X9_pauseOf_73 rfl ?_
  refine ps_cVI d_X9_pauseOf_74 mv_X9_dirtyOn at_327 ob_8_0 rfl (As := [.int v1]) rfl rfl (ps_room.of (by omega) (by decide)) (Nat.le_of_ble_eq_true rfl) (C_X9_dirtyOn v1 σ26 _ (ps_bdE hK)) ?_
  intro v29 σ30 hT
  clear hK
  have hK := hT
  clear hT
  refine pm_ald d_X9_pauseOf_77 rfl ?_
  refine ps_getR (q := 335) d_X9_pauseOf_78 at_327 f_8_0_19 rfl ?_
  refine pm_ki d_X9_pauseOf_81 ?_
  refine pm_ild d_X9_pauseOf_83 rfl ?_
  refine pm_iadd d_X9_pauseOf_84 ?_
  obtain ⟨b74, hT⟩ := ps_gd hK
  replace hK := hT
  clear hT
  refine ps_iald d_X9_pauseOf_85 at_335 a_8_8 (ps_in_of b74) rfl ?_
  refine ps_topI (fun v31 ev31 => ?_)
  replace hK := ps_ltE ev31 hK
  refine pm_iadd d_X9_pauseOf_86 ?_
  refine ps_topI (fun v32 ev32 => ?_)
  replace hK := ps_ltE ev32 hK
  refine pm_ist12 d_X9_pauseOf_87 rfl (by decide) ?_
  refine pm_kd d_X9_pauseOf_89 ?_
  refine pm_dld d_X9_pauseOf_90 rfl ?_
  refine pm_ild d_X9_pauseOf_92 rfl ?_
  refine pm_i2d d_X9_pauseOf_94 ?_
  obtain ⟨b34, hT⟩ := ps_gd hK
  replace hK := hT
  clear hT
  refine pm_dsub d_X9_pauseOf_95 (ps_nn_of b34) ?_
  refine ps_topD (fun v33 ev33 => ?_)
  replace hK := ps_ltE ev33 hK
  refine pm_dld d_X9_pauseOf_96 rfl ?_
  obtain ⟨b36, hT⟩ := ps_gd hK
  replace hK := hT
  clear hT
  refine pm_ddiv d_X9_pauseOf_98 (ps_nn_of b36) ?_
  refine ps_topD (fun v35 ev35 => ?_)
  replace hK := ps_ltE ev35 hK
  obtain ⟨b38, hT⟩ := ps_gd hK
  replace hK := hT
  clear hT
  refine pm_dadd d_X9_pauseOf_99 (ps_nn_of b38) ?_
  refine ps_topD (fun v37 ev37 => ?_)
  replace hK := ps_ltE ev37 hK
  refine pm_kd d_X9_pauseOf_100 ?_
  refine pm_kd d_X9_pauseOf_101 ?_
  refine ps_cSD d_X9_pauseOf_104 ms_X9_keptIn (As := [.double v37, .double FP.dconst0, .double 4611686018427387904]) rfl rfl (ps_room.of (by omega) (by decide)) (Nat.le_of_ble_eq_true rfl) (C_X9_keptIn v37 FP.dconst0 4611686018427387904 σ30 _ (ps_bdE hK)) ?_
  intro v39 σ40 hT
  clear hK
  have hK := hT
  clear hT
  refine pm_dst13 d_X9_pauseOf_107 rfl (by decide) ?_
  refine pm_ki d_X9_pauseOf_109 ?_
  refine pm_ist15 d_X9_pauseOf_110 rfl (by decide) ?_
  refine pm_ki d_X9_pauseOf_112 ?_
  refine pm_ist16 d_X9_pauseOf_113 rfl (by decide) ?_
  refine L_X9_pauseOf_115 _ (by decide) p1 p2 v1 v6 v15 v23 v27 v32 v39 _ _ _ _ (ps_ok.mono (ps_bdE hK) ?_)
  rintro ⟨v51, v52⟩ σ50 hT
  clear hK
  have hK := hT
  clear hT
  refine pm_ald d_X9_pauseOf_152 rfl ?_
  refine ps_getR (q := 336) d_X9_pauseOf_153 at_327 f_8_0_20 rfl ?_
  refine pm_ild d_X9_pauseOf_156 rfl ?_
  obtain ⟨b73, hT⟩ := ps_gd hK
  replace hK := hT
  clear hT
  refine ps_dald d_X9_pauseOf_157 at_336 a_8_9 (ps_in_of b73) rfl ?_
  refine ps_topD (fun v53 ev53 => ?_)
  replace hK := ps_ltE ev53 hK
  refine pm_ild d_X9_pauseOf_158 rfl ?_
  refine pm_i2d d_X9_pauseOf_160 ?_
  obtain ⟨b55, hT⟩ := ps_gd hK
  replace hK := hT
  clear hT
  refine pm_ddiv d_X9_pauseOf_161 (ps_nn_of b55) ?_
  refine ps_topD (fun v54 ev54 => ?_)
  replace hK := ps_ltE ev54 hK
  refine pm_dld d_X9_pauseOf_162 rfl ?_
  obtain ⟨b57, hT⟩ := ps_gd hK
  replace hK := hT
  clear hT
  refine pm_dmul d_X9_pauseOf_164 (ps_nn_of b57) ?_
  refine ps_topD (fun v56 ev56 => ?_)
  replace hK := ps_ltE ev56 hK
  refine pm_dld d_X9_pauseOf_165 rfl ?_
  obtain ⟨b59, hT⟩ := ps_gd hK
  replace hK := hT
  clear hT
  refine pm_dmul d_X9_pauseOf_167 (ps_nn_of b59) ?_
  refine ps_topD (fun v58 ev58 => ?_)
  replace hK := ps_ltE ev58 hK
  refine pm_dst16 d_X9_pauseOf_168 rfl (by decide) ?_
  refine pm_ild d_X9_pauseOf_170 rfl ?_
  refine pm_i2d d_X9_pauseOf_171 ?_
  refine pm_kd d_X9_pauseOf_172 ?_
  obtain ⟨b61, hT⟩ := ps_gd hK
  replace hK := hT
  clear hT
  refine pm_dmul d_X9_pauseOf_175 (ps_nn_of b61) ?_
  refine ps_topD (fun v60 ev60 => ?_)
  replace hK := ps_ltE ev60 hK
  refine pm_dld d_X9_pauseOf_176 rfl ?_
  refine pm_kd d_X9_pauseOf_178 ?_
  refine pm_dcmp d_X9_pauseOf_179 ?_
  refine pm_if_ge d_X9_pauseOf_180 (fun c62 => ?_) (fun c62 => ?_)
  · replace hK := ps_ifT c62 hK
    refine pm_dld d_X9_pauseOf_187 rfl ?_
    obtain ⟨b64, hT⟩ := ps_gd hK
    replace hK := hT
    clear hT
    refine pm_ddiv d_X9_pauseOf_189 (ps_nn_of b64) ?_
    refine ps_topD (fun v63 ev63 => ?_)
    replace hK := ps_ltE ev63 hK
    refine pm_dst18 d_X9_pauseOf_190 rfl (by decide) ?_
    refine pm_dld d_X9_pauseOf_192 rfl ?_
    refine pm_ald d_X9_pauseOf_194 rfl ?_
    refine ps_getR (q := 328) d_X9_pauseOf_195 at_327 f_8_0_1 rfl ?_
    refine pm_ki d_X9_pauseOf_198 ?_
    refine ps_iald (x := σ50.1 328 13) d_X9_pauseOf_200 at_328 a_8_1 (ps_in_of rfl) rfl ?_
    refine ps_topI (fun v65 ev65 => ?_)
    replace hK := ps_ltE ev65 hK
    refine pm_i2d d_X9_pauseOf_201 ?_
    refine pm_dcmp d_X9_pauseOf_202 ?_
    refine pm_if_le d_X9_pauseOf_203 (fun c66 => ?_) (fun c66 => ?_)
    · replace hK := ps_ifT c66 hK
      refine pm_dld d_X9_pauseOf_216 rfl ?_
      refine pm_d2i d_X9_pauseOf_218 ?_
      have hQ := ps_so hK
      exact ps_iret rfl d_X9_pauseOf_219 ⟨_, rfl, hQ⟩
    · replace hK := ps_ifF c66 hK
      refine pm_ald d_X9_pauseOf_206 rfl ?_
      refine ps_getR (q := 328) d_X9_pauseOf_207 at_327 f_8_0_1 rfl ?_
      refine pm_ki d_X9_pauseOf_210 ?_
      refine ps_iald (x := σ50.1 328 13) d_X9_pauseOf_212 at_328 a_8_1 (ps_in_of rfl) rfl ?_
      refine ps_topI (fun v67 ev67 => ?_)
      replace hK := ps_ltE ev67 hK
      refine pm_goto d_X9_pauseOf_213 ?_
      have hQ := ps_so hK
      exact ps_iret rfl d_X9_pauseOf_219 ⟨_, rfl, hQ⟩
  · replace hK := ps_ifF c62 hK
    refine pm_kd d_X9_pauseOf_183 ?_
    refine pm_goto d_X9_pauseOf_184 ?_
    obtain ⟨b69, hT⟩ := ps_gd hK
    replace hK := hT
    clear hT
    refine pm_ddiv d_X9_pauseOf_189 (ps_nn_of b69) ?_
    refine ps_topD (fun v68 ev68 => ?_)
    replace hK := ps_ltE ev68 hK
    refine pm_dst18 d_X9_pauseOf_190 rfl (by decide) ?_
    refine pm_dld d_X9_pauseOf_192 rfl ?_
    refine pm_ald d_X9_pauseOf_194 rfl ?_
    refine ps_getR (q := 328) d_X9_pauseOf_195 at_327 f_8_0_1 rfl ?_
    refine pm_ki d_X9_pauseOf_198 ?_
    refine ps_iald (x := σ50.1 328 13) d_X9_pauseOf_200 at_328 a_8_1 (ps_in_of rfl) rfl ?_
    refine ps_topI (fun v70 ev70 => ?_)
    replace hK := ps_ltE ev70 hK
    refine pm_i2d d_X9_pauseOf_201 ?_
    refine pm_dcmp d_X9_pauseOf_202 ?_
    refine pm_if_le d_X9_pauseOf_203 (fun c71 => ?_) (fun c71 => ?_)
    · replace hK := ps_ifT c71 hK
      refine pm_dld d_X9_pauseOf_216 rfl ?_
      refine pm_d2i d_X9_pauseOf_218 ?_
      have hQ := ps_so hK
      exact ps_iret rfl d_X9_pauseOf_219 ⟨_, rfl, hQ⟩
    · replace hK := ps_ifF c71 hK
      refine pm_ald d_X9_pauseOf_206 rfl ?_
      refine ps_getR (q := 328) d_X9_pauseOf_207 at_327 f_8_0_1 rfl ?_
      refine pm_ki d_X9_pauseOf_210 ?_
      refine ps_iald (x := σ50.1 328 13) d_X9_pauseOf_212 at_328 a_8_1 (ps_in_of rfl) rfl ?_
      refine ps_topI (fun v72 ev72 => ?_)
      replace hK := ps_ltE ev72 hK
      refine pm_goto d_X9_pauseOf_213 ?_
      have hQ := ps_so hK
      exact ps_iret rfl d_X9_pauseOf_219 ⟨_, rfl, hQ⟩
def qX9_kept (p1 : Int32) (p2 : Int32) (p3 : Int32) (σ : ps_S) : Option (Int32 × ps_S) :=
  if p2 ≤ p1 then
  if p1 ≤ p3 then
  some (p1, σ)
  else
  some (p3, σ)
  else
  some (p2, σ)
set_option maxRecDepth 100000 in
theorem C_X9_kept {g : pm_G} (p1 : Int32) (p2 : Int32) (p3 : Int32) (σ : ps_S) (P : Int32 → ps_S → Prop) (hK : ps_ok (qX9_kept p1 p2 p3 σ) P) : ps_C g mX9_kept 1 [.int p1, .int p2, .int p3] σ (ps_qI P) := by
  unfold qX9_kept at hK
  refine ps_C.of (ls := [some (.int p1), some (.int p2), some (.int p3)]) 0 (by decide) rfl (Nat.le_of_ble_eq_true rfl) rfl ?_
  refine pm_ild d_X9_kept_0 rfl ?_
  refine pm_ild d_X9_kept_1 rfl ?_
  refine pm_icmp_ge d_X9_kept_2 (fun c1 => ?_) (fun c1 => ?_)
  · replace hK := ps_ifT c1 hK
    refine pm_ild d_X9_kept_9 rfl ?_
    refine pm_ild d_X9_kept_10 rfl ?_
    refine pm_icmp_le d_X9_kept_11 (fun c2 => ?_) (fun c2 => ?_)
    · replace hK := ps_ifT c2 hK
      refine pm_ild d_X9_kept_18 rfl ?_
      have hQ := ps_so hK
      exact ps_iret rfl d_X9_kept_19 ⟨_, rfl, hQ⟩
    · replace hK := ps_ifF c2 hK
      refine pm_ild d_X9_kept_14 rfl ?_
      refine pm_goto d_X9_kept_15 ?_
      have hQ := ps_so hK
      exact ps_iret rfl d_X9_kept_19 ⟨_, rfl, hQ⟩
  · replace hK := ps_ifF c1 hK
    refine pm_ild d_X9_kept_5 rfl ?_
    refine pm_goto d_X9_kept_6 ?_
    have hQ := ps_so hK
    exact ps_iret rfl d_X9_kept_19 ⟨_, rfl, hQ⟩
def qX9_laysWords (p1 : Int32) (p2 : Int32) (p3 : Int32) (σ : ps_S) : Option (Unit × ps_S) :=
  ps_let (σ.1 335 0) fun v1 =>
  ps_let (ps_rI σ 334 (upd (σ.1 334) 0 ((v1 - v1 / 100 * 100)))) fun σ2 =>
  ps_let (ps_rI σ2 334 (upd (σ2.1 334) 1 p1)) fun σ3 =>
  ps_let (ps_rI σ3 334 (upd (σ3.1 334) 2 p2)) fun σ4 =>
  ps_let (ps_rI σ4 334 (upd (σ4.1 334) 3 p3)) fun σ5 =>
  some ((), σ5)
set_option maxRecDepth 100000 in
theorem C_X9_laysWords {g : pm_G} (p1 : Int32) (p2 : Int32) (p3 : Int32) (σ : ps_S) (P : Unit → ps_S → Prop) (hK : ps_ok (qX9_laysWords p1 p2 p3 σ) P) : ps_C g mX9_laysWords 1 [.ref (g.2.2.1 + 327), .int p1, .int p2, .int p3] σ (ps_qV P) := by
  unfold qX9_laysWords at hK
  refine ps_C.of (ls := [some (.ref (g.2.2.1 + 327)), some (.int p1), some (.int p2), some (.int p3)]) 0 (by decide) rfl (Nat.le_of_ble_eq_true rfl) rfl ?_
  refine pm_ald d_X9_laysWords_0 rfl ?_
  refine ps_getR (q := 334) d_X9_laysWords_1 at_327 f_8_0_18 rfl ?_
  refine pm_ki d_X9_laysWords_4 ?_
  refine pm_ald d_X9_laysWords_5 rfl ?_
  refine ps_getR (q := 335) d_X9_laysWords_6 at_327 f_8_0_19 rfl ?_
  refine pm_ki d_X9_laysWords_9 ?_
  refine ps_iald (x := σ.1 335 0) d_X9_laysWords_10 at_335 a_8_8 (ps_in_of rfl) rfl ?_
  refine ps_topI (fun v1 ev1 => ?_)
  replace hK := ps_ltE ev1 hK
  refine pm_ki d_X9_laysWords_11 ?_
  refine pm_irem d_X9_laysWords_13 (by decide) ?_
  refine ps_iast d_X9_laysWords_14 at_334 a_8_7 (ps_in_of rfl) ?_
  refine ps_nmS (fun σ2 eσ2 => ?_)
  replace hK := ps_ltE eσ2 hK
  refine pm_ald d_X9_laysWords_15 rfl ?_
  refine ps_getR (q := 334) d_X9_laysWords_16 at_327 f_8_0_18 rfl ?_
  refine pm_ki d_X9_laysWords_19 ?_
  refine pm_ild d_X9_laysWords_20 rfl ?_
  refine ps_iast d_X9_laysWords_21 at_334 a_8_7 (ps_in_of rfl) ?_
  refine ps_nmS (fun σ3 eσ3 => ?_)
  replace hK := ps_ltE eσ3 hK
  refine pm_ald d_X9_laysWords_22 rfl ?_
  refine ps_getR (q := 334) d_X9_laysWords_23 at_327 f_8_0_18 rfl ?_
  refine pm_ki d_X9_laysWords_26 ?_
  refine pm_ild d_X9_laysWords_27 rfl ?_
  refine ps_iast d_X9_laysWords_28 at_334 a_8_7 (ps_in_of rfl) ?_
  refine ps_nmS (fun σ4 eσ4 => ?_)
  replace hK := ps_ltE eσ4 hK
  refine pm_ald d_X9_laysWords_29 rfl ?_
  refine ps_getR (q := 334) d_X9_laysWords_30 at_327 f_8_0_18 rfl ?_
  refine pm_ki d_X9_laysWords_33 ?_
  refine pm_ild d_X9_laysWords_34 rfl ?_
  refine ps_iast d_X9_laysWords_35 at_334 a_8_7 (ps_in_of rfl) ?_
  refine ps_nmS (fun σ5 eσ5 => ?_)
  replace hK := ps_ltE eσ5 hK
  have hQ := ps_so hK
  exact ps_vret rfl d_X9_laysWords_36 ⟨rfl, hQ⟩
def qX9_between (p1 : Int32) (p2 : Int32) (p3 : Int32) (σ : ps_S) : Option (Int32 × ps_S) :=
  if p1 = 3003 then
  if p2 = p3 then
  some (1, σ)
  else
  some (0, σ)
  else
  if p1 = 3004 then
  if p3 ≤ p2 then
  some (0, σ)
  else
  some (1, σ)
  else
  if p1 = 3005 then
  if p2 ≤ p3 then
  some (0, σ)
  else
  some (1, σ)
  else
  if p1 = 3006 then
  if p1 = 3000 then
  ps_let (((((p2).toInt64)) + (((p3).toInt64)))) fun v16 =>
  if ((lg_cmp v16 1000000)) ≤ 0 then
  if 0 ≤ ((lg_cmp v16 ((-1000000)))) then
  some (((v16).toInt32), σ)
  else
  some ((((-1000000)).toInt32), σ)
  else
  some (((1000000).toInt32), σ)
  else
  if p1 = 3001 then
  ps_let (((((p2).toInt64)) - (((p3).toInt64)))) fun v13 =>
  if ((lg_cmp v13 1000000)) ≤ 0 then
  if 0 ≤ ((lg_cmp v13 ((-1000000)))) then
  some (((v13).toInt32), σ)
  else
  some ((((-1000000)).toInt32), σ)
  else
  some (((1000000).toInt32), σ)
  else
  ps_let (((((p2).toInt64)) * (((p3).toInt64)))) fun v10 =>
  if ((lg_cmp v10 1000000)) ≤ 0 then
  if 0 ≤ ((lg_cmp v10 ((-1000000)))) then
  some (((v10).toInt32), σ)
  else
  some ((((-1000000)).toInt32), σ)
  else
  some (((1000000).toInt32), σ)
  else
  if p1 = 3007 then
  some ((p2 &&& p3), σ)
  else
  if p1 = 3008 then
  some ((p2 ||| p3), σ)
  else
  if p1 = 3000 then
  ps_let (((((p2).toInt64)) + (((p3).toInt64)))) fun v29 =>
  if ((lg_cmp v29 1000000)) ≤ 0 then
  if 0 ≤ ((lg_cmp v29 ((-1000000)))) then
  some (((v29).toInt32), σ)
  else
  some ((((-1000000)).toInt32), σ)
  else
  some (((1000000).toInt32), σ)
  else
  if p1 = 3001 then
  ps_let (((((p2).toInt64)) - (((p3).toInt64)))) fun v26 =>
  if ((lg_cmp v26 1000000)) ≤ 0 then
  if 0 ≤ ((lg_cmp v26 ((-1000000)))) then
  some (((v26).toInt32), σ)
  else
  some ((((-1000000)).toInt32), σ)
  else
  some (((1000000).toInt32), σ)
  else
  ps_let (((((p2).toInt64)) * (((p3).toInt64)))) fun v23 =>
  if ((lg_cmp v23 1000000)) ≤ 0 then
  if 0 ≤ ((lg_cmp v23 ((-1000000)))) then
  some (((v23).toInt32), σ)
  else
  some ((((-1000000)).toInt32), σ)
  else
  some (((1000000).toInt32), σ)
set_option maxRecDepth 100000 in
theorem C_X9_between {g : pm_G} (p1 : Int32) (p2 : Int32) (p3 : Int32) (σ : ps_S) (P : Int32 → ps_S → Prop) (hK : ps_ok (qX9_between p1 p2 p3 σ) P) : ps_C g mX9_between 1 [.int p1, .int p2, .int p3] σ (ps_qI P) := by
  unfold qX9_between at hK
  refine ps_C.of (ls := [some (.int p1), some (.int p2), some (.int p3), none, none]) 2 (by decide) rfl (Nat.le_of_ble_eq_true rfl) rfl ?_
  refine pm_ild d_X9_between_0 rfl ?_
  by_cases c1 : p1 = 3003
  · replace hK := ps_ifT c1 hK
    refine pm_tabIn (tgt := 40) (off := 39) d_X9_between_1 (by rw [c1]; decide) (by rw [c1]; decide) (by rw [c1]; rfl) (by decide) ?_
    refine pm_ild d_X9_between_40 rfl ?_
    refine pm_ild d_X9_between_41 rfl ?_
    refine pm_icmp_ne d_X9_between_42 (fun c2 => ?_) (fun c2 => ?_)
    · replace hK := ps_ifF c2 hK
      refine pm_ki d_X9_between_49 ?_
      have hQ := ps_so hK
      exact ps_iret rfl d_X9_between_50 ⟨_, rfl, hQ⟩
    · replace hK := ps_ifT c2 hK
      refine pm_ki d_X9_between_45 ?_
      refine pm_goto d_X9_between_46 ?_
      have hQ := ps_so hK
      exact ps_iret rfl d_X9_between_50 ⟨_, rfl, hQ⟩
  replace hK := ps_ifF c1 hK
  by_cases c3 : p1 = 3004
  · replace hK := ps_ifT c3 hK
    refine pm_tabIn (tgt := 51) (off := 50) d_X9_between_1 (by rw [c3]; decide) (by rw [c3]; decide) (by rw [c3]; rfl) (by decide) ?_
    refine pm_ild d_X9_between_51 rfl ?_
    refine pm_ild d_X9_between_52 rfl ?_
    refine pm_icmp_ge d_X9_between_53 (fun c4 => ?_) (fun c4 => ?_)
    · replace hK := ps_ifT c4 hK
      refine pm_ki d_X9_between_60 ?_
      have hQ := ps_so hK
      exact ps_iret rfl d_X9_between_61 ⟨_, rfl, hQ⟩
    · replace hK := ps_ifF c4 hK
      refine pm_ki d_X9_between_56 ?_
      refine pm_goto d_X9_between_57 ?_
      have hQ := ps_so hK
      exact ps_iret rfl d_X9_between_61 ⟨_, rfl, hQ⟩
  replace hK := ps_ifF c3 hK
  by_cases c5 : p1 = 3005
  · replace hK := ps_ifT c5 hK
    refine pm_tabIn (tgt := 62) (off := 61) d_X9_between_1 (by rw [c5]; decide) (by rw [c5]; decide) (by rw [c5]; rfl) (by decide) ?_
    refine pm_ild d_X9_between_62 rfl ?_
    refine pm_ild d_X9_between_63 rfl ?_
    refine pm_icmp_le d_X9_between_64 (fun c6 => ?_) (fun c6 => ?_)
    · replace hK := ps_ifT c6 hK
      refine pm_ki d_X9_between_71 ?_
      have hQ := ps_so hK
      exact ps_iret rfl d_X9_between_72 ⟨_, rfl, hQ⟩
    · replace hK := ps_ifF c6 hK
      refine pm_ki d_X9_between_67 ?_
      refine pm_goto d_X9_between_68 ?_
      have hQ := ps_so hK
      exact ps_iret rfl d_X9_between_72 ⟨_, rfl, hQ⟩
  replace hK := ps_ifF c5 hK
  by_cases c7 : p1 = 3006
  · replace hK := ps_ifT c7 hK
    refine pm_tabIn (tgt := 81) (off := 80) d_X9_between_1 (by rw [c7]; decide) (by rw [c7]; decide) (by rw [c7]; rfl) (by decide) ?_
    refine pm_ild d_X9_between_81 rfl ?_
    refine pm_ki d_X9_between_82 ?_
    refine pm_icmp_ne d_X9_between_85 (fun c8 => ?_) (fun c8 => ?_)
    · replace hK := ps_ifF c8 hK
      refine pm_ild d_X9_between_96 rfl ?_
      refine pm_ki d_X9_between_97 ?_
      refine pm_icmp_ne d_X9_between_100 (fun c9 => ?_) (fun c9 => ?_)
      · replace hK := ps_ifF c9 hK
        refine pm_ild d_X9_between_111 rfl ?_
        refine pm_i2l d_X9_between_112 ?_
        refine pm_ild d_X9_between_113 rfl ?_
        refine pm_i2l d_X9_between_114 ?_
        refine pm_lmul d_X9_between_115 ?_
        refine ps_topL (fun v10 ev10 => ?_)
        replace hK := ps_ltE ev10 hK
        refine pm_lst3 d_X9_between_116 rfl (by decide) ?_
        refine pm_lld d_X9_between_117 rfl ?_
        refine pm_kl d_X9_between_118 ?_
        refine pm_lcmp d_X9_between_121 ?_
        refine pm_if_le d_X9_between_122 (fun c11 => ?_) (fun c11 => ?_)
        · replace hK := ps_ifT c11 hK
          refine pm_lld d_X9_between_131 rfl ?_
          refine pm_kl d_X9_between_132 ?_
          refine pm_lcmp d_X9_between_135 ?_
          refine pm_if_ge d_X9_between_136 (fun c12 => ?_) (fun c12 => ?_)
          · replace hK := ps_ifT c12 hK
            refine pm_lld d_X9_between_145 rfl ?_
            refine pm_l2i d_X9_between_146 ?_
            have hQ := ps_so hK
            exact ps_iret rfl d_X9_between_147 ⟨_, rfl, hQ⟩
          · replace hK := ps_ifF c12 hK
            refine pm_kl d_X9_between_139 ?_
            refine pm_goto d_X9_between_142 ?_
            refine pm_l2i d_X9_between_146 ?_
            have hQ := ps_so hK
            exact ps_iret rfl d_X9_between_147 ⟨_, rfl, hQ⟩
        · replace hK := ps_ifF c11 hK
          refine pm_kl d_X9_between_125 ?_
          refine pm_goto d_X9_between_128 ?_
          refine pm_l2i d_X9_between_146 ?_
          have hQ := ps_so hK
          exact ps_iret rfl d_X9_between_147 ⟨_, rfl, hQ⟩
      · replace hK := ps_ifT c9 hK
        refine pm_ild d_X9_between_103 rfl ?_
        refine pm_i2l d_X9_between_104 ?_
        refine pm_ild d_X9_between_105 rfl ?_
        refine pm_i2l d_X9_between_106 ?_
        refine pm_lsub d_X9_between_107 ?_
        refine pm_goto d_X9_between_108 ?_
        refine ps_topL (fun v13 ev13 => ?_)
        replace hK := ps_ltE ev13 hK
        refine pm_lst3 d_X9_between_116 rfl (by decide) ?_
        refine pm_lld d_X9_between_117 rfl ?_
        refine pm_kl d_X9_between_118 ?_
        refine pm_lcmp d_X9_between_121 ?_
        refine pm_if_le d_X9_between_122 (fun c14 => ?_) (fun c14 => ?_)
        · replace hK := ps_ifT c14 hK
          refine pm_lld d_X9_between_131 rfl ?_
          refine pm_kl d_X9_between_132 ?_
          refine pm_lcmp d_X9_between_135 ?_
          refine pm_if_ge d_X9_between_136 (fun c15 => ?_) (fun c15 => ?_)
          · replace hK := ps_ifT c15 hK
            refine pm_lld d_X9_between_145 rfl ?_
            refine pm_l2i d_X9_between_146 ?_
            have hQ := ps_so hK
            exact ps_iret rfl d_X9_between_147 ⟨_, rfl, hQ⟩
          · replace hK := ps_ifF c15 hK
            refine pm_kl d_X9_between_139 ?_
            refine pm_goto d_X9_between_142 ?_
            refine pm_l2i d_X9_between_146 ?_
            have hQ := ps_so hK
            exact ps_iret rfl d_X9_between_147 ⟨_, rfl, hQ⟩
        · replace hK := ps_ifF c14 hK
          refine pm_kl d_X9_between_125 ?_
          refine pm_goto d_X9_between_128 ?_
          refine pm_l2i d_X9_between_146 ?_
          have hQ := ps_so hK
          exact ps_iret rfl d_X9_between_147 ⟨_, rfl, hQ⟩
    · replace hK := ps_ifT c8 hK
      refine pm_ild d_X9_between_88 rfl ?_
      refine pm_i2l d_X9_between_89 ?_
      refine pm_ild d_X9_between_90 rfl ?_
      refine pm_i2l d_X9_between_91 ?_
      refine pm_ladd d_X9_between_92 ?_
      refine pm_goto d_X9_between_93 ?_
      refine ps_topL (fun v16 ev16 => ?_)
      replace hK := ps_ltE ev16 hK
      refine pm_lst3 d_X9_between_116 rfl (by decide) ?_
      refine pm_lld d_X9_between_117 rfl ?_
      refine pm_kl d_X9_between_118 ?_
      refine pm_lcmp d_X9_between_121 ?_
      refine pm_if_le d_X9_between_122 (fun c17 => ?_) (fun c17 => ?_)
      · replace hK := ps_ifT c17 hK
        refine pm_lld d_X9_between_131 rfl ?_
        refine pm_kl d_X9_between_132 ?_
        refine pm_lcmp d_X9_between_135 ?_
        refine pm_if_ge d_X9_between_136 (fun c18 => ?_) (fun c18 => ?_)
        · replace hK := ps_ifT c18 hK
          refine pm_lld d_X9_between_145 rfl ?_
          refine pm_l2i d_X9_between_146 ?_
          have hQ := ps_so hK
          exact ps_iret rfl d_X9_between_147 ⟨_, rfl, hQ⟩
        · replace hK := ps_ifF c18 hK
          refine pm_kl d_X9_between_139 ?_
          refine pm_goto d_X9_between_142 ?_
          refine pm_l2i d_X9_between_146 ?_
          have hQ := ps_so hK
          exact ps_iret rfl d_X9_between_147 ⟨_, rfl, hQ⟩
      · replace hK := ps_ifF c17 hK
        refine pm_kl d_X9_between_125 ?_
        refine pm_goto d_X9_between_128 ?_
        refine pm_l2i d_X9_between_146 ?_
        have hQ := ps_so hK
        exact ps_iret rfl d_X9_between_147 ⟨_, rfl, hQ⟩
  replace hK := ps_ifF c7 hK
  by_cases c19 : p1 = 3007
  · replace hK := ps_ifT c19 hK
    refine pm_tabIn (tgt := 73) (off := 72) d_X9_between_1 (by rw [c19]; decide) (by rw [c19]; decide) (by rw [c19]; rfl) (by decide) ?_
    refine pm_ild d_X9_between_73 rfl ?_
    refine pm_ild d_X9_between_74 rfl ?_
    refine pm_iand d_X9_between_75 ?_
    have hQ := ps_so hK
    exact ps_iret rfl d_X9_between_76 ⟨_, rfl, hQ⟩
  replace hK := ps_ifF c19 hK
  by_cases c20 : p1 = 3008
  · replace hK := ps_ifT c20 hK
    refine pm_tabIn (tgt := 77) (off := 76) d_X9_between_1 (by rw [c20]; decide) (by rw [c20]; decide) (by rw [c20]; rfl) (by decide) ?_
    refine pm_ild d_X9_between_77 rfl ?_
    refine pm_ild d_X9_between_78 rfl ?_
    refine pm_ior d_X9_between_79 ?_
    have hQ := ps_so hK
    exact ps_iret rfl d_X9_between_80 ⟨_, rfl, hQ⟩
  replace hK := ps_ifF c20 hK
  refine pm_tabOut (tgt := 81) d_X9_between_1 (by decide) (ps_swout (lo := 3003) (n := 6) (by decide) (by decide) (fun k hk => match k, hk with | 0, _ => c1 | 1, _ => c3 | 2, _ => c5 | 3, _ => c7 | 4, _ => c19 | 5, _ => c20 | k + 6, hk => absurd hk (by omega))) ?_
  refine pm_ild d_X9_between_81 rfl ?_
  refine pm_ki d_X9_between_82 ?_
  refine pm_icmp_ne d_X9_between_85 (fun c21 => ?_) (fun c21 => ?_)
  · replace hK := ps_ifF c21 hK
    refine pm_ild d_X9_between_96 rfl ?_
    refine pm_ki d_X9_between_97 ?_
    refine pm_icmp_ne d_X9_between_100 (fun c22 => ?_) (fun c22 => ?_)
    · replace hK := ps_ifF c22 hK
      refine pm_ild d_X9_between_111 rfl ?_
      refine pm_i2l d_X9_between_112 ?_
      refine pm_ild d_X9_between_113 rfl ?_
      refine pm_i2l d_X9_between_114 ?_
      refine pm_lmul d_X9_between_115 ?_
      refine ps_topL (fun v23 ev23 => ?_)
      replace hK := ps_ltE ev23 hK
      refine pm_lst3 d_X9_between_116 rfl (by decide) ?_
      refine pm_lld d_X9_between_117 rfl ?_
      refine pm_kl d_X9_between_118 ?_
      refine pm_lcmp d_X9_between_121 ?_
      refine pm_if_le d_X9_between_122 (fun c24 => ?_) (fun c24 => ?_)
      · replace hK := ps_ifT c24 hK
        refine pm_lld d_X9_between_131 rfl ?_
        refine pm_kl d_X9_between_132 ?_
        refine pm_lcmp d_X9_between_135 ?_
        refine pm_if_ge d_X9_between_136 (fun c25 => ?_) (fun c25 => ?_)
        · replace hK := ps_ifT c25 hK
          refine pm_lld d_X9_between_145 rfl ?_
          refine pm_l2i d_X9_between_146 ?_
          have hQ := ps_so hK
          exact ps_iret rfl d_X9_between_147 ⟨_, rfl, hQ⟩
        · replace hK := ps_ifF c25 hK
          refine pm_kl d_X9_between_139 ?_
          refine pm_goto d_X9_between_142 ?_
          refine pm_l2i d_X9_between_146 ?_
          have hQ := ps_so hK
          exact ps_iret rfl d_X9_between_147 ⟨_, rfl, hQ⟩
      · replace hK := ps_ifF c24 hK
        refine pm_kl d_X9_between_125 ?_
        refine pm_goto d_X9_between_128 ?_
        refine pm_l2i d_X9_between_146 ?_
        have hQ := ps_so hK
        exact ps_iret rfl d_X9_between_147 ⟨_, rfl, hQ⟩
    · replace hK := ps_ifT c22 hK
      refine pm_ild d_X9_between_103 rfl ?_
      refine pm_i2l d_X9_between_104 ?_
      refine pm_ild d_X9_between_105 rfl ?_
      refine pm_i2l d_X9_between_106 ?_
      refine pm_lsub d_X9_between_107 ?_
      refine pm_goto d_X9_between_108 ?_
      refine ps_topL (fun v26 ev26 => ?_)
      replace hK := ps_ltE ev26 hK
      refine pm_lst3 d_X9_between_116 rfl (by decide) ?_
      refine pm_lld d_X9_between_117 rfl ?_
      refine pm_kl d_X9_between_118 ?_
      refine pm_lcmp d_X9_between_121 ?_
      refine pm_if_le d_X9_between_122 (fun c27 => ?_) (fun c27 => ?_)
      · replace hK := ps_ifT c27 hK
        refine pm_lld d_X9_between_131 rfl ?_
        refine pm_kl d_X9_between_132 ?_
        refine pm_lcmp d_X9_between_135 ?_
        refine pm_if_ge d_X9_between_136 (fun c28 => ?_) (fun c28 => ?_)
        · replace hK := ps_ifT c28 hK
          refine pm_lld d_X9_between_145 rfl ?_
          refine pm_l2i d_X9_between_146 ?_
          have hQ := ps_so hK
          exact ps_iret rfl d_X9_between_147 ⟨_, rfl, hQ⟩
        · replace hK := ps_ifF c28 hK
          refine pm_kl d_X9_between_139 ?_
          refine pm_goto d_X9_between_142 ?_
          refine pm_l2i d_X9_between_146 ?_
          have hQ := ps_so hK
          exact ps_iret rfl d_X9_between_147 ⟨_, rfl, hQ⟩
      · replace hK := ps_ifF c27 hK
        refine pm_kl d_X9_between_125 ?_
        refine pm_goto d_X9_between_128 ?_
        refine pm_l2i d_X9_between_146 ?_
        have hQ := ps_so hK
        exact ps_iret rfl d_X9_between_147 ⟨_, rfl, hQ⟩
  · replace hK := ps_ifT c21 hK
    refine pm_ild d_X9_between_88 rfl ?_
    refine pm_i2l d_X9_between_89 ?_
    refine pm_ild d_X9_between_90 rfl ?_
    refine pm_i2l d_X9_between_91 ?_
    refine pm_ladd d_X9_between_92 ?_
    refine pm_goto d_X9_between_93 ?_
    refine ps_topL (fun v29 ev29 => ?_)
    replace hK := ps_ltE ev29 hK
    refine pm_lst3 d_X9_between_116 rfl (by decide) ?_
    refine pm_lld d_X9_between_117 rfl ?_
    refine pm_kl d_X9_between_118 ?_
    refine pm_lcmp d_X9_between_121 ?_
    refine pm_if_le d_X9_between_122 (fun c30 => ?_) (fun c30 => ?_)
    · replace hK := ps_ifT c30 hK
      refine pm_lld d_X9_between_131 rfl ?_
      refine pm_kl d_X9_between_132 ?_
      refine pm_lcmp d_X9_between_135 ?_
      refine pm_if_ge d_X9_between_136 (fun c31 => ?_) (fun c31 => ?_)
      · replace hK := ps_ifT c31 hK
        refine pm_lld d_X9_between_145 rfl ?_
        refine pm_l2i d_X9_between_146 ?_
        have hQ := ps_so hK
        exact ps_iret rfl d_X9_between_147 ⟨_, rfl, hQ⟩
      · replace hK := ps_ifF c31 hK
        refine pm_kl d_X9_between_139 ?_
        refine pm_goto d_X9_between_142 ?_
        refine pm_l2i d_X9_between_146 ?_
        have hQ := ps_so hK
        exact ps_iret rfl d_X9_between_147 ⟨_, rfl, hQ⟩
    · replace hK := ps_ifF c30 hK
      refine pm_kl d_X9_between_125 ?_
      refine pm_goto d_X9_between_128 ?_
      refine pm_l2i d_X9_between_146 ?_
      have hQ := ps_so hK
      exact ps_iret rfl d_X9_between_147 ⟨_, rfl, hQ⟩
def qX9_reckons_4  (y1 : Int32) : Nat → Int32 → Int32 → ps_S → Option (((Int32 × Int32)) × ps_S)
  | 0, _, _, _ => none
  | n + 1, x2, x3, σ =>
    if ps_in ((8 + y1)) 5550 = true then
    ps_let (σ.1 328 ((8 + y1)).toNatClampNeg) fun v1 =>
    if v1 ≤ x3 then
    some ((x2, x3), σ)
    else
    if ps_in ((6 + y1)) 5550 = true then
    ps_let (σ.1 328 ((6 + y1)).toNatClampNeg) fun v3 =>
    if ps_in ((((950 + v3)) + x3)) 5550 = true then
    ps_let (σ.1 328 ((((950 + v3)) + x3)).toNatClampNeg) fun v4 =>
    if 3000 ≤ v4 then
    if v4 = 3006 then
    if ps_in ((x2 - 1)) 900 = true then
    ps_let (σ.1 333 ((x2 - 1)).toNatClampNeg) fun v32 =>
    if ps_in ((x2 - 1)) 900 = true then
    ps_let (ps_rI σ 333 (upd (σ.1 333) ((x2 - 1)).toNatClampNeg ((1 - v32)))) fun σ33 =>
    ps_let (x3 + 1) fun v34 =>
    qX9_reckons_4 y1 n x2 v34 σ33
    else none
    else none
    else
    if v4 = 3009 then
    ps_let (x2 + (-2)) fun v18 =>
    if ps_in ((v18 - 1)) 900 = true then
    ps_let (σ.1 333 ((v18 - 1)).toNatClampNeg) fun v19 =>
    if v19 = 1 then
    if ps_in v18 900 = true then
    ps_let (σ.1 333 (v18).toNatClampNeg) fun v26 =>
    if ps_in ((v18 - 1)) 900 = true then
    ps_let (ps_rI σ 333 (upd (σ.1 333) ((v18 - 1)).toNatClampNeg v26)) fun σ27 =>
    ps_let (x3 + 1) fun v28 =>
    qX9_reckons_4 y1 n v18 v28 σ27
    else none
    else none
    else
    if ps_in ((v18 + 1)) 900 = true then
    ps_let (σ.1 333 ((v18 + 1)).toNatClampNeg) fun v21 =>
    if ps_in ((v18 - 1)) 900 = true then
    ps_let (ps_rI σ 333 (upd (σ.1 333) ((v18 - 1)).toNatClampNeg v21)) fun σ22 =>
    ps_let (x3 + 1) fun v23 =>
    qX9_reckons_4 y1 n v18 v23 σ22
    else none
    else none
    else none
    else
    ps_let (x2 + (-1)) fun v8 =>
    if ps_in ((v8 - 1)) 900 = true then
    ps_let (σ.1 333 ((v8 - 1)).toNatClampNeg) fun v9 =>
    if ps_in v8 900 = true then
    ps_let (σ.1 333 (v8).toNatClampNeg) fun v10 =>
    ps_bd (qX9_between v4 v9 v10 σ) (fun v11 σ12 =>
    if ps_in ((v8 - 1)) 900 = true then
    ps_let (ps_rI σ12 333 (upd (σ12.1 333) ((v8 - 1)).toNatClampNeg v11)) fun σ13 =>
    ps_let (x3 + 1) fun v14 =>
    qX9_reckons_4 y1 n v8 v14 σ13
    else none)
    else none
    else none
    else
    if 1000 ≤ v4 then
    if ps_in ((v4 - 1000)) 4 = true then
    ps_let (σ.1 334 ((v4 - 1000)).toNatClampNeg) fun v38 =>
    if ps_in x2 900 = true then
    ps_let (ps_rI σ 333 (upd (σ.1 333) (x2).toNatClampNeg v38)) fun σ39 =>
    ps_let (x2 + 1) fun v40 =>
    ps_let (x3 + 1) fun v41 =>
    qX9_reckons_4 y1 n v40 v41 σ39
    else none
    else none
    else
    if ps_in x2 900 = true then
    ps_let (ps_rI σ 333 (upd (σ.1 333) (x2).toNatClampNeg v4)) fun σ44 =>
    ps_let (x2 + 1) fun v45 =>
    ps_let (x3 + 1) fun v46 =>
    qX9_reckons_4 y1 n v45 v46 σ44
    else none
    else none
    else none
    else none
set_option maxRecDepth 100000 in
theorem L_X9_reckons_4 {g : pm_G} (D : Nat) (hD : 2 ≤ D) {P : Int32 → ps_S → Prop}  (y1 : Int32) : ∀ (n : Nat) (x2 : Int32) (x3 : Int32) (σ : ps_S), ps_ok (qX9_reckons_4 y1 n x2 x3 σ) (fun res σ => match res with | (x2, x3) => pm_W g mX9_reckons (ps_F g D (ps_qI P)) 0 0 199 [some (.ref (g.2.2.1 + 327)), some (.int y1), some (.int x2), some (.int x3), none] [] 345 (ps_E g σ)) → pm_W g mX9_reckons (ps_F g D (ps_qI P)) 0 0 4 [some (.ref (g.2.2.1 + 327)), some (.int y1), some (.int x2), some (.int x3), none] [] 345 (ps_E g σ) := by
  intro n
  induction n with
  | zero => intro x2 x3 σ hK; exact (ps_no hK).elim
  | succ n ih =>
    intro x2 x3 σ hK
    rw [qX9_reckons_4] at hK
    refine pm_ild d_X9_reckons_4 rfl ?_
    refine pm_ald d_X9_reckons_5 rfl ?_
    refine ps_getR (q := 328) d_X9_reckons_6 at_327 f_8_0_1 rfl ?_
    refine pm_ki d_X9_reckons_9 ?_
    refine pm_ild d_X9_reckons_11 rfl ?_
    refine pm_iadd d_X9_reckons_12 ?_
    obtain ⟨b50, hT⟩ := ps_gd hK
    replace hK := hT
    clear hT
    refine ps_iald d_X9_reckons_13 at_328 a_8_1 (ps_in_of b50) rfl ?_
    refine ps_topI (fun v1 ev1 => ?_)
    replace hK := ps_ltE ev1 hK
    refine pm_icmp_ge d_X9_reckons_14 (fun c2 => ?_) (fun c2 => ?_)
    · replace hK := ps_ifT c2 hK
      exact ps_so hK
    · replace hK := ps_ifF c2 hK
      refine pm_ald d_X9_reckons_17 rfl ?_
      refine ps_getR (q := 328) d_X9_reckons_18 at_327 f_8_0_1 rfl ?_
      refine pm_ki d_X9_reckons_21 ?_
      refine pm_ald d_X9_reckons_24 rfl ?_
      refine ps_getR (q := 328) d_X9_reckons_25 at_327 f_8_0_1 rfl ?_
      refine pm_ki d_X9_reckons_28 ?_
      refine pm_ild d_X9_reckons_30 rfl ?_
      refine pm_iadd d_X9_reckons_31 ?_
      obtain ⟨b49, hT⟩ := ps_gd hK
      replace hK := hT
      clear hT
      refine ps_iald d_X9_reckons_32 at_328 a_8_1 (ps_in_of b49) rfl ?_
      refine ps_topI (fun v3 ev3 => ?_)
      replace hK := ps_ltE ev3 hK
      refine pm_iadd d_X9_reckons_33 ?_
      refine pm_ild d_X9_reckons_34 rfl ?_
      refine pm_iadd d_X9_reckons_35 ?_
      obtain ⟨b48, hT⟩ := ps_gd hK
      replace hK := hT
      clear hT
      refine ps_iald d_X9_reckons_36 at_328 a_8_1 (ps_in_of b48) rfl ?_
      refine ps_topI (fun v4 ev4 => ?_)
      replace hK := ps_ltE ev4 hK
      refine pm_ist4 d_X9_reckons_37 rfl (by decide) ?_
      refine pm_ild d_X9_reckons_39 rfl ?_
      refine pm_ki d_X9_reckons_41 ?_
      refine pm_icmp_ge d_X9_reckons_44 (fun c5 => ?_) (fun c5 => ?_)
      · replace hK := ps_ifT c5 hK
        refine pm_ild d_X9_reckons_83 rfl ?_
        refine pm_ki d_X9_reckons_85 ?_
        refine pm_icmp_ne d_X9_reckons_88 (fun c6 => ?_) (fun c6 => ?_)
        · replace hK := ps_ifF c6 hK
          refine pm_ild d_X9_reckons_112 rfl ?_
          refine pm_ki d_X9_reckons_114 ?_
          refine pm_icmp_ne d_X9_reckons_117 (fun c7 => ?_) (fun c7 => ?_)
          · replace hK := ps_ifF c7 hK
            refine pm_inc2 d_X9_reckons_163 rfl ?_
            obtain ⟨v8, ev8⟩ : ∃ y : Int32, y = x2 + (-1) := ⟨_, rfl⟩
            rw [← ev8]
            replace hK := ps_ltE ev8 hK
            refine pm_ald d_X9_reckons_166 rfl ?_
            refine ps_getR (q := 333) d_X9_reckons_167 at_327 f_8_0_17 rfl ?_
            refine pm_ild d_X9_reckons_170 rfl ?_
            refine pm_ki d_X9_reckons_171 ?_
            refine pm_isub d_X9_reckons_172 ?_
            refine pm_ild d_X9_reckons_173 rfl ?_
            refine pm_ald d_X9_reckons_175 rfl ?_
            refine ps_getR (q := 333) d_X9_reckons_176 at_327 f_8_0_17 rfl ?_
            refine pm_ild d_X9_reckons_179 rfl ?_
            refine pm_ki d_X9_reckons_180 ?_
            refine pm_isub d_X9_reckons_181 ?_
            obtain ⟨b17, hT⟩ := ps_gd hK
            replace hK := hT
            clear hT
            refine ps_iald d_X9_reckons_182 at_333 a_8_6 (ps_in_of b17) rfl ?_
            refine ps_topI (fun v9 ev9 => ?_)
            replace hK := ps_ltE ev9 hK
            refine pm_ald d_X9_reckons_183 rfl ?_
            refine ps_getR (q := 333) d_X9_reckons_184 at_327 f_8_0_17 rfl ?_
            refine pm_ild d_X9_reckons_187 rfl ?_
            obtain ⟨b16, hT⟩ := ps_gd hK
            replace hK := hT
            clear hT
            refine ps_iald d_X9_reckons_188 at_333 a_8_6 (ps_in_of b16) rfl ?_
            refine ps_topI (fun v10 ev10 => ?_)
            replace hK := ps_ltE ev10 hK
            refine ps_cSI d_X9_reckons_189 ms_X9_between (As := [.int v4, .int v9, .int v10]) rfl rfl (ps_room.of (by omega) (by decide)) (Nat.le_of_ble_eq_true rfl) (C_X9_between v4 v9 v10 σ _ (ps_bdE hK)) ?_
            intro v11 σ12 hT
            clear hK
            have hK := hT
            clear hT
            obtain ⟨b15, hT⟩ := ps_gd hK
            replace hK := hT
            clear hT
            refine ps_iast d_X9_reckons_192 at_333 a_8_6 (ps_in_of b15) ?_
            refine ps_nmS (fun σ13 eσ13 => ?_)
            replace hK := ps_ltE eσ13 hK
            refine pm_inc3 d_X9_reckons_193 rfl ?_
            obtain ⟨v14, ev14⟩ : ∃ y : Int32, y = x3 + 1 := ⟨_, rfl⟩
            rw [← ev14]
            replace hK := ps_ltE ev14 hK
            refine pm_goto d_X9_reckons_196 ?_
            refine pm_wk (ls' := [some (.ref (g.2.2.1 + 327)), some (.int y1), some (.int v8), some (.int v14), none]) ⟨rfl, ⟨rfl, ⟨rfl, ⟨rfl, trivial⟩⟩⟩⟩ ?_
            exact ih _ _ _ hK
          · replace hK := ps_ifT c7 hK
            refine pm_inc2 d_X9_reckons_120 rfl ?_
            obtain ⟨v18, ev18⟩ : ∃ y : Int32, y = x2 + (-2) := ⟨_, rfl⟩
            rw [← ev18]
            replace hK := ps_ltE ev18 hK
            refine pm_ald d_X9_reckons_123 rfl ?_
            refine ps_getR (q := 333) d_X9_reckons_124 at_327 f_8_0_17 rfl ?_
            refine pm_ild d_X9_reckons_127 rfl ?_
            refine pm_ki d_X9_reckons_128 ?_
            refine pm_isub d_X9_reckons_129 ?_
            refine pm_ald d_X9_reckons_130 rfl ?_
            refine ps_getR (q := 333) d_X9_reckons_131 at_327 f_8_0_17 rfl ?_
            refine pm_ild d_X9_reckons_134 rfl ?_
            refine pm_ki d_X9_reckons_135 ?_
            refine pm_isub d_X9_reckons_136 ?_
            obtain ⟨b31, hT⟩ := ps_gd hK
            replace hK := hT
            clear hT
            refine ps_iald d_X9_reckons_137 at_333 a_8_6 (ps_in_of b31) rfl ?_
            refine ps_topI (fun v19 ev19 => ?_)
            replace hK := ps_ltE ev19 hK
            refine pm_ki d_X9_reckons_138 ?_
            refine pm_icmp_ne d_X9_reckons_139 (fun c20 => ?_) (fun c20 => ?_)
            · replace hK := ps_ifF c20 hK
              refine pm_ald d_X9_reckons_151 rfl ?_
              refine ps_getR (q := 333) d_X9_reckons_152 at_327 f_8_0_17 rfl ?_
              refine pm_ild d_X9_reckons_155 rfl ?_
              refine pm_ki d_X9_reckons_156 ?_
              refine pm_iadd d_X9_reckons_157 ?_
              obtain ⟨b25, hT⟩ := ps_gd hK
              replace hK := hT
              clear hT
              refine ps_iald d_X9_reckons_158 at_333 a_8_6 (ps_in_of b25) rfl ?_
              refine ps_topI (fun v21 ev21 => ?_)
              replace hK := ps_ltE ev21 hK
              obtain ⟨b24, hT⟩ := ps_gd hK
              replace hK := hT
              clear hT
              refine ps_iast d_X9_reckons_159 at_333 a_8_6 (ps_in_of b24) ?_
              refine ps_nmS (fun σ22 eσ22 => ?_)
              replace hK := ps_ltE eσ22 hK
              refine pm_goto d_X9_reckons_160 ?_
              refine pm_inc3 d_X9_reckons_193 rfl ?_
              obtain ⟨v23, ev23⟩ : ∃ y : Int32, y = x3 + 1 := ⟨_, rfl⟩
              rw [← ev23]
              replace hK := ps_ltE ev23 hK
              refine pm_goto d_X9_reckons_196 ?_
              refine pm_wk (ls' := [some (.ref (g.2.2.1 + 327)), some (.int y1), some (.int v18), some (.int v23), none]) ⟨rfl, ⟨rfl, ⟨rfl, ⟨rfl, trivial⟩⟩⟩⟩ ?_
              exact ih _ _ _ hK
            · replace hK := ps_ifT c20 hK
              refine pm_ald d_X9_reckons_142 rfl ?_
              refine ps_getR (q := 333) d_X9_reckons_143 at_327 f_8_0_17 rfl ?_
              refine pm_ild d_X9_reckons_146 rfl ?_
              obtain ⟨b30, hT⟩ := ps_gd hK
              replace hK := hT
              clear hT
              refine ps_iald d_X9_reckons_147 at_333 a_8_6 (ps_in_of b30) rfl ?_
              refine ps_topI (fun v26 ev26 => ?_)
              replace hK := ps_ltE ev26 hK
              refine pm_goto d_X9_reckons_148 ?_
              obtain ⟨b29, hT⟩ := ps_gd hK
              replace hK := hT
              clear hT
              refine ps_iast d_X9_reckons_159 at_333 a_8_6 (ps_in_of b29) ?_
              refine ps_nmS (fun σ27 eσ27 => ?_)
              replace hK := ps_ltE eσ27 hK
              refine pm_goto d_X9_reckons_160 ?_
              refine pm_inc3 d_X9_reckons_193 rfl ?_
              obtain ⟨v28, ev28⟩ : ∃ y : Int32, y = x3 + 1 := ⟨_, rfl⟩
              rw [← ev28]
              replace hK := ps_ltE ev28 hK
              refine pm_goto d_X9_reckons_196 ?_
              refine pm_wk (ls' := [some (.ref (g.2.2.1 + 327)), some (.int y1), some (.int v18), some (.int v28), none]) ⟨rfl, ⟨rfl, ⟨rfl, ⟨rfl, trivial⟩⟩⟩⟩ ?_
              exact ih _ _ _ hK
        · replace hK := ps_ifT c6 hK
          refine pm_ald d_X9_reckons_91 rfl ?_
          refine ps_getR (q := 333) d_X9_reckons_92 at_327 f_8_0_17 rfl ?_
          refine pm_ild d_X9_reckons_95 rfl ?_
          refine pm_ki d_X9_reckons_96 ?_
          refine pm_isub d_X9_reckons_97 ?_
          refine pm_ki d_X9_reckons_98 ?_
          refine pm_ald d_X9_reckons_99 rfl ?_
          refine ps_getR (q := 333) d_X9_reckons_100 at_327 f_8_0_17 rfl ?_
          refine pm_ild d_X9_reckons_103 rfl ?_
          refine pm_ki d_X9_reckons_104 ?_
          refine pm_isub d_X9_reckons_105 ?_
          obtain ⟨b36, hT⟩ := ps_gd hK
          replace hK := hT
          clear hT
          refine ps_iald d_X9_reckons_106 at_333 a_8_6 (ps_in_of b36) rfl ?_
          refine ps_topI (fun v32 ev32 => ?_)
          replace hK := ps_ltE ev32 hK
          refine pm_isub d_X9_reckons_107 ?_
          obtain ⟨b35, hT⟩ := ps_gd hK
          replace hK := hT
          clear hT
          refine ps_iast d_X9_reckons_108 at_333 a_8_6 (ps_in_of b35) ?_
          refine ps_nmS (fun σ33 eσ33 => ?_)
          replace hK := ps_ltE eσ33 hK
          refine pm_goto d_X9_reckons_109 ?_
          refine pm_inc3 d_X9_reckons_193 rfl ?_
          obtain ⟨v34, ev34⟩ : ∃ y : Int32, y = x3 + 1 := ⟨_, rfl⟩
          rw [← ev34]
          replace hK := ps_ltE ev34 hK
          refine pm_goto d_X9_reckons_196 ?_
          refine pm_wk (ls' := [some (.ref (g.2.2.1 + 327)), some (.int y1), some (.int x2), some (.int v34), none]) ⟨rfl, ⟨rfl, ⟨rfl, ⟨rfl, trivial⟩⟩⟩⟩ ?_
          exact ih _ _ _ hK
      · replace hK := ps_ifF c5 hK
        refine pm_ald d_X9_reckons_47 rfl ?_
        refine ps_getR (q := 333) d_X9_reckons_48 at_327 f_8_0_17 rfl ?_
        refine pm_ild d_X9_reckons_51 rfl ?_
        refine pm_ild d_X9_reckons_52 rfl ?_
        refine pm_ki d_X9_reckons_54 ?_
        refine pm_icmp_ge d_X9_reckons_57 (fun c37 => ?_) (fun c37 => ?_)
        · replace hK := ps_ifT c37 hK
          refine pm_ald d_X9_reckons_65 rfl ?_
          refine ps_getR (q := 334) d_X9_reckons_66 at_327 f_8_0_18 rfl ?_
          refine pm_ild d_X9_reckons_69 rfl ?_
          refine pm_ki d_X9_reckons_71 ?_
          refine pm_isub d_X9_reckons_74 ?_
          obtain ⟨b43, hT⟩ := ps_gd hK
          replace hK := hT
          clear hT
          refine ps_iald d_X9_reckons_75 at_334 a_8_7 (ps_in_of b43) rfl ?_
          refine ps_topI (fun v38 ev38 => ?_)
          replace hK := ps_ltE ev38 hK
          obtain ⟨b42, hT⟩ := ps_gd hK
          replace hK := hT
          clear hT
          refine ps_iast d_X9_reckons_76 at_333 a_8_6 (ps_in_of b42) ?_
          refine ps_nmS (fun σ39 eσ39 => ?_)
          replace hK := ps_ltE eσ39 hK
          refine pm_inc2 d_X9_reckons_77 rfl ?_
          obtain ⟨v40, ev40⟩ : ∃ y : Int32, y = x2 + 1 := ⟨_, rfl⟩
          rw [← ev40]
          replace hK := ps_ltE ev40 hK
          refine pm_goto d_X9_reckons_80 ?_
          refine pm_inc3 d_X9_reckons_193 rfl ?_
          obtain ⟨v41, ev41⟩ : ∃ y : Int32, y = x3 + 1 := ⟨_, rfl⟩
          rw [← ev41]
          replace hK := ps_ltE ev41 hK
          refine pm_goto d_X9_reckons_196 ?_
          refine pm_wk (ls' := [some (.ref (g.2.2.1 + 327)), some (.int y1), some (.int v40), some (.int v41), none]) ⟨rfl, ⟨rfl, ⟨rfl, ⟨rfl, trivial⟩⟩⟩⟩ ?_
          exact ih _ _ _ hK
        · replace hK := ps_ifF c37 hK
          refine pm_ild d_X9_reckons_60 rfl ?_
          refine pm_goto d_X9_reckons_62 ?_
          obtain ⟨b47, hT⟩ := ps_gd hK
          replace hK := hT
          clear hT
          refine ps_iast d_X9_reckons_76 at_333 a_8_6 (ps_in_of b47) ?_
          refine ps_nmS (fun σ44 eσ44 => ?_)
          replace hK := ps_ltE eσ44 hK
          refine pm_inc2 d_X9_reckons_77 rfl ?_
          obtain ⟨v45, ev45⟩ : ∃ y : Int32, y = x2 + 1 := ⟨_, rfl⟩
          rw [← ev45]
          replace hK := ps_ltE ev45 hK
          refine pm_goto d_X9_reckons_80 ?_
          refine pm_inc3 d_X9_reckons_193 rfl ?_
          obtain ⟨v46, ev46⟩ : ∃ y : Int32, y = x3 + 1 := ⟨_, rfl⟩
          rw [← ev46]
          replace hK := ps_ltE ev46 hK
          refine pm_goto d_X9_reckons_196 ?_
          refine pm_wk (ls' := [some (.ref (g.2.2.1 + 327)), some (.int y1), some (.int v45), some (.int v46), none]) ⟨rfl, ⟨rfl, ⟨rfl, ⟨rfl, trivial⟩⟩⟩⟩ ?_
          exact ih _ _ _ hK
def qX9_reckons (p1 : Int32) (σ : ps_S) : Option (Int32 × ps_S) :=
  ps_bd (qX9_reckons_4 p1 ps_N 0 0 σ) (fun res σ51 => match res with
  | (v52, v53) =>
    ps_let (σ51.1 333 0) fun v54 =>
    some (v54, σ51))
set_option maxRecDepth 100000 in
theorem C_X9_reckons {g : pm_G} (p1 : Int32) (σ : ps_S) (P : Int32 → ps_S → Prop) (hK : ps_ok (qX9_reckons p1 σ) P) : ps_C g mX9_reckons 2 [.ref (g.2.2.1 + 327), .int p1] σ (ps_qI P) := by
  unfold qX9_reckons at hK
  refine ps_C.of (ls := [some (.ref (g.2.2.1 + 327)), some (.int p1), none, none, none]) 3 (by decide) rfl (Nat.le_of_ble_eq_true rfl) rfl ?_
  refine pm_ki d_X9_reckons_0 ?_
  refine pm_ist2 d_X9_reckons_1 rfl (by decide) ?_
  refine pm_ki d_X9_reckons_2 ?_
  refine pm_ist3 d_X9_reckons_3 rfl (by decide) ?_
  refine L_X9_reckons_4 _ (by decide) p1 _ _ _ _ (ps_ok.mono (ps_bdE hK) ?_)
  rintro ⟨v52, v53⟩ σ51 hT
  clear hK
  have hK := hT
  clear hT
  refine pm_ald d_X9_reckons_199 rfl ?_
  refine ps_getR (q := 333) d_X9_reckons_200 at_327 f_8_0_17 rfl ?_
  refine pm_ki d_X9_reckons_203 ?_
  refine ps_iald (x := σ51.1 333 0) d_X9_reckons_204 at_333 a_8_6 (ps_in_of rfl) rfl ?_
  refine ps_topI (fun v54 ev54 => ?_)
  replace hK := ps_ltE ev54 hK
  have hQ := ps_so hK
  exact ps_iret rfl d_X9_reckons_205 ⟨_, rfl, hQ⟩
def qX9_wantsNow (p1 : Int32) (σ : ps_S) : Option (Int32 × ps_S) :=
  if ps_in ((53 + p1)) 83 = true then
  ps_let (σ.1 335 ((53 + p1)).toNatClampNeg) fun v1 =>
  ps_bd (qX9_deviceOf p1 σ) (fun v2 σ3 =>
  ps_bd (qX9_laysWords v1 v2 p1 σ3) (fun _ σ5 =>
  ps_let (σ5.1 328 4) fun v6 =>
  if v6 = 1 then
  ps_bd (qX9_reckons 0 σ5) (fun v10 σ11 =>
  ps_bd (qX9_kept v10 0 99 σ11) (fun v12 σ13 =>
  some (v12, σ13)))
  else
  ps_bd (qX9_kept v1 0 99 σ5) (fun v8 σ9 =>
  some (v8, σ9))))
  else none
set_option maxRecDepth 100000 in
theorem C_X9_wantsNow {g : pm_G} (p1 : Int32) (σ : ps_S) (P : Int32 → ps_S → Prop) (hK : ps_ok (qX9_wantsNow p1 σ) P) : ps_C g mX9_wantsNow 3 [.ref (g.2.2.1 + 327), .int p1] σ (ps_qI P) := by
  unfold qX9_wantsNow at hK
  refine ps_C.of (ls := [some (.ref (g.2.2.1 + 327)), some (.int p1), none]) 1 (by decide) rfl (Nat.le_of_ble_eq_true rfl) rfl ?_
  refine pm_ald d_X9_wantsNow_0 rfl ?_
  refine ps_getR (q := 335) d_X9_wantsNow_1 at_327 f_8_0_19 rfl ?_
  refine pm_ki d_X9_wantsNow_4 ?_
  refine pm_ild d_X9_wantsNow_6 rfl ?_
  refine pm_iadd d_X9_wantsNow_7 ?_
  obtain ⟨b14, hT⟩ := ps_gd hK
  replace hK := hT
  clear hT
  refine ps_iald d_X9_wantsNow_8 at_335 a_8_8 (ps_in_of b14) rfl ?_
  refine ps_topI (fun v1 ev1 => ?_)
  replace hK := ps_ltE ev1 hK
  refine pm_ist2 d_X9_wantsNow_9 rfl (by decide) ?_
  refine pm_ald d_X9_wantsNow_10 rfl ?_
  refine pm_ild d_X9_wantsNow_11 rfl ?_
  refine pm_ald d_X9_wantsNow_12 rfl ?_
  refine pm_ild d_X9_wantsNow_13 rfl ?_
  refine ps_cVI d_X9_wantsNow_14 mv_X9_deviceOf at_327 ob_8_0 rfl (As := [.int p1]) rfl rfl (ps_room.of (by omega) (by decide)) (Nat.le_of_ble_eq_true rfl) (C_X9_deviceOf p1 σ _ (ps_bdE hK)) ?_
  intro v2 σ3 hT
  clear hK
  have hK := hT
  clear hT
  refine pm_ild d_X9_wantsNow_17 rfl ?_
  refine ps_cVV d_X9_wantsNow_18 mv_X9_laysWords at_327 ob_8_0 rfl (As := [.int v1, .int v2, .int p1]) rfl rfl (ps_room.of (by omega) (by decide)) (Nat.le_of_ble_eq_true rfl) (C_X9_laysWords v1 v2 p1 σ3 _ (ps_bdE hK)) ?_
  intro σ5 hT
  clear hK
  have hK := hT
  clear hT
  refine pm_ald d_X9_wantsNow_21 rfl ?_
  refine ps_getR (q := 328) d_X9_wantsNow_22 at_327 f_8_0_1 rfl ?_
  refine pm_ki d_X9_wantsNow_25 ?_
  refine ps_iald (x := σ5.1 328 4) d_X9_wantsNow_26 at_328 a_8_1 (ps_in_of rfl) rfl ?_
  refine ps_topI (fun v6 ev6 => ?_)
  replace hK := ps_ltE ev6 hK
  refine pm_ki d_X9_wantsNow_27 ?_
  refine pm_icmp_ne d_X9_wantsNow_28 (fun c7 => ?_) (fun c7 => ?_)
  · replace hK := ps_ifF c7 hK
    refine pm_ild d_X9_wantsNow_39 rfl ?_
    refine pm_ki d_X9_wantsNow_40 ?_
    refine pm_ki d_X9_wantsNow_41 ?_
    refine ps_cSI d_X9_wantsNow_43 ms_X9_kept (As := [.int v1, .int 0, .int 99]) rfl rfl (ps_room.of (by omega) (by decide)) (Nat.le_of_ble_eq_true rfl) (C_X9_kept v1 0 99 σ5 _ (ps_bdE hK)) ?_
    intro v8 σ9 hT
    clear hK
    have hK := hT
    clear hT
    have hQ := ps_so hK
    exact ps_iret rfl d_X9_wantsNow_46 ⟨_, rfl, hQ⟩
  · replace hK := ps_ifT c7 hK
    refine pm_ald d_X9_wantsNow_31 rfl ?_
    refine pm_ki d_X9_wantsNow_32 ?_
    refine ps_cVI d_X9_wantsNow_33 mv_X9_reckons at_327 ob_8_0 rfl (As := [.int 0]) rfl rfl (ps_room.of (by omega) (by decide)) (Nat.le_of_ble_eq_true rfl) (C_X9_reckons 0 σ5 _ (ps_bdE hK)) ?_
    intro v10 σ11 hT
    clear hK
    have hK := hT
    clear hT
    refine pm_goto d_X9_wantsNow_36 ?_
    refine pm_ki d_X9_wantsNow_40 ?_
    refine pm_ki d_X9_wantsNow_41 ?_
    refine ps_cSI d_X9_wantsNow_43 ms_X9_kept (As := [.int v10, .int 0, .int 99]) rfl rfl (ps_room.of (by omega) (by decide)) (Nat.le_of_ble_eq_true rfl) (C_X9_kept v10 0 99 σ11 _ (ps_bdE hK)) ?_
    intro v12 σ13 hT
    clear hK
    have hK := hT
    clear hT
    have hQ := ps_so hK
    exact ps_iret rfl d_X9_wantsNow_46 ⟨_, rfl, hQ⟩
