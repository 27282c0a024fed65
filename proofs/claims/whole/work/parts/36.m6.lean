def qX8_speeds_86 (B12 : Nat) (y1 : Int32) (y2 : Int32) (y3 : Int32) : Nat → Int32 → Int32 → Int32 → Int32 → ps_S → Option (((Int32 × Int32 × Int32 × Int32)) × ps_S)
  | 0, _, _, _, _, _ => none
  | n + 1, x5, x6, x7, x8, σ =>
    if 999 < x8 then
    some ((x5, x6, x7, x8), σ)
    else
    ps_bd (qX8_fits B12 y2 x8 σ) (fun v23 σ24 =>
    if v23 = 0 then
    ps_let (x8 + 1) fun v26 =>
    qX8_speeds_86 B12 y1 y2 y3 n x5 x6 x7 v26 σ24
    else
    ps_let (x5 + 1) fun v27 =>
    if x6 = ((-1)) then
    ps_let (x8 + 1) fun v30 =>
    qX8_speeds_86 B12 y1 y2 y3 n v27 x8 x8 v30 σ24
    else
    ps_let (x8 + 1) fun v29 =>
    qX8_speeds_86 B12 y1 y2 y3 n v27 x6 x8 v29 σ24)
set_option maxRecDepth 100000 in
theorem L_X8_speeds_86 {g : pm_G} (D : Nat) (hD : 8 ≤ D) {P : Int32 → ps_S → Prop} (B12 : Nat) (hB12 : ps_Tr B12) (y1 : Int32) (y2 : Int32) (y3 : Int32) : ∀ (n : Nat) (x5 : Int32) (x6 : Int32) (x7 : Int32) (x8 : Int32) (σ : ps_S), ps_ok (qX8_speeds_86 B12 y1 y2 y3 n x5 x6 x7 x8 σ) (fun res σ => match res with | (x5, x6, x7, x8) => pm_W g mX8_speeds (ps_F g D (ps_qI P)) 0 0 134 [some (.ref (g.2.2.1 + 0)), some (.int y1), some (.int y2), some (.int y3), some (.ref (g.2.2.1 + B12)), some (.int x5), some (.int x6), some (.int x7), some (.int x8)] [] 345 (ps_E g σ)) → pm_W g mX8_speeds (ps_F g D (ps_qI P)) 0 0 86 [some (.ref (g.2.2.1 + 0)), some (.int y1), some (.int y2), some (.int y3), some (.ref (g.2.2.1 + B12)), some (.int x5), some (.int x6), some (.int x7), some (.int x8)] [] 345 (ps_E g σ) := by
  intro n
  induction n with
  | zero => intro x5 x6 x7 x8 σ hK; exact (ps_no hK).elim
  | succ n ih =>
    intro x5 x6 x7 x8 σ hK
    rw [qX8_speeds_86] at hK
    refine pm_ild d_X8_speeds_86 rfl ?_
    refine pm_ki d_X8_speeds_88 ?_
    refine pm_icmp_gt d_X8_speeds_91 (fun c22 => ?_) (fun c22 => ?_)
    · replace hK := ps_ifT c22 hK
      exact ps_so hK
    · replace hK := ps_ifF c22 hK
      refine pm_ald d_X8_speeds_94 rfl ?_
      refine pm_ald d_X8_speeds_95 rfl ?_
      refine pm_ild d_X8_speeds_97 rfl ?_
      refine pm_ild d_X8_speeds_98 rfl ?_
      refine ps_cVI d_X8_speeds_100 mv_X8_fits at_0 ob_0_0 rfl (As := [.ref (g.2.2.1 + B12), .int y2, .int x8]) rfl rfl (ps_room.of (by omega) (by decide)) (Nat.le_of_ble_eq_true rfl) (C_X8_fits B12 hB12 y2 x8 σ _ (ps_bdE hK)) ?_
      intro v23 σ24 hT
      clear hK
      have hK := hT
      clear hT
      refine pm_if_eq d_X8_speeds_103 (fun c25 => ?_) (fun c25 => ?_)
      · replace hK := ps_ifT c25 hK
        refine pm_inc8 d_X8_speeds_128 rfl ?_
        obtain ⟨v26, ev26⟩ : ∃ y : Int32, y = x8 + 1 := ⟨_, rfl⟩
        rw [← ev26]
        replace hK := ps_ltE ev26 hK
        refine pm_goto d_X8_speeds_131 ?_
        exact ih _ _ _ _ _ hK
      · replace hK := ps_ifF c25 hK
        refine pm_inc5 d_X8_speeds_106 rfl ?_
        obtain ⟨v27, ev27⟩ : ∃ y : Int32, y = x5 + 1 := ⟨_, rfl⟩
        rw [← ev27]
        replace hK := ps_ltE ev27 hK
        refine pm_ild d_X8_speeds_109 rfl ?_
        refine pm_ki d_X8_speeds_111 ?_
        refine pm_icmp_ne d_X8_speeds_112 (fun c28 => ?_) (fun c28 => ?_)
        · replace hK := ps_ifF c28 hK
          refine pm_ild d_X8_speeds_120 rfl ?_
          refine pm_ist6 d_X8_speeds_122 rfl (by decide) ?_
          refine pm_ild d_X8_speeds_124 rfl ?_
          refine pm_ist7 d_X8_speeds_126 rfl (by decide) ?_
          refine pm_inc8 d_X8_speeds_128 rfl ?_
          obtain ⟨v29, ev29⟩ : ∃ y : Int32, y = x8 + 1 := ⟨_, rfl⟩
          rw [← ev29]
          replace hK := ps_ltE ev29 hK
          refine pm_goto d_X8_speeds_131 ?_
          exact ih _ _ _ _ _ hK
        · replace hK := ps_ifT c28 hK
          refine pm_ild d_X8_speeds_115 rfl ?_
          refine pm_goto d_X8_speeds_117 ?_
          refine pm_ist6 d_X8_speeds_122 rfl (by decide) ?_
          refine pm_ild d_X8_speeds_124 rfl ?_
          refine pm_ist7 d_X8_speeds_126 rfl (by decide) ?_
          refine pm_inc8 d_X8_speeds_128 rfl ?_
          obtain ⟨v30, ev30⟩ : ∃ y : Int32, y = x8 + 1 := ⟨_, rfl⟩
          rw [← ev30]
          replace hK := ps_ltE ev30 hK
          refine pm_goto d_X8_speeds_131 ?_
          exact ih _ _ _ _ _ hK
def qX8_speeds (p1 : Int32) (p2 : Int32) (p3 : Int32) (σ : ps_S) : Option (Int32 × ps_S) :=
  ps_bd (qX8_isTray p1 σ) (fun v1 σ2 =>
  if v1 = 0 then
  some ((-2), σ2)
  else
  ps_bd (qX8_isDevice p2 σ2) (fun v4 σ5 =>
  if v4 = 0 then
  some ((-2), σ5)
  else
  ps_bd (qX8_isWithin p3 0 2 σ5) (fun v7 σ8 =>
  if v7 = 0 then
  some ((-2), σ8)
  else
  if ps_in p1 4 = true then
  ps_let (265 + 2 * (p1).toNatClampNeg) fun B12 =>
  ps_let (σ8.1 B12 1) fun v13 =>
  if v13 = 0 then
  ps_let (σ8.1 B12 3) fun v15 =>
  ps_bd (qX8_isWithin v15 1 8 σ8) (fun v16 σ17 =>
  if v16 = 0 then
  some ((-4), σ17)
  else
  ps_bd (qX7_hasBelowZero B12 σ17) (fun v19 σ20 =>
  if v19 = 0 then
  ps_bd (qX8_speeds_86 B12 p1 p2 p3 ps_N 0 ((-1)) ((-1)) 0 σ20) (fun res σ31 => match res with
  | (v32, v33, v34, v35) =>
    if p3 = 0 then
    some (v32, σ31)
    else
    if p3 = 1 then
    some (v33, σ31)
    else
    some (v34, σ31))
  else
  some ((-3), σ20)))
  else
  some ((-6), σ8)
  else none)))
set_option maxRecDepth 100000 in
theorem C_X8_speeds {g : pm_G} (p1 : Int32) (p2 : Int32) (p3 : Int32) (σ : ps_S) (P : Int32 → ps_S → Prop) (hK : ps_ok (qX8_speeds p1 p2 p3 σ) P) : ps_C g mX8_speeds 8 [.ref (g.2.2.1 + 0), .int p1, .int p2, .int p3] σ (ps_qI P) := by
  unfold qX8_speeds at hK
  refine ps_C.of (ls := [some (.ref (g.2.2.1 + 0)), some (.int p1), some (.int p2), some (.int p3), none, none, none, none, none]) 5 (by decide) rfl (Nat.le_of_ble_eq_true rfl) rfl ?_
  refine pm_ild d_X8_speeds_0 rfl ?_
  refine ps_cSI d_X8_speeds_1 ms_X8_isTray (As := [.int p1]) rfl rfl (ps_room.of (by omega) (by decide)) (Nat.le_of_ble_eq_true rfl) (C_X8_isTray p1 σ _ (ps_bdE hK)) ?_
  intro v1 σ2 hT
  clear hK
  have hK := hT
  clear hT
  refine pm_if_eq d_X8_speeds_4 (fun c3 => ?_) (fun c3 => ?_)
  · replace hK := ps_ifT c3 hK
    refine pm_ki d_X8_speeds_24 ?_
    have hQ := ps_so hK
    exact ps_iret rfl d_X8_speeds_26 ⟨_, rfl, hQ⟩
  · replace hK := ps_ifF c3 hK
    refine pm_ald d_X8_speeds_7 rfl ?_
    refine pm_ild d_X8_speeds_8 rfl ?_
    refine ps_cVI d_X8_speeds_9 mv_X8_isDevice at_0 ob_0_0 rfl (As := [.int p2]) rfl rfl (ps_room.of (by omega) (by decide)) (Nat.le_of_ble_eq_true rfl) (C_X8_isDevice p2 σ2 _ (ps_bdE hK)) ?_
    intro v4 σ5 hT
    clear hK
    have hK := hT
    clear hT
    refine pm_if_eq d_X8_speeds_12 (fun c6 => ?_) (fun c6 => ?_)
    · replace hK := ps_ifT c6 hK
      refine pm_ki d_X8_speeds_24 ?_
      have hQ := ps_so hK
      exact ps_iret rfl d_X8_speeds_26 ⟨_, rfl, hQ⟩
    · replace hK := ps_ifF c6 hK
      refine pm_ild d_X8_speeds_15 rfl ?_
      refine pm_ki d_X8_speeds_16 ?_
      refine pm_ki d_X8_speeds_17 ?_
      refine ps_cSI d_X8_speeds_18 ms_X8_isWithin (As := [.int p3, .int 0, .int 2]) rfl rfl (ps_room.of (by omega) (by decide)) (Nat.le_of_ble_eq_true rfl) (C_X8_isWithin p3 0 2 σ5 _ (ps_bdE hK)) ?_
      intro v7 σ8 hT
      clear hK
      have hK := hT
      clear hT
      refine pm_if_ne d_X8_speeds_21 (fun c9 => ?_) (fun c9 => ?_)
      · replace hK := ps_ifF c9 hK
        refine pm_ald d_X8_speeds_27 rfl ?_
        refine ps_getR (q := 81) d_X8_speeds_28 at_0 f_0_0_12 rfl ?_
        refine pm_ild d_X8_speeds_31 rfl ?_
        obtain ⟨b10, hT⟩ := ps_gd hK
        replace hK := hT
        clear hT
        obtain ⟨B12, eB12⟩ : ∃ y : Nat, y = (265 + 2 * (p1).toNatClampNeg) := ⟨_, rfl⟩
        refine ps_qald6 (q := B12) d_X8_speeds_32 at_81 a_6_1 (ps_in_of b10) eB12.symm ?_
        replace hK := ps_ltE eB12 hK
        have hB12 : ps_Tr B12 := by rw [eB12]; exact ps_Trt _ (ps_in_lt b10)
        refine pm_ast4 d_X8_speeds_33 rfl (by decide) ?_
        refine pm_ald d_X8_speeds_35 rfl ?_
        refine ps_getI d_X8_speeds_37 hB12.at0 f_7_0_1 rfl ?_
        refine ps_topI (fun v13 ev13 => ?_)
        replace hK := ps_ltE ev13 hK
        refine pm_if_eq d_X8_speeds_40 (fun c14 => ?_) (fun c14 => ?_)
        · replace hK := ps_ifT c14 hK
          refine pm_ald d_X8_speeds_46 rfl ?_
          refine ps_getI d_X8_speeds_48 hB12.at0 f_7_0_3 rfl ?_
          refine ps_topI (fun v15 ev15 => ?_)
          replace hK := ps_ltE ev15 hK
          refine pm_ki d_X8_speeds_51 ?_
          refine pm_ki d_X8_speeds_52 ?_
          refine ps_cSI d_X8_speeds_54 ms_X8_isWithin (As := [.int v15, .int 1, .int 8]) rfl rfl (ps_room.of (by omega) (by decide)) (Nat.le_of_ble_eq_true rfl) (C_X8_isWithin v15 1 8 σ8 _ (ps_bdE hK)) ?_
          intro v16 σ17 hT
          clear hK
          have hK := hT
          clear hT
          refine pm_if_ne d_X8_speeds_57 (fun c18 => ?_) (fun c18 => ?_)
          · replace hK := ps_ifF c18 hK
            refine pm_ald d_X8_speeds_63 rfl ?_
            refine ps_cVI d_X8_speeds_65 mv_X7_hasBelowZero hB12.at0 ob_7_0 rfl (As := []) rfl rfl (ps_room.of (by omega) (by decide)) (Nat.le_of_ble_eq_true rfl) (C_X7_hasBelowZero B12 hB12 σ17 _ (ps_bdE hK)) ?_
            intro v19 σ20 hT
            clear hK
            have hK := hT
            clear hT
            refine pm_if_eq d_X8_speeds_68 (fun c21 => ?_) (fun c21 => ?_)
            · replace hK := ps_ifT c21 hK
              refine pm_ki d_X8_speeds_74 ?_
              refine pm_ist5 d_X8_speeds_75 rfl (by decide) ?_
              refine pm_ki d_X8_speeds_77 ?_
              refine pm_ist6 d_X8_speeds_78 rfl (by decide) ?_
              refine pm_ki d_X8_speeds_80 ?_
              refine pm_ist7 d_X8_speeds_81 rfl (by decide) ?_
              refine pm_ki d_X8_speeds_83 ?_
              refine pm_ist8 d_X8_speeds_84 rfl (by decide) ?_
              refine L_X8_speeds_86 _ (by decide) B12 hB12 p1 p2 p3 _ _ _ _ _ _ (ps_ok.mono (ps_bdE hK) ?_)
              rintro ⟨v32, v33, v34, v35⟩ σ31 hT
              clear hK
              have hK := hT
              clear hT
              refine pm_ild d_X8_speeds_134 rfl ?_
              refine pm_if_ne d_X8_speeds_135 (fun c36 => ?_) (fun c36 => ?_)
              · replace hK := ps_ifF c36 hK
                refine pm_ild d_X8_speeds_141 rfl ?_
                refine pm_ki d_X8_speeds_142 ?_
                refine pm_icmp_ne d_X8_speeds_143 (fun c37 => ?_) (fun c37 => ?_)
                · replace hK := ps_ifF c37 hK
                  refine pm_ild d_X8_speeds_151 rfl ?_
                  have hQ := ps_so hK
                  exact ps_iret rfl d_X8_speeds_153 ⟨_, rfl, hQ⟩
                · replace hK := ps_ifT c37 hK
                  refine pm_ild d_X8_speeds_146 rfl ?_
                  refine pm_goto d_X8_speeds_148 ?_
                  have hQ := ps_so hK
                  exact ps_iret rfl d_X8_speeds_153 ⟨_, rfl, hQ⟩
              · replace hK := ps_ifT c36 hK
                refine pm_ild d_X8_speeds_138 rfl ?_
                have hQ := ps_so hK
                exact ps_iret rfl d_X8_speeds_140 ⟨_, rfl, hQ⟩
            · replace hK := ps_ifF c21 hK
              refine pm_ki d_X8_speeds_71 ?_
              have hQ := ps_so hK
              exact ps_iret rfl d_X8_speeds_73 ⟨_, rfl, hQ⟩
          · replace hK := ps_ifT c18 hK
            refine pm_ki d_X8_speeds_60 ?_
            have hQ := ps_so hK
            exact ps_iret rfl d_X8_speeds_62 ⟨_, rfl, hQ⟩
        · replace hK := ps_ifF c14 hK
          refine pm_ki d_X8_speeds_43 ?_
          have hQ := ps_so hK
          exact ps_iret rfl d_X8_speeds_45 ⟨_, rfl, hQ⟩
      · replace hK := ps_ifT c9 hK
        refine pm_ki d_X8_speeds_24 ?_
        have hQ := ps_so hK
        exact ps_iret rfl d_X8_speeds_26 ⟨_, rfl, hQ⟩
def qX8_starved_41  (y1 : Int32) (y2 : Int32) : Nat → Int32 → Int32 → ps_S → Option (((Int32 × Int32)) × ps_S)
  | 0, _, _, _ => none
  | n + 1, x3, x4, σ =>
    if y2 ≤ x4 then
    some ((x3, x4), σ)
    else
    ps_bd (qX0_run 44 1 σ) (fun _ σ11 =>
    if ps_in y1 4 = true then
    ps_let (σ11.1 (44 + 3) (y1).toNatClampNeg) fun v12 =>
    if v12 = 0 then
    if ps_in y1 4 = true then
    ps_let (σ11.1 (44 + 4) (y1).toNatClampNeg) fun v15 =>
    if v15 ≤ 0 then
    ps_let (x4 + 1) fun v17 =>
    qX8_starved_41 y1 y2 n x3 v17 σ11
    else
    ps_let (x3 + 1) fun v18 =>
    ps_let (x4 + 1) fun v19 =>
    qX8_starved_41 y1 y2 n v18 v19 σ11
    else none
    else
    ps_let (x4 + 1) fun v14 =>
    qX8_starved_41 y1 y2 n x3 v14 σ11
    else none)
set_option maxRecDepth 100000 in
theorem L_X8_starved_41 {g : pm_G} (D : Nat) (hD : 6 ≤ D) {P : Int32 → ps_S → Prop}  (y1 : Int32) (y2 : Int32) : ∀ (n : Nat) (x3 : Int32) (x4 : Int32) (σ : ps_S), ps_ok (qX8_starved_41 y1 y2 n x3 x4 σ) (fun res σ => match res with | (x3, x4) => pm_W g mX8_starved (ps_F g D (ps_qI P)) 0 0 98 [some (.ref (g.2.2.1 + 0)), some (.int y1), some (.int y2), some (.int x3), some (.int x4)] [] 345 (ps_E g σ)) → pm_W g mX8_starved (ps_F g D (ps_qI P)) 0 0 41 [some (.ref (g.2.2.1 + 0)), some (.int y1), some (.int y2), some (.int x3), some (.int x4)] [] 345 (ps_E g σ) := by
  intro n
  induction n with
  | zero => intro x3 x4 σ hK; exact (ps_no hK).elim
  | succ n ih =>
    intro x3 x4 σ hK
    rw [qX8_starved_41] at hK
    refine pm_ild d_X8_starved_41 rfl ?_
    refine pm_ild d_X8_starved_43 rfl ?_
    refine pm_icmp_ge d_X8_starved_44 (fun c9 => ?_) (fun c9 => ?_)
    · replace hK := ps_ifT c9 hK
      exact ps_so hK
    · replace hK := ps_ifF c9 hK
      refine pm_ald d_X8_starved_47 rfl ?_
      refine ps_getR (q := 21) d_X8_starved_48 at_0 f_0_0_5 rfl ?_
      refine pm_ald d_X8_starved_51 rfl ?_
      refine ps_getR (q := 44) d_X8_starved_52 at_0 f_0_0_7 rfl ?_
      refine pm_ki d_X8_starved_55 ?_
      refine ps_cVV d_X8_starved_56 mv_X0_run at_21 ob_4_0 rfl (As := [.ref (g.2.2.1 + 44), .int 1]) rfl rfl (ps_room.of (by omega) (by decide)) (Nat.le_of_ble_eq_true rfl) (C_X0_run 44 ps_St44 1 σ _ (ps_bdE hK)) ?_
      intro σ11 hT
      clear hK
      have hK := hT
      clear hT
      refine pm_ald d_X8_starved_59 rfl ?_
      refine ps_getR (q := 44) d_X8_starved_60 at_0 f_0_0_7 rfl ?_
      refine ps_getR (q := (44 + 1)) d_X8_starved_63 ps_St44.at0 f_5_0_0 rfl ?_
      refine ps_getR (q := (44 + 3)) d_X8_starved_66 (ps_St44.at 1 (by decide)) f_5_1_1 rfl ?_
      refine pm_ild d_X8_starved_69 rfl ?_
      obtain ⟨b21, hT⟩ := ps_gd hK
      replace hK := hT
      clear hT
      refine ps_iald d_X8_starved_70 (ps_St44.at 3 (by decide)) a_5_3 (ps_in_of b21) rfl ?_
      refine ps_topI (fun v12 ev12 => ?_)
      replace hK := ps_ltE ev12 hK
      refine pm_if_ne d_X8_starved_71 (fun c13 => ?_) (fun c13 => ?_)
      · replace hK := ps_ifF c13 hK
        refine pm_inc4 d_X8_starved_92 rfl ?_
        obtain ⟨v14, ev14⟩ : ∃ y : Int32, y = x4 + 1 := ⟨_, rfl⟩
        rw [← ev14]
        replace hK := ps_ltE ev14 hK
        refine pm_goto d_X8_starved_95 ?_
        exact ih _ _ _ hK
      · replace hK := ps_ifT c13 hK
        refine pm_ald d_X8_starved_74 rfl ?_
        refine ps_getR (q := 44) d_X8_starved_75 at_0 f_0_0_7 rfl ?_
        refine ps_getR (q := (44 + 1)) d_X8_starved_78 ps_St44.at0 f_5_0_0 rfl ?_
        refine ps_getR (q := (44 + 4)) d_X8_starved_81 (ps_St44.at 1 (by decide)) f_5_1_2 rfl ?_
        refine pm_ild d_X8_starved_84 rfl ?_
        obtain ⟨b20, hT⟩ := ps_gd hK
        replace hK := hT
        clear hT
        refine ps_iald d_X8_starved_85 (ps_St44.at 4 (by decide)) a_5_4 (ps_in_of b20) rfl ?_
        refine ps_topI (fun v15 ev15 => ?_)
        replace hK := ps_ltE ev15 hK
        refine pm_if_le d_X8_starved_86 (fun c16 => ?_) (fun c16 => ?_)
        · replace hK := ps_ifT c16 hK
          refine pm_inc4 d_X8_starved_92 rfl ?_
          obtain ⟨v17, ev17⟩ : ∃ y : Int32, y = x4 + 1 := ⟨_, rfl⟩
          rw [← ev17]
          replace hK := ps_ltE ev17 hK
          refine pm_goto d_X8_starved_95 ?_
          exact ih _ _ _ hK
        · replace hK := ps_ifF c16 hK
          refine pm_inc3 d_X8_starved_89 rfl ?_
          obtain ⟨v18, ev18⟩ : ∃ y : Int32, y = x3 + 1 := ⟨_, rfl⟩
          rw [← ev18]
          replace hK := ps_ltE ev18 hK
          refine pm_inc4 d_X8_starved_92 rfl ?_
          obtain ⟨v19, ev19⟩ : ∃ y : Int32, y = x4 + 1 := ⟨_, rfl⟩
          rw [← ev19]
          replace hK := ps_ltE ev19 hK
          refine pm_goto d_X8_starved_95 ?_
          exact ih _ _ _ hK
def qX8_starved (p1 : Int32) (p2 : Int32) (σ : ps_S) : Option (Int32 × ps_S) :=
  ps_bd (qX8_isDevice p1 σ) (fun v1 σ2 =>
  if v1 = 0 then
  some ((-2), σ2)
  else
  ps_bd (qX8_isWithin p2 1 999 σ2) (fun v4 σ5 =>
  if v4 = 0 then
  some ((-3), σ5)
  else
  ps_bd (qX6_copyFrom 44 26 σ5) (fun _ σ8 =>
  ps_bd (qX8_starved_41 p1 p2 ps_N 0 0 σ8) (fun res σ22 => match res with
  | (v23, v24) =>
    some (v23, σ22)))))
set_option maxRecDepth 100000 in
theorem C_X8_starved {g : pm_G} (p1 : Int32) (p2 : Int32) (σ : ps_S) (P : Int32 → ps_S → Prop) (hK : ps_ok (qX8_starved p1 p2 σ) P) : ps_C g mX8_starved 6 [.ref (g.2.2.1 + 0), .int p1, .int p2] σ (ps_qI P) := by
  unfold qX8_starved at hK
  refine ps_C.of (ls := [some (.ref (g.2.2.1 + 0)), some (.int p1), some (.int p2), none, none]) 2 (by decide) rfl (Nat.le_of_ble_eq_true rfl) rfl ?_
  refine pm_ald d_X8_starved_0 rfl ?_
  refine pm_ild d_X8_starved_1 rfl ?_
  refine ps_cVI d_X8_starved_2 mv_X8_isDevice at_0 ob_0_0 rfl (As := [.int p1]) rfl rfl (ps_room.of (by omega) (by decide)) (Nat.le_of_ble_eq_true rfl) (C_X8_isDevice p1 σ _ (ps_bdE hK)) ?_
  intro v1 σ2 hT
  clear hK
  have hK := hT
  clear hT
  refine pm_if_ne d_X8_starved_5 (fun c3 => ?_) (fun c3 => ?_)
  · replace hK := ps_ifF c3 hK
    refine pm_ild d_X8_starved_11 rfl ?_
    refine pm_ki d_X8_starved_12 ?_
    refine pm_ki d_X8_starved_13 ?_
    refine ps_cSI d_X8_starved_16 ms_X8_isWithin (As := [.int p2, .int 1, .int 999]) rfl rfl (ps_room.of (by omega) (by decide)) (Nat.le_of_ble_eq_true rfl) (C_X8_isWithin p2 1 999 σ2 _ (ps_bdE hK)) ?_
    intro v4 σ5 hT
    clear hK
    have hK := hT
    clear hT
    refine pm_if_ne d_X8_starved_19 (fun c6 => ?_) (fun c6 => ?_)
    · replace hK := ps_ifF c6 hK
      refine pm_ald d_X8_starved_25 rfl ?_
      refine ps_getR (q := 44) d_X8_starved_26 at_0 f_0_0_7 rfl ?_
      refine pm_ald d_X8_starved_29 rfl ?_
      refine ps_getR (q := 26) d_X8_starved_30 at_0 f_0_0_6 rfl ?_
      refine ps_cVV d_X8_starved_33 mv_X6_copyFrom ps_St44.at0 ob_5_0 rfl (As := [.ref (g.2.2.1 + 26)]) rfl rfl (ps_room.of (by omega) (by decide)) (Nat.le_of_ble_eq_true rfl) (C_X6_copyFrom 44 ps_St44 26 ps_St26 σ5 _ (ps_bdE hK)) ?_
      intro σ8 hT
      clear hK
      have hK := hT
      clear hT
      refine pm_ki d_X8_starved_36 ?_
      refine pm_ist3 d_X8_starved_37 rfl (by decide) ?_
      refine pm_ki d_X8_starved_38 ?_
      refine pm_ist4 d_X8_starved_39 rfl (by decide) ?_
      refine L_X8_starved_41 _ (by decide) p1 p2 _ _ _ _ (ps_ok.mono (ps_bdE hK) ?_)
      rintro ⟨v23, v24⟩ σ22 hT
      clear hK
      have hK := hT
      clear hT
      refine pm_ild d_X8_starved_98 rfl ?_
      have hQ := ps_so hK
      exact ps_iret rfl d_X8_starved_99 ⟨_, rfl, hQ⟩
    · replace hK := ps_ifT c6 hK
      refine pm_ki d_X8_starved_22 ?_
      have hQ := ps_so hK
      exact ps_iret rfl d_X8_starved_24 ⟨_, rfl, hQ⟩
  · replace hK := ps_ifT c3 hK
    refine pm_ki d_X8_starved_8 ?_
    have hQ := ps_so hK
    exact ps_iret rfl d_X8_starved_10 ⟨_, rfl, hQ⟩
def qX8_ticks (p1 : Int32) (σ : ps_S) : Option (Int32 × ps_S) :=
  ps_bd (qX8_isWithin p1 1 999 σ) (fun v1 σ2 =>
  if v1 = 0 then
  some ((-3), σ2)
  else
  ps_bd (qX6_copyFrom 62 26 σ2) (fun _ σ5 =>
  ps_bd (qX0_run 26 p1 σ5) (fun _ σ7 =>
  ps_bd (qX8_remember σ7) (fun _ σ9 =>
  ps_bd (qX6_writtenInAll 26 σ9) (fun v10 σ11 =>
  ps_bd (qX6_writtenInAll 62 σ11) (fun v12 σ13 =>
  some ((v10 - v12), σ13)))))))
set_option maxRecDepth 100000 in
theorem C_X8_ticks {g : pm_G} (p1 : Int32) (σ : ps_S) (P : Int32 → ps_S → Prop) (hK : ps_ok (qX8_ticks p1 σ) P) : ps_C g mX8_ticks 6 [.ref (g.2.2.1 + 0), .int p1] σ (ps_qI P) := by
  unfold qX8_ticks at hK
  refine ps_C.of (ls := [some (.ref (g.2.2.1 + 0)), some (.int p1)]) 0 (by decide) rfl (Nat.le_of_ble_eq_true rfl) rfl ?_
  refine pm_ild d_X8_ticks_0 rfl ?_
  refine pm_ki d_X8_ticks_1 ?_
  refine pm_ki d_X8_ticks_2 ?_
  refine ps_cSI d_X8_ticks_5 ms_X8_isWithin (As := [.int p1, .int 1, .int 999]) rfl rfl (ps_room.of (by omega) (by decide)) (Nat.le_of_ble_eq_true rfl) (C_X8_isWithin p1 1 999 σ _ (ps_bdE hK)) ?_
  intro v1 σ2 hT
  clear hK
  have hK := hT
  clear hT
  refine pm_if_ne d_X8_ticks_8 (fun c3 => ?_) (fun c3 => ?_)
  · replace hK := ps_ifF c3 hK
    refine pm_ald d_X8_ticks_14 rfl ?_
    refine ps_getR (q := 62) d_X8_ticks_15 at_0 f_0_0_8 rfl ?_
    refine pm_ald d_X8_ticks_18 rfl ?_
    refine ps_getR (q := 26) d_X8_ticks_19 at_0 f_0_0_6 rfl ?_
    refine ps_cVV d_X8_ticks_22 mv_X6_copyFrom ps_St62.at0 ob_5_0 rfl (As := [.ref (g.2.2.1 + 26)]) rfl rfl (ps_room.of (by omega) (by decide)) (Nat.le_of_ble_eq_true rfl) (C_X6_copyFrom 62 ps_St62 26 ps_St26 σ2 _ (ps_bdE hK)) ?_
    intro σ5 hT
    clear hK
    have hK := hT
    clear hT
    refine pm_ald d_X8_ticks_25 rfl ?_
    refine ps_getR (q := 21) d_X8_ticks_26 at_0 f_0_0_5 rfl ?_
    refine pm_ald d_X8_ticks_29 rfl ?_
    refine ps_getR (q := 26) d_X8_ticks_30 at_0 f_0_0_6 rfl ?_
    refine pm_ild d_X8_ticks_33 rfl ?_
    refine ps_cVV d_X8_ticks_34 mv_X0_run at_21 ob_4_0 rfl (As := [.ref (g.2.2.1 + 26), .int p1]) rfl rfl (ps_room.of (by omega) (by decide)) (Nat.le_of_ble_eq_true rfl) (C_X0_run 26 ps_St26 p1 σ5 _ (ps_bdE hK)) ?_
    intro σ7 hT
    clear hK
    have hK := hT
    clear hT
    refine pm_ald d_X8_ticks_37 rfl ?_
    refine ps_cVV d_X8_ticks_38 mv_X8_remember at_0 ob_0_0 rfl (As := []) rfl rfl (ps_room.of (by omega) (by decide)) (Nat.le_of_ble_eq_true rfl) (C_X8_remember σ7 _ (ps_bdE hK)) ?_
    intro σ9 hT
    clear hK
    have hK := hT
    clear hT
    refine pm_ald d_X8_ticks_41 rfl ?_
    refine ps_getR (q := 26) d_X8_ticks_42 at_0 f_0_0_6 rfl ?_
    refine ps_cVI d_X8_ticks_45 mv_X6_writtenInAll ps_St26.at0 ob_5_0 rfl (As := []) rfl rfl (ps_room.of (by omega) (by decide)) (Nat.le_of_ble_eq_true rfl) (C_X6_writtenInAll 26 ps_St26 σ9 _ (ps_bdE hK)) ?_
    intro v10 σ11 hT
    clear hK
    have hK := hT
    clear hT
    refine pm_ald d_X8_ticks_48 rfl ?_
    refine ps_getR (q := 62) d_X8_ticks_49 at_0 f_0_0_8 rfl ?_
    refine ps_cVI d_X8_ticks_52 mv_X6_writtenInAll ps_St62.at0 ob_5_0 rfl (As := []) rfl rfl (ps_room.of (by omega) (by decide)) (Nat.le_of_ble_eq_true rfl) (C_X6_writtenInAll 62 ps_St62 σ11 _ (ps_bdE hK)) ?_
    intro v12 σ13 hT
    clear hK
    have hK := hT
    clear hT
    refine pm_isub d_X8_ticks_55 ?_
    have hQ := ps_so hK
    exact ps_iret rfl d_X8_ticks_56 ⟨_, rfl, hQ⟩
  · replace hK := ps_ifT c3 hK
    refine pm_ki d_X8_ticks_11 ?_
    have hQ := ps_so hK
    exact ps_iret rfl d_X8_ticks_13 ⟨_, rfl, hQ⟩
def qX8_undo (p1 : Int32) (σ : ps_S) : Option (Int32 × ps_S) :=
  ps_bd (qX8_isWithin p1 1 10 σ) (fun v1 σ2 =>
  if v1 = 0 then
  some ((-3), σ2)
  else
  ps_let (σ2.1 0 11) fun v4 =>
  if p1 ≤ v4 then
  ps_let (σ2.1 0 11) fun v6 =>
  ps_let (ps_rI σ2 0 (upd (σ2.1 0) 11 ((v6 - p1)))) fun σ7 =>
  ps_let (σ7.1 0 10) fun v8 =>
  ps_let (σ7.1 0 11) fun v9 =>
  if ps_in ((((v8 + v9)) - ((v8 + v9)) / 10 * 10)) 10 = true then
  ps_let (85 + 18 * ((((v8 + v9)) - ((v8 + v9)) / 10 * 10)).toNatClampNeg) fun B12 =>
  ps_bd (qX6_copyFrom 26 B12 σ7) (fun _ σ14 =>
  ps_let (σ14.1 0 11) fun v15 =>
  some (v15, σ14))
  else none
  else
  some ((-3), σ2))
set_option maxRecDepth 100000 in
theorem C_X8_undo {g : pm_G} (p1 : Int32) (σ : ps_S) (P : Int32 → ps_S → Prop) (hK : ps_ok (qX8_undo p1 σ) P) : ps_C g mX8_undo 3 [.ref (g.2.2.1 + 0), .int p1] σ (ps_qI P) := by
  unfold qX8_undo at hK
  refine ps_C.of (ls := [some (.ref (g.2.2.1 + 0)), some (.int p1)]) 0 (by decide) rfl (Nat.le_of_ble_eq_true rfl) rfl ?_
  refine pm_ild d_X8_undo_0 rfl ?_
  refine pm_ki d_X8_undo_1 ?_
  refine pm_ki d_X8_undo_2 ?_
  refine ps_cSI d_X8_undo_4 ms_X8_isWithin (As := [.int p1, .int 1, .int 10]) rfl rfl (ps_room.of (by omega) (by decide)) (Nat.le_of_ble_eq_true rfl) (C_X8_isWithin p1 1 10 σ _ (ps_bdE hK)) ?_
  intro v1 σ2 hT
  clear hK
  have hK := hT
  clear hT
  refine pm_if_eq d_X8_undo_7 (fun c3 => ?_) (fun c3 => ?_)
  · replace hK := ps_ifT c3 hK
    refine pm_ki d_X8_undo_18 ?_
    have hQ := ps_so hK
    exact ps_iret rfl d_X8_undo_20 ⟨_, rfl, hQ⟩
  · replace hK := ps_ifF c3 hK
    refine pm_ild d_X8_undo_10 rfl ?_
    refine pm_ald d_X8_undo_11 rfl ?_
    refine ps_getI d_X8_undo_12 at_0 f_0_0_11 rfl ?_
    refine ps_topI (fun v4 ev4 => ?_)
    replace hK := ps_ltE ev4 hK
    refine pm_icmp_le d_X8_undo_15 (fun c5 => ?_) (fun c5 => ?_)
    · replace hK := ps_ifT c5 hK
      refine pm_ald d_X8_undo_21 rfl ?_
      refine pm_dup d_X8_undo_22 rfl ?_
      refine ps_getI d_X8_undo_23 at_0 f_0_0_11 rfl ?_
      refine ps_topI (fun v6 ev6 => ?_)
      replace hK := ps_ltE ev6 hK
      refine pm_ild d_X8_undo_26 rfl ?_
      refine pm_isub d_X8_undo_27 ?_
      refine ps_putI d_X8_undo_28 at_0 f_0_0_11 rfl rfl ?_
      refine ps_nmS (fun σ7 eσ7 => ?_)
      replace hK := ps_ltE eσ7 hK
      refine pm_ald d_X8_undo_31 rfl ?_
      refine ps_getR (q := 26) d_X8_undo_32 at_0 f_0_0_6 rfl ?_
      refine pm_ald d_X8_undo_35 rfl ?_
      refine ps_getR (q := 80) d_X8_undo_36 at_0 f_0_0_9 rfl ?_
      refine pm_ald d_X8_undo_39 rfl ?_
      refine ps_getI d_X8_undo_40 at_0 f_0_0_10 rfl ?_
      refine ps_topI (fun v8 ev8 => ?_)
      replace hK := ps_ltE ev8 hK
      refine pm_ald d_X8_undo_43 rfl ?_
      refine ps_getI d_X8_undo_44 at_0 f_0_0_11 rfl ?_
      refine ps_topI (fun v9 ev9 => ?_)
      replace hK := ps_ltE ev9 hK
      refine pm_iadd d_X8_undo_47 ?_
      refine pm_ki d_X8_undo_48 ?_
      refine pm_irem d_X8_undo_50 (by decide) ?_
      obtain ⟨b10, hT⟩ := ps_gd hK
      replace hK := hT
      clear hT
      obtain ⟨B12, eB12⟩ : ∃ y : Nat, y = (85 + 18 * ((((v8 + v9)) - ((v8 + v9)) / 10 * 10)).toNatClampNeg) := ⟨_, rfl⟩
      refine ps_qald5 (q := B12) d_X8_undo_51 at_80 a_6_0 (ps_in_of b10) eB12.symm ?_
      replace hK := ps_ltE eB12 hK
      have hB12 : ps_St B12 := by rw [eB12]; exact ps_Stp _ (ps_in_lt b10)
      refine ps_cVV d_X8_undo_52 mv_X6_copyFrom ps_St26.at0 ob_5_0 rfl (As := [.ref (g.2.2.1 + B12)]) rfl rfl (ps_room.of (by omega) (by decide)) (Nat.le_of_ble_eq_true rfl) (C_X6_copyFrom 26 ps_St26 B12 hB12 σ7 _ (ps_bdE hK)) ?_
      intro σ14 hT
      clear hK
      have hK := hT
      clear hT
      refine pm_ald d_X8_undo_55 rfl ?_
      refine ps_getI d_X8_undo_56 at_0 f_0_0_11 rfl ?_
      refine ps_topI (fun v15 ev15 => ?_)
      replace hK := ps_ltE ev15 hK
      have hQ := ps_so hK
      exact ps_iret rfl d_X8_undo_59 ⟨_, rfl, hQ⟩
    · replace hK := ps_ifF c5 hK
      refine pm_ki d_X8_undo_18 ?_
      have hQ := ps_so hK
      exact ps_iret rfl d_X8_undo_20 ⟨_, rfl, hQ⟩
def qX8_wants (p1 : Int32) (p2 : Int32) (σ : ps_S) : Option (Int32 × ps_S) :=
  ps_bd (qX8_canTellWants p1 p2 σ) (fun v1 σ2 =>
  if v1 = 0 then
  some ((-11), σ2)
  else
  ps_bd (qX6_copyFrom 62 26 σ2) (fun _ σ5 =>
  if ps_in p1 6 = true then
  ps_let (ps_rI σ5 (26 + 13) (upd (σ5.1 (26 + 13)) (p1).toNatClampNeg p2)) fun σ6 =>
  ps_bd (qX8_remember σ6) (fun _ σ8 =>
  if ps_in p1 6 = true then
  ps_let (σ8.1 (62 + 13) (p1).toNatClampNeg) fun v9 =>
  some (v9, σ8)
  else none)
  else none))
set_option maxRecDepth 100000 in
theorem C_X8_wants {g : pm_G} (p1 : Int32) (p2 : Int32) (σ : ps_S) (P : Int32 → ps_S → Prop) (hK : ps_ok (qX8_wants p1 p2 σ) P) : ps_C g mX8_wants 4 [.ref (g.2.2.1 + 0), .int p1, .int p2] σ (ps_qI P) := by
  unfold qX8_wants at hK
  refine ps_C.of (ls := [some (.ref (g.2.2.1 + 0)), some (.int p1), some (.int p2)]) 0 (by decide) rfl (Nat.le_of_ble_eq_true rfl) rfl ?_
  refine pm_ald d_X8_wants_0 rfl ?_
  refine pm_ild d_X8_wants_1 rfl ?_
  refine pm_ild d_X8_wants_2 rfl ?_
  refine ps_cVI d_X8_wants_3 mv_X8_canTellWants at_0 ob_0_0 rfl (As := [.int p1, .int p2]) rfl rfl (ps_room.of (by omega) (by decide)) (Nat.le_of_ble_eq_true rfl) (C_X8_canTellWants p1 p2 σ _ (ps_bdE hK)) ?_
  intro v1 σ2 hT
  clear hK
  have hK := hT
  clear hT
  refine pm_if_ne d_X8_wants_6 (fun c3 => ?_) (fun c3 => ?_)
  · replace hK := ps_ifF c3 hK
    refine pm_ald d_X8_wants_12 rfl ?_
    refine ps_getR (q := 62) d_X8_wants_13 at_0 f_0_0_8 rfl ?_
    refine pm_ald d_X8_wants_16 rfl ?_
    refine ps_getR (q := 26) d_X8_wants_17 at_0 f_0_0_6 rfl ?_
    refine ps_cVV d_X8_wants_20 mv_X6_copyFrom ps_St62.at0 ob_5_0 rfl (As := [.ref (g.2.2.1 + 26)]) rfl rfl (ps_room.of (by omega) (by decide)) (Nat.le_of_ble_eq_true rfl) (C_X6_copyFrom 62 ps_St62 26 ps_St26 σ2 _ (ps_bdE hK)) ?_
    intro σ5 hT
    clear hK
    have hK := hT
    clear hT
    refine pm_ald d_X8_wants_23 rfl ?_
    refine ps_getR (q := 26) d_X8_wants_24 at_0 f_0_0_6 rfl ?_
    refine ps_getR (q := (26 + 13)) d_X8_wants_27 ps_St26.at0 f_5_0_3 rfl ?_
    refine pm_ild d_X8_wants_30 rfl ?_
    refine pm_ild d_X8_wants_31 rfl ?_
    obtain ⟨b11, hT⟩ := ps_gd hK
    replace hK := hT
    clear hT
    refine ps_iast d_X8_wants_32 (ps_St26.at 13 (by decide)) a_5_13 (ps_in_of b11) ?_
    refine ps_nmS (fun σ6 eσ6 => ?_)
    replace hK := ps_ltE eσ6 hK
    refine pm_ald d_X8_wants_33 rfl ?_
    refine ps_cVV d_X8_wants_34 mv_X8_remember at_0 ob_0_0 rfl (As := []) rfl rfl (ps_room.of (by omega) (by decide)) (Nat.le_of_ble_eq_true rfl) (C_X8_remember σ6 _ (ps_bdE hK)) ?_
    intro σ8 hT
    clear hK
    have hK := hT
    clear hT
    refine pm_ald d_X8_wants_37 rfl ?_
    refine ps_getR (q := 62) d_X8_wants_38 at_0 f_0_0_8 rfl ?_
    refine ps_getR (q := (62 + 13)) d_X8_wants_41 ps_St62.at0 f_5_0_3 rfl ?_
    refine pm_ild d_X8_wants_44 rfl ?_
    obtain ⟨b10, hT⟩ := ps_gd hK
    replace hK := hT
    clear hT
    refine ps_iald d_X8_wants_45 (ps_St62.at 13 (by decide)) a_5_13 (ps_in_of b10) rfl ?_
    refine ps_topI (fun v9 ev9 => ?_)
    replace hK := ps_ltE ev9 hK
    have hQ := ps_so hK
    exact ps_iret rfl d_X8_wants_46 ⟨_, rfl, hQ⟩
  · replace hK := ps_ifT c3 hK
    refine pm_ki d_X8_wants_9 ?_
    have hQ := ps_so hK
    exact ps_iret rfl d_X8_wants_11 ⟨_, rfl, hQ⟩
def qX8_write (p1 : Int32) (p2 : Int32) (p3 : Int64) (σ : ps_S) : Option (Int64 × ps_S) :=
  ps_bd (qX8_isTray p1 σ) (fun v1 σ2 =>
  if v1 = 0 then
  some ((-2), σ2)
  else
  if ps_in p1 4 = true then
  ps_let (265 + 2 * (p1).toNatClampNeg) fun B6 =>
  ps_let (σ2.1 B6 1) fun v7 =>
  if v7 = 0 then
  if ps_in p1 4 = true then
  ps_let (265 + 2 * (p1).toNatClampNeg) fun B11 =>
  ps_let (σ2.1 B11 3) fun v12 =>
  ps_bd (qX8_isWithin p2 0 ((v12 - 1)) σ2) (fun v13 σ14 =>
  if v13 = 0 then
  some ((-7), σ14)
  else
  if ps_in p1 4 = true then
  ps_let (265 + 2 * (p1).toNatClampNeg) fun B18 =>
  ps_bd (qX7_put B18 p2 p3 σ14) (fun _ σ20 =>
  if ps_in p1 4 = true then
  ps_let (265 + 2 * (p1).toNatClampNeg) fun B23 =>
  if ps_in p2 40 = true then
  ps_let (σ20.2.1 (B23 + 1) (p2).toNatClampNeg) fun v24 =>
  some (v24, σ20)
  else none
  else none)
  else none)
  else none
  else
  some ((-6), σ2)
  else none)
set_option maxRecDepth 100000 in
theorem C_X8_write {g : pm_G} (p1 : Int32) (p2 : Int32) (p3 : Int64) (σ : ps_S) (P : Int64 → ps_S → Prop) (hK : ps_ok (qX8_write p1 p2 p3 σ) P) : ps_C g mX8_write 2 [.ref (g.2.2.1 + 0), .int p1, .int p2, .long p3] σ (ps_qL P) := by
  unfold qX8_write at hK
  refine ps_C.of (ls := [some (.ref (g.2.2.1 + 0)), some (.int p1), some (.int p2), some (.long p3), none]) 0 (by decide) rfl (Nat.le_of_ble_eq_true rfl) rfl ?_
  refine pm_ild d_X8_write_0 rfl ?_
  refine ps_cSI d_X8_write_1 ms_X8_isTray (As := [.int p1]) rfl rfl (ps_room.of (by omega) (by decide)) (Nat.le_of_ble_eq_true rfl) (C_X8_isTray p1 σ _ (ps_bdE hK)) ?_
  intro v1 σ2 hT
  clear hK
  have hK := hT
  clear hT
  refine pm_if_ne d_X8_write_4 (fun c3 => ?_) (fun c3 => ?_)
  · replace hK := ps_ifF c3 hK
    refine pm_ald d_X8_write_11 rfl ?_
    refine ps_getR (q := 81) d_X8_write_12 at_0 f_0_0_12 rfl ?_
    refine pm_ild d_X8_write_15 rfl ?_
    obtain ⟨b4, hT⟩ := ps_gd hK
    replace hK := hT
    clear hT
    obtain ⟨B6, eB6⟩ : ∃ y : Nat, y = (265 + 2 * (p1).toNatClampNeg) := ⟨_, rfl⟩
    refine ps_qald6 (q := B6) d_X8_write_16 at_81 a_6_1 (ps_in_of b4) eB6.symm ?_
    replace hK := ps_ltE eB6 hK
    have hB6 : ps_Tr B6 := by rw [eB6]; exact ps_Trt _ (ps_in_lt b4)
    refine ps_getI d_X8_write_17 hB6.at0 f_7_0_1 rfl ?_
    refine ps_topI (fun v7 ev7 => ?_)
    replace hK := ps_ltE ev7 hK
    refine pm_if_eq d_X8_write_20 (fun c8 => ?_) (fun c8 => ?_)
    · replace hK := ps_ifT c8 hK
      refine pm_ild d_X8_write_27 rfl ?_
      refine pm_ki d_X8_write_28 ?_
      refine pm_ald d_X8_write_29 rfl ?_
      refine ps_getR (q := 81) d_X8_write_30 at_0 f_0_0_12 rfl ?_
      refine pm_ild d_X8_write_33 rfl ?_
      obtain ⟨b9, hT⟩ := ps_gd hK
      replace hK := hT
      clear hT
      obtain ⟨B11, eB11⟩ : ∃ y : Nat, y = (265 + 2 * (p1).toNatClampNeg) := ⟨_, rfl⟩
      refine ps_qald6 (q := B11) d_X8_write_34 at_81 a_6_1 (ps_in_of b9) eB11.symm ?_
      replace hK := ps_ltE eB11 hK
      have hB11 : ps_Tr B11 := by rw [eB11]; exact ps_Trt _ (ps_in_lt b9)
      refine ps_getI d_X8_write_35 hB11.at0 f_7_0_3 rfl ?_
      refine ps_topI (fun v12 ev12 => ?_)
      replace hK := ps_ltE ev12 hK
      refine pm_ki d_X8_write_38 ?_
      refine pm_isub d_X8_write_39 ?_
      refine ps_cSI d_X8_write_40 ms_X8_isWithin (As := [.int p2, .int 0, .int (v12 - 1)]) rfl rfl (ps_room.of (by omega) (by decide)) (Nat.le_of_ble_eq_true rfl) (C_X8_isWithin p2 0 ((v12 - 1)) σ2 _ (ps_bdE hK)) ?_
      intro v13 σ14 hT
      clear hK
      have hK := hT
      clear hT
      refine pm_if_ne d_X8_write_43 (fun c15 => ?_) (fun c15 => ?_)
      · replace hK := ps_ifF c15 hK
        refine pm_ald d_X8_write_50 rfl ?_
        refine ps_getR (q := 81) d_X8_write_51 at_0 f_0_0_12 rfl ?_
        refine pm_ild d_X8_write_54 rfl ?_
        obtain ⟨b16, hT⟩ := ps_gd hK
        replace hK := hT
        clear hT
        obtain ⟨B18, eB18⟩ : ∃ y : Nat, y = (265 + 2 * (p1).toNatClampNeg) := ⟨_, rfl⟩
        refine ps_qald6 (q := B18) d_X8_write_55 at_81 a_6_1 (ps_in_of b16) eB18.symm ?_
        replace hK := ps_ltE eB18 hK
        have hB18 : ps_Tr B18 := by rw [eB18]; exact ps_Trt _ (ps_in_lt b16)
        refine pm_ild d_X8_write_56 rfl ?_
        refine pm_lld d_X8_write_57 rfl ?_
        refine ps_cVV d_X8_write_58 mv_X7_put hB18.at0 ob_7_0 rfl (As := [.int p2, .long p3]) rfl rfl (ps_room.of (by omega) (by decide)) (Nat.le_of_ble_eq_true rfl) (C_X7_put B18 hB18 p2 p3 σ14 _ (ps_bdE hK)) ?_
        intro σ20 hT
        clear hK
        have hK := hT
        clear hT
        refine pm_ald d_X8_write_61 rfl ?_
        refine ps_getR (q := 81) d_X8_write_62 at_0 f_0_0_12 rfl ?_
        refine pm_ild d_X8_write_65 rfl ?_
        obtain ⟨b21, hT⟩ := ps_gd hK
        replace hK := hT
        clear hT
        obtain ⟨B23, eB23⟩ : ∃ y : Nat, y = (265 + 2 * (p1).toNatClampNeg) := ⟨_, rfl⟩
        refine ps_qald6 (q := B23) d_X8_write_66 at_81 a_6_1 (ps_in_of b21) eB23.symm ?_
        replace hK := ps_ltE eB23 hK
        have hB23 : ps_Tr B23 := by rw [eB23]; exact ps_Trt _ (ps_in_lt b21)
        refine ps_getR (q := (B23 + 1)) d_X8_write_67 hB23.at0 f_7_0_0 rfl ?_
        refine pm_ild d_X8_write_70 rfl ?_
        obtain ⟨b25, hT⟩ := ps_gd hK
        replace hK := hT
        clear hT
        refine ps_lald d_X8_write_71 (hB23.at 1 (by decide)) a_7_1 (ps_in_of b25) rfl ?_
        refine ps_topL (fun v24 ev24 => ?_)
        replace hK := ps_ltE ev24 hK
        have hQ := ps_so hK
        exact ps_lret rfl d_X8_write_72 ⟨_, rfl, hQ⟩
      · replace hK := ps_ifT c15 hK
        refine pm_kl d_X8_write_46 ?_
        have hQ := ps_so hK
        exact ps_lret rfl d_X8_write_49 ⟨_, rfl, hQ⟩
    · replace hK := ps_ifF c8 hK
      refine pm_kl d_X8_write_23 ?_
      have hQ := ps_so hK
      exact ps_lret rfl d_X8_write_26 ⟨_, rfl, hQ⟩
  · replace hK := ps_ifT c3 hK
    refine pm_kl d_X8_write_7 ?_
    have hQ := ps_so hK
    exact ps_lret rfl d_X8_write_10 ⟨_, rfl, hQ⟩
def qX8_writer (p1 : Int32) (p2 : Int32) (σ : ps_S) : Option (Int32 × ps_S) :=
  ps_bd (qX8_isWriter p1 σ) (fun v1 σ2 =>
  if v1 = 0 then
  some ((-2), σ2)
  else
  if p2 = 0 then
  if ps_in p1 6 = true then
  ps_let (σ2.1 (12 + 4) (p1).toNatClampNeg) fun v5 =>
  some (v5, σ2)
  else none
  else
  if p2 = 1 then
  if ps_in p1 6 = true then
  ps_let (σ2.1 (26 + 13) (p1).toNatClampNeg) fun v8 =>
  some (v8, σ2)
  else none
  else
  if p2 = 2 then
  if ps_in p1 6 = true then
  ps_let (σ2.1 (26 + 14) (p1).toNatClampNeg) fun v11 =>
  some (v11, σ2)
  else none
  else
  if p2 = 3 then
  if ps_in p1 6 = true then
  ps_let (σ2.1 (26 + 15) (p1).toNatClampNeg) fun v14 =>
  some (v14, σ2)
  else none
  else
  if p2 = 4 then
  if ps_in p1 6 = true then
  ps_let (σ2.1 (26 + 16) (p1).toNatClampNeg) fun v17 =>
  some (v17, σ2)
  else none
  else
  if p2 = 5 then
  if ps_in p1 6 = true then
  ps_let (σ2.1 (26 + 17) (p1).toNatClampNeg) fun v20 =>
  some (v20, σ2)
  else none
  else
  some ((-2), σ2))
set_option maxRecDepth 100000 in
theorem C_X8_writer {g : pm_G} (p1 : Int32) (p2 : Int32) (σ : ps_S) (P : Int32 → ps_S → Prop) (hK : ps_ok (qX8_writer p1 p2 σ) P) : ps_C g mX8_writer 2 [.ref (g.2.2.1 + 0), .int p1, .int p2] σ (ps_qI P) := by
  unfold qX8_writer at hK
  refine ps_C.of (ls := [some (.ref (g.2.2.1 + 0)), some (.int p1), some (.int p2)]) 0 (by decide) rfl (Nat.le_of_ble_eq_true rfl) rfl ?_
  refine pm_ald d_X8_writer_0 rfl ?_
  refine pm_ild d_X8_writer_1 rfl ?_
  refine ps_cVI d_X8_writer_2 mv_X8_isWriter at_0 ob_0_0 rfl (As := [.int p1]) rfl rfl (ps_room.of (by omega) (by decide)) (Nat.le_of_ble_eq_true rfl) (C_X8_isWriter p1 σ _ (ps_bdE hK)) ?_
  intro v1 σ2 hT
  clear hK
  have hK := hT
  clear hT
  refine pm_if_ne d_X8_writer_5 (fun c3 => ?_) (fun c3 => ?_)
  · replace hK := ps_ifF c3 hK
    refine pm_ild d_X8_writer_11 rfl ?_
    by_cases c4 : p2 = 0
    · replace hK := ps_ifT c4 hK
      refine pm_tabIn (tgt := 52) (off := 40) d_X8_writer_12 (by rw [c4]; decide) (by rw [c4]; decide) (by rw [c4]; rfl) (by decide) ?_
      refine pm_ald d_X8_writer_52 rfl ?_
      refine ps_getR (q := 12) d_X8_writer_53 at_0 f_0_0_4 rfl ?_
      refine ps_getR (q := (12 + 4)) d_X8_writer_56 ps_Ho12.at0 f_2_0_14 rfl ?_
      refine pm_ild d_X8_writer_59 rfl ?_
      obtain ⟨b6, hT⟩ := ps_gd hK
      replace hK := hT
      clear hT
      refine ps_iald d_X8_writer_60 (ps_Ho12.at 4 (by decide)) a_2_4 (ps_in_of b6) rfl ?_
      refine ps_topI (fun v5 ev5 => ?_)
      replace hK := ps_ltE ev5 hK
      have hQ := ps_so hK
      exact ps_iret rfl d_X8_writer_61 ⟨_, rfl, hQ⟩
    replace hK := ps_ifF c4 hK
    by_cases c7 : p2 = 1
    · replace hK := ps_ifT c7 hK
      refine pm_tabIn (tgt := 62) (off := 50) d_X8_writer_12 (by rw [c7]; decide) (by rw [c7]; decide) (by rw [c7]; rfl) (by decide) ?_
      refine pm_ald d_X8_writer_62 rfl ?_
      refine ps_getR (q := 26) d_X8_writer_63 at_0 f_0_0_6 rfl ?_
      refine ps_getR (q := (26 + 13)) d_X8_writer_66 ps_St26.at0 f_5_0_3 rfl ?_
      refine pm_ild d_X8_writer_69 rfl ?_
      obtain ⟨b9, hT⟩ := ps_gd hK
      replace hK := hT
      clear hT
      refine ps_iald d_X8_writer_70 (ps_St26.at 13 (by decide)) a_5_13 (ps_in_of b9) rfl ?_
      refine ps_topI (fun v8 ev8 => ?_)
      replace hK := ps_ltE ev8 hK
      have hQ := ps_so hK
      exact ps_iret rfl d_X8_writer_71 ⟨_, rfl, hQ⟩
    replace hK := ps_ifF c7 hK
    by_cases c10 : p2 = 2
    · replace hK := ps_ifT c10 hK
      refine pm_tabIn (tgt := 72) (off := 60) d_X8_writer_12 (by rw [c10]; decide) (by rw [c10]; decide) (by rw [c10]; rfl) (by decide) ?_
      refine pm_ald d_X8_writer_72 rfl ?_
      refine ps_getR (q := 26) d_X8_writer_73 at_0 f_0_0_6 rfl ?_
      refine ps_getR (q := (26 + 14)) d_X8_writer_76 ps_St26.at0 f_5_0_4 rfl ?_
      refine pm_ild d_X8_writer_79 rfl ?_
      obtain ⟨b12, hT⟩ := ps_gd hK
      replace hK := hT
      clear hT
      refine ps_iald d_X8_writer_80 (ps_St26.at 14 (by decide)) a_5_14 (ps_in_of b12) rfl ?_
      refine ps_topI (fun v11 ev11 => ?_)
      replace hK := ps_ltE ev11 hK
      have hQ := ps_so hK
      exact ps_iret rfl d_X8_writer_81 ⟨_, rfl, hQ⟩
    replace hK := ps_ifF c10 hK
    by_cases c13 : p2 = 3
    · replace hK := ps_ifT c13 hK
      refine pm_tabIn (tgt := 82) (off := 70) d_X8_writer_12 (by rw [c13]; decide) (by rw [c13]; decide) (by rw [c13]; rfl) (by decide) ?_
      refine pm_ald d_X8_writer_82 rfl ?_
      refine ps_getR (q := 26) d_X8_writer_83 at_0 f_0_0_6 rfl ?_
      refine ps_getR (q := (26 + 15)) d_X8_writer_86 ps_St26.at0 f_5_0_5 rfl ?_
      refine pm_ild d_X8_writer_89 rfl ?_
      obtain ⟨b15, hT⟩ := ps_gd hK
      replace hK := hT
      clear hT
      refine ps_iald d_X8_writer_90 (ps_St26.at 15 (by decide)) a_5_15 (ps_in_of b15) rfl ?_
      refine ps_topI (fun v14 ev14 => ?_)
      replace hK := ps_ltE ev14 hK
      have hQ := ps_so hK
      exact ps_iret rfl d_X8_writer_91 ⟨_, rfl, hQ⟩
    replace hK := ps_ifF c13 hK
    by_cases c16 : p2 = 4
    · replace hK := ps_ifT c16 hK
      refine pm_tabIn (tgt := 92) (off := 80) d_X8_writer_12 (by rw [c16]; decide) (by rw [c16]; decide) (by rw [c16]; rfl) (by decide) ?_
      refine pm_ald d_X8_writer_92 rfl ?_
      refine ps_getR (q := 26) d_X8_writer_93 at_0 f_0_0_6 rfl ?_
      refine ps_getR (q := (26 + 16)) d_X8_writer_96 ps_St26.at0 f_5_0_6 rfl ?_
      refine pm_ild d_X8_writer_99 rfl ?_
      obtain ⟨b18, hT⟩ := ps_gd hK
      replace hK := hT
      clear hT
      refine ps_iald d_X8_writer_100 (ps_St26.at 16 (by decide)) a_5_16 (ps_in_of b18) rfl ?_
      refine ps_topI (fun v17 ev17 => ?_)
      replace hK := ps_ltE ev17 hK
      have hQ := ps_so hK
      exact ps_iret rfl d_X8_writer_101 ⟨_, rfl, hQ⟩
    replace hK := ps_ifF c16 hK
    by_cases c19 : p2 = 5
    · replace hK := ps_ifT c19 hK
      refine pm_tabIn (tgt := 102) (off := 90) d_X8_writer_12 (by rw [c19]; decide) (by rw [c19]; decide) (by rw [c19]; rfl) (by decide) ?_
      refine pm_ald d_X8_writer_102 rfl ?_
      refine ps_getR (q := 26) d_X8_writer_103 at_0 f_0_0_6 rfl ?_
      refine ps_getR (q := (26 + 17)) d_X8_writer_106 ps_St26.at0 f_5_0_7 rfl ?_
      refine pm_ild d_X8_writer_109 rfl ?_
      obtain ⟨b21, hT⟩ := ps_gd hK
      replace hK := hT
      clear hT
      refine ps_iald d_X8_writer_110 (ps_St26.at 17 (by decide)) a_5_17 (ps_in_of b21) rfl ?_
      refine ps_topI (fun v20 ev20 => ?_)
      replace hK := ps_ltE ev20 hK
      have hQ := ps_so hK
      exact ps_iret rfl d_X8_writer_111 ⟨_, rfl, hQ⟩
    replace hK := ps_ifF c19 hK
    refine pm_tabOut (tgt := 112) d_X8_writer_12 (by decide) (ps_swout (lo := 0) (n := 6) (by decide) (by decide) (fun k hk => match k, hk with | 0, _ => c4 | 1, _ => c7 | 2, _ => c10 | 3, _ => c13 | 4, _ => c16 | 5, _ => c19 | k + 6, hk => absurd hk (by omega))) ?_
    refine pm_ki d_X8_writer_112 ?_
    have hQ := ps_so hK
    exact ps_iret rfl d_X8_writer_114 ⟨_, rfl, hQ⟩
  · replace hK := ps_ifT c3 hK
    refine pm_ki d_X8_writer_8 ?_
    have hQ := ps_so hK
    exact ps_iret rfl d_X8_writer_10 ⟨_, rfl, hQ⟩
def qX8_written_54  (y1 : Int32) (y2 : Int32) (y3 : Int32) : Nat → Int32 → ps_S → Option ((Int32 ⊕ (Int32)) × ps_S)
  | 0, _, _ => none
  | n + 1, x4, σ =>
    if 999 < x4 then
    some (.inr x4, σ)
    else
    ps_bd (qX0_run 44 1 σ) (fun _ σ13 =>
    if ps_in y1 4 = true then
    ps_let (σ13.1 (44 + 8) (y1).toNatClampNeg) fun v14 =>
    if v14 < y3 then
    ps_let (x4 + 1) fun v16 =>
    qX8_written_54 y1 y2 y3 n v16 σ13
    else
    some (.inl x4, σ13)
    else none)
set_option maxRecDepth 100000 in
theorem L_X8_written_54 {g : pm_G} (D : Nat) (hD : 6 ≤ D) {P : Int32 → ps_S → Prop}  (y1 : Int32) (y2 : Int32) (y3 : Int32) : ∀ (n : Nat) (x4 : Int32) (σ : ps_S), ps_ok (qX8_written_54 y1 y2 y3 n x4 σ) (fun res σ => match res with | .inl r => P r σ | .inr x4 => pm_W g mX8_written (ps_F g D (ps_qI P)) 0 0 99 [some (.ref (g.2.2.1 + 0)), some (.int y1), some (.int y2), some (.int y3), some (.int x4)] [] 345 (ps_E g σ)) → pm_W g mX8_written (ps_F g D (ps_qI P)) 0 0 54 [some (.ref (g.2.2.1 + 0)), some (.int y1), some (.int y2), some (.int y3), some (.int x4)] [] 345 (ps_E g σ) := by
  intro n
  induction n with
  | zero => intro x4 σ hK; exact (ps_no hK).elim
  | succ n ih =>
    intro x4 σ hK
    rw [qX8_written_54] at hK
    refine pm_ild d_X8_written_54 rfl ?_
    refine pm_ki d_X8_written_56 ?_
    refine pm_icmp_gt d_X8_written_59 (fun c11 => ?_) (fun c11 => ?_)
    · replace hK := ps_ifT c11 hK
      exact ps_so hK
    · replace hK := ps_ifF c11 hK
      refine pm_ald d_X8_written_62 rfl ?_
      refine ps_getR (q := 21) d_X8_written_63 at_0 f_0_0_5 rfl ?_
      refine pm_ald d_X8_written_66 rfl ?_
      refine ps_getR (q := 44) d_X8_written_67 at_0 f_0_0_7 rfl ?_
      refine pm_ki d_X8_written_70 ?_
      refine ps_cVV d_X8_written_71 mv_X0_run at_21 ob_4_0 rfl (As := [.ref (g.2.2.1 + 44), .int 1]) rfl rfl (ps_room.of (by omega) (by decide)) (Nat.le_of_ble_eq_true rfl) (C_X0_run 44 ps_St44 1 σ _ (ps_bdE hK)) ?_
      intro σ13 hT
      clear hK
      have hK := hT
      clear hT
      refine pm_ald d_X8_written_74 rfl ?_
      refine ps_getR (q := 44) d_X8_written_75 at_0 f_0_0_7 rfl ?_
      refine ps_getR (q := (44 + 1)) d_X8_written_78 ps_St44.at0 f_5_0_0 rfl ?_
      refine ps_getR (q := (44 + 8)) d_X8_written_81 (ps_St44.at 1 (by decide)) f_5_1_6 rfl ?_
      refine pm_ild d_X8_written_84 rfl ?_
      obtain ⟨b17, hT⟩ := ps_gd hK
      replace hK := hT
      clear hT
      refine ps_iald d_X8_written_85 (ps_St44.at 8 (by decide)) a_5_8 (ps_in_of b17) rfl ?_
      refine ps_topI (fun v14 ev14 => ?_)
      replace hK := ps_ltE ev14 hK
      refine pm_ild d_X8_written_86 rfl ?_
      refine pm_icmp_lt d_X8_written_87 (fun c15 => ?_) (fun c15 => ?_)
      · replace hK := ps_ifT c15 hK
        refine pm_inc4 d_X8_written_93 rfl ?_
        obtain ⟨v16, ev16⟩ : ∃ y : Int32, y = x4 + 1 := ⟨_, rfl⟩
        rw [← ev16]
        replace hK := ps_ltE ev16 hK
        refine pm_goto d_X8_written_96 ?_
        exact ih _ _ hK
      · replace hK := ps_ifF c15 hK
        refine pm_ild d_X8_written_90 rfl ?_
        have hQ := ps_so hK
        exact ps_iret rfl d_X8_written_92 ⟨_, rfl, hQ⟩
def qX8_written (p1 : Int32) (p2 : Int32) (σ : ps_S) : Option (Int32 × ps_S) :=
  ps_bd (qX8_isDevice p1 σ) (fun v1 σ2 =>
  if v1 = 0 then
  some ((-2), σ2)
  else
  ps_bd (qX8_isWithin p2 1 9999 σ2) (fun v4 σ5 =>
  if v4 = 0 then
  some ((-3), σ5)
  else
  ps_bd (qX6_copyFrom 44 26 σ5) (fun _ σ8 =>
  if ps_in p1 4 = true then
  ps_let (σ8.1 (26 + 8) (p1).toNatClampNeg) fun v9 =>
  ps_let ((v9 + p2)) fun v10 =>
  ps_bd (qX8_written_54 p1 p2 v10 ps_N 1 σ8) (fun res σ18 => match res with
  | .inl r => some (r, σ18)
  | .inr v19 =>
    some ((-1), σ18))
  else none)))
set_option maxRecDepth 100000 in
theorem C_X8_written {g : pm_G} (p1 : Int32) (p2 : Int32) (σ : ps_S) (P : Int32 → ps_S → Prop) (hK : ps_ok (qX8_written p1 p2 σ) P) : ps_C g mX8_written 6 [.ref (g.2.2.1 + 0), .int p1, .int p2] σ (ps_qI P) := by
  unfold qX8_written at hK
  refine ps_C.of (ls := [some (.ref (g.2.2.1 + 0)), some (.int p1), some (.int p2), none, none]) 2 (by decide) rfl (Nat.le_of_ble_eq_true rfl) rfl ?_
  refine pm_ald d_X8_written_0 rfl ?_
  refine pm_ild d_X8_written_1 rfl ?_
  refine ps_cVI d_X8_written_2 mv_X8_isDevice at_0 ob_0_0 rfl (As := [.int p1]) rfl rfl (ps_room.of (by omega) (by decide)) (Nat.le_of_ble_eq_true rfl) (C_X8_isDevice p1 σ _ (ps_bdE hK)) ?_
  intro v1 σ2 hT
  clear hK
  have hK := hT
  clear hT
  refine pm_if_ne d_X8_written_5 (fun c3 => ?_) (fun c3 => ?_)
  · replace hK := ps_ifF c3 hK
    refine pm_ild d_X8_written_11 rfl ?_
    refine pm_ki d_X8_written_12 ?_
    refine pm_ki d_X8_written_13 ?_
    refine ps_cSI d_X8_written_16 ms_X8_isWithin (As := [.int p2, .int 1, .int 9999]) rfl rfl (ps_room.of (by omega) (by decide)) (Nat.le_of_ble_eq_true rfl) (C_X8_isWithin p2 1 9999 σ2 _ (ps_bdE hK)) ?_
    intro v4 σ5 hT
    clear hK
    have hK := hT
    clear hT
    refine pm_if_ne d_X8_written_19 (fun c6 => ?_) (fun c6 => ?_)
    · replace hK := ps_ifF c6 hK
      refine pm_ald d_X8_written_25 rfl ?_
      refine ps_getR (q := 44) d_X8_written_26 at_0 f_0_0_7 rfl ?_
      refine pm_ald d_X8_written_29 rfl ?_
      refine ps_getR (q := 26) d_X8_written_30 at_0 f_0_0_6 rfl ?_
      refine ps_cVV d_X8_written_33 mv_X6_copyFrom ps_St44.at0 ob_5_0 rfl (As := [.ref (g.2.2.1 + 26)]) rfl rfl (ps_room.of (by omega) (by decide)) (Nat.le_of_ble_eq_true rfl) (C_X6_copyFrom 44 ps_St44 26 ps_St26 σ5 _ (ps_bdE hK)) ?_
      intro σ8 hT
      clear hK
      have hK := hT
      clear hT
      refine pm_ald d_X8_written_36 rfl ?_
      refine ps_getR (q := 26) d_X8_written_37 at_0 f_0_0_6 rfl ?_
      refine ps_getR (q := (26 + 1)) d_X8_written_40 ps_St26.at0 f_5_0_0 rfl ?_
      refine ps_getR (q := (26 + 8)) d_X8_written_43 (ps_St26.at 1 (by decide)) f_5_1_6 rfl ?_
      refine pm_ild d_X8_written_46 rfl ?_
      obtain ⟨b20, hT⟩ := ps_gd hK
      replace hK := hT
      clear hT
      refine ps_iald d_X8_written_47 (ps_St26.at 8 (by decide)) a_5_8 (ps_in_of b20) rfl ?_
      refine ps_topI (fun v9 ev9 => ?_)
      replace hK := ps_ltE ev9 hK
      refine pm_ild d_X8_written_48 rfl ?_
      refine pm_iadd d_X8_written_49 ?_
      refine ps_topI (fun v10 ev10 => ?_)
      replace hK := ps_ltE ev10 hK
      refine pm_ist3 d_X8_written_50 rfl (by decide) ?_
      refine pm_ki d_X8_written_51 ?_
      refine pm_ist4 d_X8_written_52 rfl (by decide) ?_
      refine L_X8_written_54 _ (by decide) p1 p2 v10 _ _ _ (ps_ok.mono (ps_bdE hK) ?_)
      intro res σ18 hT
      clear hK
      match res, hT with
      | .inl r, hT => exact ps_so hT
      | .inr v19, hT =>
        have hK := hT
        clear hT
        refine pm_ki d_X8_written_99 ?_
        have hQ := ps_so hK
        exact ps_iret rfl d_X8_written_100 ⟨_, rfl, hQ⟩
    · replace hK := ps_ifT c6 hK
      refine pm_ki d_X8_written_22 ?_
      have hQ := ps_so hK
      exact ps_iret rfl d_X8_written_24 ⟨_, rfl, hQ⟩
  · replace hK := ps_ifT c3 hK
    refine pm_ki d_X8_written_8 ?_
    have hQ := ps_so hK
    exact ps_iret rfl d_X8_written_10 ⟨_, rfl, hQ⟩
def qX9_begins_2  : Nat → Int32 → ps_S → Option (((Int32)) × ps_S)
  | 0, _, _ => none
  | n + 1, x1, σ =>
    if 83 ≤ x1 then
    some (x1, σ)
    else
    if ps_in ((35 + x1)) 5550 = true then
    ps_let (σ.1 328 ((35 + x1)).toNatClampNeg) fun v2 =>
    if ps_in x1 83 = true then
    ps_let (ps_rI σ 335 (upd (σ.1 335) (x1).toNatClampNeg v2)) fun σ3 =>
    ps_let (x1 + 1) fun v4 =>
    qX9_begins_2 n v4 σ3
    else none
    else none
set_option maxRecDepth 100000 in
theorem L_X9_begins_2 {g : pm_G} (D : Nat) (hD : 1 ≤ D) {P : Unit → ps_S → Prop}  : ∀ (n : Nat) (x1 : Int32) (σ : ps_S), ps_ok (qX9_begins_2 n x1 σ) (fun res σ => match res with | x1 => pm_W g mX9_begins (ps_F g D (ps_qV P)) 0 0 29 [some (.ref (g.2.2.1 + 327)), some (.int x1)] [] 345 (ps_E g σ)) → pm_W g mX9_begins (ps_F g D (ps_qV P)) 0 0 2 [some (.ref (g.2.2.1 + 327)), some (.int x1)] [] 345 (ps_E g σ) := by
  intro n
  induction n with
  | zero => intro x1 σ hK; exact (ps_no hK).elim
  | succ n ih =>
    intro x1 σ hK
    rw [qX9_begins_2] at hK
    refine pm_ild d_X9_begins_2 rfl ?_
    refine pm_ki d_X9_begins_3 ?_
    refine pm_icmp_ge d_X9_begins_5 (fun c1 => ?_) (fun c1 => ?_)
    · replace hK := ps_ifT c1 hK
      exact ps_so hK
    · replace hK := ps_ifF c1 hK
      refine pm_ald d_X9_begins_8 rfl ?_
      refine ps_getR (q := 335) d_X9_begins_9 at_327 f_8_0_19 rfl ?_
      refine pm_ild d_X9_begins_12 rfl ?_
      refine pm_ald d_X9_begins_13 rfl ?_
      refine ps_getR (q := 328) d_X9_begins_14 at_327 f_8_0_1 rfl ?_
      refine pm_ki d_X9_begins_17 ?_
      refine pm_ild d_X9_begins_19 rfl ?_
      refine pm_iadd d_X9_begins_20 ?_
      obtain ⟨b6, hT⟩ := ps_gd hK
      replace hK := hT
      clear hT
      refine ps_iald d_X9_begins_21 at_328 a_8_1 (ps_in_of b6) rfl ?_
      refine ps_topI (fun v2 ev2 => ?_)
      replace hK := ps_ltE ev2 hK
      obtain ⟨b5, hT⟩ := ps_gd hK
      replace hK := hT
      clear hT
      refine ps_iast d_X9_begins_22 at_335 a_8_8 (ps_in_of b5) ?_
      refine ps_nmS (fun σ3 eσ3 => ?_)
      replace hK := ps_ltE eσ3 hK
      refine pm_inc1 d_X9_begins_23 rfl ?_
      obtain ⟨v4, ev4⟩ : ∃ y : Int32, y = x1 + 1 := ⟨_, rfl⟩
      rw [← ev4]
      replace hK := ps_ltE ev4 hK
      refine pm_goto d_X9_begins_26 ?_
      exact ih _ _ hK
def qX9_begins_31  : Nat → Int32 → ps_S → Option (((Int32)) × ps_S)
  | 0, _, _ => none
  | n + 1, x1, σ =>
    if 4 ≤ x1 then
    some (x1, σ)
    else
    if ps_in x1 132 = true then
    ps_let (σ.2.2 329 (x1).toNatClampNeg) fun v10 =>
    if ps_in x1 4 = true then
    ps_let (ps_rD σ 336 (vf_upd (σ.2.2 336) (x1).toNatClampNeg v10)) fun σ11 =>
    ps_let (x1 + 1) fun v12 =>
    qX9_begins_31 n v12 σ11
    else none
    else none
set_option maxRecDepth 100000 in
theorem L_X9_begins_31 {g : pm_G} (D : Nat) (hD : 1 ≤ D) {P : Unit → ps_S → Prop}  : ∀ (n : Nat) (x1 : Int32) (σ : ps_S), ps_ok (qX9_begins_31 n x1 σ) (fun res σ => match res with | x1 => pm_W g mX9_begins (ps_F g D (ps_qV P)) 0 0 54 [some (.ref (g.2.2.1 + 327)), some (.int x1)] [] 345 (ps_E g σ)) → pm_W g mX9_begins (ps_F g D (ps_qV P)) 0 0 31 [some (.ref (g.2.2.1 + 327)), some (.int x1)] [] 345 (ps_E g σ) := by
  intro n
  induction n with
  | zero => intro x1 σ hK; exact (ps_no hK).elim
  | succ n ih =>
    intro x1 σ hK
    rw [qX9_begins_31] at hK
    refine pm_ild d_X9_begins_31 rfl ?_
    refine pm_ki d_X9_begins_32 ?_
    refine pm_icmp_ge d_X9_begins_33 (fun c9 => ?_) (fun c9 => ?_)
    · replace hK := ps_ifT c9 hK
      exact ps_so hK
    · replace hK := ps_ifF c9 hK
      refine pm_ald d_X9_begins_36 rfl ?_
      refine ps_getR (q := 336) d_X9_begins_37 at_327 f_8_0_20 rfl ?_
      refine pm_ild d_X9_begins_40 rfl ?_
      refine pm_ald d_X9_begins_41 rfl ?_
      refine ps_getR (q := 329) d_X9_begins_42 at_327 f_8_0_2 rfl ?_
      refine pm_ild d_X9_begins_45 rfl ?_
      obtain ⟨b14, hT⟩ := ps_gd hK
      replace hK := hT
      clear hT
      refine ps_dald d_X9_begins_46 at_329 a_8_2 (ps_in_of b14) rfl ?_
      refine ps_topD (fun v10 ev10 => ?_)
      replace hK := ps_ltE ev10 hK
      obtain ⟨b13, hT⟩ := ps_gd hK
      replace hK := hT
      clear hT
      refine ps_dast d_X9_begins_47 at_336 a_8_9 (ps_in_of b13) ?_
      refine ps_nmS (fun σ11 eσ11 => ?_)
      replace hK := ps_ltE eσ11 hK
      refine pm_inc1 d_X9_begins_48 rfl ?_
      obtain ⟨v12, ev12⟩ : ∃ y : Int32, y = x1 + 1 := ⟨_, rfl⟩
      rw [← ev12]
      replace hK := ps_ltE ev12 hK
      refine pm_goto d_X9_begins_51 ?_
      exact ih _ _ hK
def qX9_begins  (σ : ps_S) : Option (Unit × ps_S) :=
  ps_bd (qX9_begins_2 ps_N 0 σ) (fun res σ7 => match res with
  | v8 =>
    ps_bd (qX9_begins_31 ps_N 0 σ7) (fun res σ15 => match res with
    | v16 =>
      ps_let (σ15.1 328 10) fun v17 =>
      ps_let (ps_rI σ15 327 (upd (σ15.1 327) 21 v17)) fun σ18 =>
      ps_let (ps_rI σ18 327 (upd (σ18.1 327) 22 ((-1)))) fun σ19 =>
      ps_let (ps_rI σ19 327 (upd (σ19.1 327) 23 ((-1)))) fun σ20 =>
      ps_let (ps_rI σ20 327 (upd (σ20.1 327) 25 1)) fun σ21 =>
      some ((), σ21)))
set_option maxRecDepth 100000 in
theorem C_X9_begins {g : pm_G}  (σ : ps_S) (P : Unit → ps_S → Prop) (hK : ps_ok (qX9_begins  σ) P) : ps_C g mX9_begins 1 [.ref (g.2.2.1 + 327)] σ (ps_qV P) := by
  unfold qX9_begins at hK
  refine ps_C.of (ls := [some (.ref (g.2.2.1 + 327)), none]) 1 (by decide) rfl (Nat.le_of_ble_eq_true rfl) rfl ?_
  refine pm_ki d_X9_begins_0 ?_
  refine pm_ist1 d_X9_begins_1 rfl (by decide) ?_
  refine L_X9_begins_2 _ (by decide) _ _ _ (ps_ok.mono (ps_bdE hK) ?_)
  rintro v8 σ7 hT
  clear hK
  have hK := hT
  clear hT
  refine pm_ki d_X9_begins_29 ?_
  refine pm_ist1 d_X9_begins_30 rfl (by decide) ?_
  refine L_X9_begins_31 _ (by decide) _ _ _ (ps_ok.mono (ps_bdE hK) ?_)
  rintro v16 σ15 hT
  clear hK
  have hK := hT
  clear hT
  refine pm_ald d_X9_begins_54 rfl ?_
  refine pm_ald d_X9_begins_55 rfl ?_
  refine ps_getR (q := 328) d_X9_begins_56 at_327 f_8_0_1 rfl ?_
  refine pm_ki d_X9_begins_59 ?_
  refine ps_iald (x := σ15.1 328 10) d_X9_begins_61 at_328 a_8_1 (ps_in_of rfl) rfl ?_
  refine ps_topI (fun v17 ev17 => ?_)
  replace hK := ps_ltE ev17 hK
  refine ps_putI d_X9_begins_62 at_327 f_8_0_21 rfl rfl ?_
  refine ps_nmS (fun σ18 eσ18 => ?_)
  replace hK := ps_ltE eσ18 hK
  refine pm_ald d_X9_begins_65 rfl ?_
  refine pm_ki d_X9_begins_66 ?_
  refine ps_putI d_X9_begins_67 at_327 f_8_0_22 rfl rfl ?_
  refine ps_nmS (fun σ19 eσ19 => ?_)
  replace hK := ps_ltE eσ19 hK
  refine pm_ald d_X9_begins_70 rfl ?_
  refine pm_ki d_X9_begins_71 ?_
  refine ps_putI d_X9_begins_72 at_327 f_8_0_23 rfl rfl ?_
  refine ps_nmS (fun σ20 eσ20 => ?_)
  replace hK := ps_ltE eσ20 hK
  refine pm_ald d_X9_begins_75 rfl ?_
  refine pm_ki d_X9_begins_76 ?_
  refine ps_putI d_X9_begins_77 at_327 f_8_0_25 rfl rfl ?_
  refine ps_nmS (fun σ21 eσ21 => ?_)
  replace hK := ps_ltE eσ21 hK
  have hQ := ps_so hK
  exact ps_vret rfl d_X9_begins_80 ⟨rfl, hQ⟩
def qX9_within (p1 : Int64) (p2 : Int64) (p3 : Int64) (σ : ps_S) : Option (Int32 × ps_S) :=
  if ((lg_cmp p1 p2)) < 0 then
  some (0, σ)
  else
  if 0 < ((lg_cmp p1 p3)) then
  some (0, σ)
  else
  some (1, σ)
set_option maxRecDepth 100000 in
theorem C_X9_within {g : pm_G} (p1 : Int64) (p2 : Int64) (p3 : Int64) (σ : ps_S) (P : Int32 → ps_S → Prop) (hK : ps_ok (qX9_within p1 p2 p3 σ) P) : ps_C g mX9_within 1 [.long p1, .long p2, .long p3] σ (ps_qI P) := by
  unfold qX9_within at hK
  refine ps_C.of (ls := [some (.long p1), none, some (.long p2), none, some (.long p3), none]) 0 (by decide) rfl (Nat.le_of_ble_eq_true rfl) rfl ?_
  refine pm_lld d_X9_within_0 rfl ?_
  refine pm_lld d_X9_within_1 rfl ?_
  refine pm_lcmp d_X9_within_2 ?_
  refine pm_if_lt d_X9_within_3 (fun c1 => ?_) (fun c1 => ?_)
  · replace hK := ps_ifT c1 hK
    refine pm_ki d_X9_within_17 ?_
    have hQ := ps_so hK
    exact ps_zret rfl rfl d_X9_within_18 ⟨_, rfl, hQ⟩
  · replace hK := ps_ifF c1 hK
    refine pm_lld d_X9_within_6 rfl ?_
    refine pm_lld d_X9_within_7 rfl ?_
    refine pm_lcmp d_X9_within_9 ?_
    refine pm_if_gt d_X9_within_10 (fun c2 => ?_) (fun c2 => ?_)
    · replace hK := ps_ifT c2 hK
      refine pm_ki d_X9_within_17 ?_
      have hQ := ps_so hK
      exact ps_zret rfl rfl d_X9_within_18 ⟨_, rfl, hQ⟩
    · replace hK := ps_ifF c2 hK
      refine pm_ki d_X9_within_13 ?_
      refine pm_goto d_X9_within_14 ?_
      have hQ := ps_so hK
      exact ps_zret rfl rfl d_X9_within_18 ⟨_, rfl, hQ⟩
def qX9_isWriter (p1 : Int64) (σ : ps_S) : Option (Int32 × ps_S) :=
  ps_let (σ.1 328 3) fun v1 =>
  ps_bd (qX9_within p1 0 ((((v1 - 1)).toInt64)) σ) (fun v2 σ3 =>
  if ps_b01 v2 = true then some (v2, σ3) else none)
set_option maxRecDepth 100000 in
theorem C_X9_isWriter {g : pm_G} (p1 : Int64) (σ : ps_S) (P : Int32 → ps_S → Prop) (hK : ps_ok (qX9_isWriter p1 σ) P) : ps_C g mX9_isWriter 2 [.ref (g.2.2.1 + 327), .long p1] σ (ps_qI P) := by
  unfold qX9_isWriter at hK
  refine ps_C.of (ls := [some (.ref (g.2.2.1 + 327)), some (.long p1), none]) 0 (by decide) rfl (Nat.le_of_ble_eq_true rfl) rfl ?_
  refine pm_lld d_X9_isWriter_0 rfl ?_
  refine pm_kl d_X9_isWriter_1 ?_
  refine pm_ald d_X9_isWriter_2 rfl ?_
  refine ps_getR (q := 328) d_X9_isWriter_3 at_327 f_8_0_1 rfl ?_
  refine pm_ki d_X9_isWriter_6 ?_
  refine ps_iald (x := σ.1 328 3) d_X9_isWriter_7 at_328 a_8_1 (ps_in_of rfl) rfl ?_
  refine ps_topI (fun v1 ev1 => ?_)
  replace hK := ps_ltE ev1 hK
  refine pm_ki d_X9_isWriter_8 ?_
  refine pm_isub d_X9_isWriter_9 ?_
  refine pm_i2l d_X9_isWriter_10 ?_
  refine ps_cSI d_X9_isWriter_11 ms_X9_within (As := [.long p1, .long 0, .long (((v1 - 1)).toInt64)]) rfl rfl (ps_room.of (by omega) (by decide)) (Nat.le_of_ble_eq_true rfl) (C_X9_within p1 0 ((((v1 - 1)).toInt64)) σ _ (ps_bdE hK)) ?_
  intro v2 σ3 hT
  clear hK
  have hK := hT
  clear hT
  obtain ⟨b4, hT⟩ := ps_gd hK
  have hQ := ps_so hT
  exact ps_zret rfl (ps_nb b4) d_X9_isWriter_14 ⟨_, rfl, hQ⟩
def qX9_estimates (p1 : Int32) (σ : ps_S) : Option (Unit × ps_S) :=
  if ps_in ((49 + p1)) 83 = true then
  ps_let (σ.1 335 ((49 + p1)).toNatClampNeg) fun v1 =>
  if ps_in ((49 + p1)) 83 = true then
  ps_let (ps_rI σ 335 (upd (σ.1 335) ((49 + p1)).toNatClampNeg 0)) fun σ2 =>
  if ps_in ((37 + p1)) 83 = true then
  ps_let (σ2.1 335 ((37 + p1)).toNatClampNeg) fun v3 =>
  if ps_in ((37 + p1)) 83 = true then
  ps_let (ps_rI σ2 335 (upd (σ2.1 335) ((37 + p1)).toNatClampNeg ((((v3 / 2)) + v1)))) fun σ4 =>
  if 0 < v1 then
  if ps_in p1 4 = true then
  ps_let (σ4.2.2 336 (p1).toNatClampNeg) fun v6 =>
  if ps_nn (FP.dmul ((FP.i2d (v1))) 4636737291354636288) = true then
  ps_let (FP.dmul ((FP.i2d (v1))) 4636737291354636288) fun v7 =>
  ps_let (σ4.1 328 14) fun v9 =>
  if ps_nn (FP.ddiv v7 ((FP.i2d (v9)))) = true then
  ps_let (FP.ddiv v7 ((FP.i2d (v9)))) fun v10 =>
  if ps_in p1 4 = true then
  ps_let (σ4.2.2 336 (p1).toNatClampNeg) fun v12 =>
  if ps_nn (FP.dsub v10 v12) = true then
  ps_let (FP.dsub v10 v12) fun v13 =>
  if ps_nn (FP.ddiv v13 4620693217682128896) = true then
  ps_let (FP.ddiv v13 4620693217682128896) fun v15 =>
  if ps_nn (FP.dadd v6 v15) = true then
  ps_let (FP.dadd v6 v15) fun v17 =>
  if ps_in p1 4 = true then
  ps_let (ps_rD σ4 336 (vf_upd (σ4.2.2 336) (p1).toNatClampNeg v17)) fun σ19 =>
  some ((), σ19)
  else none
  else none
  else none
  else none
  else none
  else none
  else none
  else none
  else
  if ps_in ((29 + p1)) 83 = true then
  ps_let (σ4.1 335 ((29 + p1)).toNatClampNeg) fun v23 =>
  if v23 ≤ 0 then
  some ((), σ4)
  else
  if ps_in p1 4 = true then
  ps_let (σ4.2.2 336 (p1).toNatClampNeg) fun v25 =>
  if ps_nn (FP.dmul ((FP.i2d (v1))) 4636737291354636288) = true then
  ps_let (FP.dmul ((FP.i2d (v1))) 4636737291354636288) fun v26 =>
  ps_let (σ4.1 328 14) fun v28 =>
  if ps_nn (FP.ddiv v26 ((FP.i2d (v28)))) = true then
  ps_let (FP.ddiv v26 ((FP.i2d (v28)))) fun v29 =>
  if ps_in p1 4 = true then
  ps_let (σ4.2.2 336 (p1).toNatClampNeg) fun v31 =>
  if ps_nn (FP.dsub v29 v31) = true then
  ps_let (FP.dsub v29 v31) fun v32 =>
  if ps_nn (FP.ddiv v32 4620693217682128896) = true then
  ps_let (FP.ddiv v32 4620693217682128896) fun v34 =>
  if ps_nn (FP.dadd v25 v34) = true then
  ps_let (FP.dadd v25 v34) fun v36 =>
  if ps_in p1 4 = true then
  ps_let (ps_rD σ4 336 (vf_upd (σ4.2.2 336) (p1).toNatClampNeg v36)) fun σ38 =>
  some ((), σ38)
  else none
  else none
  else none
  else none
  else none
  else none
  else none
  else none
  else none
  else none
  else none
  else none
  else none
set_option maxRecDepth 100000 in
theorem C_X9_estimates {g : pm_G} (p1 : Int32) (σ : ps_S) (P : Unit → ps_S → Prop) (hK : ps_ok (qX9_estimates p1 σ) P) : ps_C g mX9_estimates 1 [.ref (g.2.2.1 + 327), .int p1] σ (ps_qV P) := by
  unfold qX9_estimates at hK
  refine ps_C.of (ls := [some (.ref (g.2.2.1 + 327)), some (.int p1), none]) 1 (by decide) rfl (Nat.le_of_ble_eq_true rfl) rfl ?_
  refine pm_ald d_X9_estimates_0 rfl ?_
  refine ps_getR (q := 335) d_X9_estimates_1 at_327 f_8_0_19 rfl ?_
  refine pm_ki d_X9_estimates_4 ?_
  refine pm_ild d_X9_estimates_6 rfl ?_
  refine pm_iadd d_X9_estimates_7 ?_
  obtain ⟨b46, hT⟩ := ps_gd hK
  replace hK := hT
  clear hT
  refine ps_iald d_X9_estimates_8 at_335 a_8_8 (ps_in_of b46) rfl ?_
  refine ps_topI (fun v1 ev1 => ?_)
  replace hK := ps_ltE ev1 hK
  refine pm_ist2 d_X9_estimates_9 rfl (by decide) ?_
  refine pm_ald d_X9_estimates_10 rfl ?_
  refine ps_getR (q := 335) d_X9_estimates_11 at_327 f_8_0_19 rfl ?_
  refine pm_ki d_X9_estimates_14 ?_
  refine pm_ild d_X9_estimates_16 rfl ?_
  refine pm_iadd d_X9_estimates_17 ?_
  refine pm_ki d_X9_estimates_18 ?_
  obtain ⟨b45, hT⟩ := ps_gd hK
  replace hK := hT
  clear hT
  refine ps_iast d_X9_estimates_19 at_335 a_8_8 (ps_in_of b45) ?_
  refine ps_nmS (fun σ2 eσ2 => ?_)
  replace hK := ps_ltE eσ2 hK
  refine pm_ald d_X9_estimates_20 rfl ?_
  refine ps_getR (q := 335) d_X9_estimates_21 at_327 f_8_0_19 rfl ?_
  refine pm_ki d_X9_estimates_24 ?_
  refine pm_ild d_X9_estimates_26 rfl ?_
  refine pm_iadd d_X9_estimates_27 ?_
  refine pm_ald d_X9_estimates_28 rfl ?_
  refine ps_getR (q := 335) d_X9_estimates_29 at_327 f_8_0_19 rfl ?_
  refine pm_ki d_X9_estimates_32 ?_
  refine pm_ild d_X9_estimates_34 rfl ?_
  refine pm_iadd d_X9_estimates_35 ?_
  obtain ⟨b44, hT⟩ := ps_gd hK
  replace hK := hT
  clear hT
  refine ps_iald d_X9_estimates_36 at_335 a_8_8 (ps_in_of b44) rfl ?_
  refine ps_topI (fun v3 ev3 => ?_)
  replace hK := ps_ltE ev3 hK
  refine pm_ki d_X9_estimates_37 ?_
  refine pm_idiv d_X9_estimates_38 (by decide) ?_
  refine pm_ild d_X9_estimates_39 rfl ?_
  refine pm_iadd d_X9_estimates_40 ?_
  obtain ⟨b43, hT⟩ := ps_gd hK
  replace hK := hT
  clear hT
  refine ps_iast d_X9_estimates_41 at_335 a_8_8 (ps_in_of b43) ?_
  refine ps_nmS (fun σ4 eσ4 => ?_)
  replace hK := ps_ltE eσ4 hK
  refine pm_ild d_X9_estimates_42 rfl ?_
  refine pm_if_gt d_X9_estimates_43 (fun c5 => ?_) (fun c5 => ?_)
  · replace hK := ps_ifT c5 hK
    refine pm_ald d_X9_estimates_58 rfl ?_
    refine ps_getR (q := 336) d_X9_estimates_59 at_327 f_8_0_20 rfl ?_
    refine pm_ild d_X9_estimates_62 rfl ?_
    refine pm_ald d_X9_estimates_63 rfl ?_
    refine ps_getR (q := 336) d_X9_estimates_64 at_327 f_8_0_20 rfl ?_
    refine pm_ild d_X9_estimates_67 rfl ?_
    obtain ⟨b22, hT⟩ := ps_gd hK
    replace hK := hT
    clear hT
    refine ps_dald d_X9_estimates_68 at_336 a_8_9 (ps_in_of b22) rfl ?_
    refine ps_topD (fun v6 ev6 => ?_)
    replace hK := ps_ltE ev6 hK
    refine pm_ild d_X9_estimates_69 rfl ?_
    refine pm_i2d d_X9_estimates_70 ?_
    refine pm_kd d_X9_estimates_71 ?_
    obtain ⟨b8, hT⟩ := ps_gd hK
    replace hK := hT
    clear hT
    refine pm_dmul d_X9_estimates_74 (ps_nn_of b8) ?_
    refine ps_topD (fun v7 ev7 => ?_)
    replace hK := ps_ltE ev7 hK
    refine pm_ald d_X9_estimates_75 rfl ?_
    refine ps_getR (q := 328) d_X9_estimates_76 at_327 f_8_0_1 rfl ?_
    refine pm_ki d_X9_estimates_79 ?_
    refine ps_iald (x := σ4.1 328 14) d_X9_estimates_81 at_328 a_8_1 (ps_in_of rfl) rfl ?_
    refine ps_topI (fun v9 ev9 => ?_)
    replace hK := ps_ltE ev9 hK
    refine pm_i2d d_X9_estimates_82 ?_
    obtain ⟨b11, hT⟩ := ps_gd hK
    replace hK := hT
    clear hT
    refine pm_ddiv d_X9_estimates_83 (ps_nn_of b11) ?_
    refine ps_topD (fun v10 ev10 => ?_)
    replace hK := ps_ltE ev10 hK
    refine pm_ald d_X9_estimates_84 rfl ?_
    refine ps_getR (q := 336) d_X9_estimates_85 at_327 f_8_0_20 rfl ?_
    refine pm_ild d_X9_estimates_88 rfl ?_
    obtain ⟨b21, hT⟩ := ps_gd hK
    replace hK := hT
    clear hT
    refine ps_dald d_X9_estimates_89 at_336 a_8_9 (ps_in_of b21) rfl ?_
    refine ps_topD (fun v12 ev12 => ?_)
    replace hK := ps_ltE ev12 hK
    obtain ⟨b14, hT⟩ := ps_gd hK
    replace hK := hT
    clear hT
    refine pm_dsub d_X9_estimates_90 (ps_nn_of b14) ?_
    refine ps_topD (fun v13 ev13 => ?_)
    replace hK := ps_ltE ev13 hK
    refine pm_kd d_X9_estimates_91 ?_
    obtain ⟨b16, hT⟩ := ps_gd hK
    replace hK := hT
    clear hT
    refine pm_ddiv d_X9_estimates_94 (ps_nn_of b16) ?_
    refine ps_topD (fun v15 ev15 => ?_)
    replace hK := ps_ltE ev15 hK
    obtain ⟨b18, hT⟩ := ps_gd hK
    replace hK := hT
    clear hT
    refine pm_dadd d_X9_estimates_95 (ps_nn_of b18) ?_
    refine ps_topD (fun v17 ev17 => ?_)
    replace hK := ps_ltE ev17 hK
    obtain ⟨b20, hT⟩ := ps_gd hK
    replace hK := hT
    clear hT
    refine ps_dast d_X9_estimates_96 at_336 a_8_9 (ps_in_of b20) ?_
    refine ps_nmS (fun σ19 eσ19 => ?_)
    replace hK := ps_ltE eσ19 hK
    have hQ := ps_so hK
    exact ps_vret rfl d_X9_estimates_97 ⟨rfl, hQ⟩
  · replace hK := ps_ifF c5 hK
    refine pm_ald d_X9_estimates_46 rfl ?_
    refine ps_getR (q := 335) d_X9_estimates_47 at_327 f_8_0_19 rfl ?_
    refine pm_ki d_X9_estimates_50 ?_
    refine pm_ild d_X9_estimates_52 rfl ?_
    refine pm_iadd d_X9_estimates_53 ?_
    obtain ⟨b42, hT⟩ := ps_gd hK
    replace hK := hT
    clear hT
    refine ps_iald d_X9_estimates_54 at_335 a_8_8 (ps_in_of b42) rfl ?_
    refine ps_topI (fun v23 ev23 => ?_)
    replace hK := ps_ltE ev23 hK
    refine pm_if_le d_X9_estimates_55 (fun c24 => ?_) (fun c24 => ?_)
    · replace hK := ps_ifT c24 hK
      have hQ := ps_so hK
      exact ps_vret rfl d_X9_estimates_97 ⟨rfl, hQ⟩
    · replace hK := ps_ifF c24 hK
      refine pm_ald d_X9_estimates_58 rfl ?_
      refine ps_getR (q := 336) d_X9_estimates_59 at_327 f_8_0_20 rfl ?_
      refine pm_ild d_X9_estimates_62 rfl ?_
      refine pm_ald d_X9_estimates_63 rfl ?_
      refine ps_getR (q := 336) d_X9_estimates_64 at_327 f_8_0_20 rfl ?_
      refine pm_ild d_X9_estimates_67 rfl ?_
      obtain ⟨b41, hT⟩ := ps_gd hK
      replace hK := hT
      clear hT
      refine ps_dald d_X9_estimates_68 at_336 a_8_9 (ps_in_of b41) rfl ?_
      refine ps_topD (fun v25 ev25 => ?_)
      replace hK := ps_ltE ev25 hK
      refine pm_ild d_X9_estimates_69 rfl ?_
      refine pm_i2d d_X9_estimates_70 ?_
      refine pm_kd d_X9_estimates_71 ?_
      obtain ⟨b27, hT⟩ := ps_gd hK
      replace hK := hT
      clear hT
      refine pm_dmul d_X9_estimates_74 (ps_nn_of b27) ?_
      refine ps_topD (fun v26 ev26 => ?_)
      replace hK := ps_ltE ev26 hK
      refine pm_ald d_X9_estimates_75 rfl ?_
      refine ps_getR (q := 328) d_X9_estimates_76 at_327 f_8_0_1 rfl ?_
      refine pm_ki d_X9_estimates_79 ?_
      refine ps_iald (x := σ4.1 328 14) d_X9_estimates_81 at_328 a_8_1 (ps_in_of rfl) rfl ?_
      refine ps_topI (fun v28 ev28 => ?_)
      replace hK := ps_ltE ev28 hK
      refine pm_i2d d_X9_estimates_82 ?_
      obtain ⟨b30, hT⟩ := ps_gd hK
      replace hK := hT
      clear hT
      refine pm_ddiv d_X9_estimates_83 (ps_nn_of b30) ?_
      refine ps_topD (fun v29 ev29 => ?_)
      replace hK := ps_ltE ev29 hK
      refine pm_ald d_X9_estimates_84 rfl ?_
      refine ps_getR (q := 336) d_X9_estimates_85 at_327 f_8_0_20 rfl ?_
      refine pm_ild d_X9_estimates_88 rfl ?_
      obtain ⟨b40, hT⟩ := ps_gd hK
      replace hK := hT
      clear hT
      refine ps_dald d_X9_estimates_89 at_336 a_8_9 (ps_in_of b40) rfl ?_
      refine ps_topD (fun v31 ev31 => ?_)
      replace hK := ps_ltE ev31 hK
      obtain ⟨b33, hT⟩ := ps_gd hK
      replace hK := hT
      clear hT
      refine pm_dsub d_X9_estimates_90 (ps_nn_of b33) ?_
      refine ps_topD (fun v32 ev32 => ?_)
      replace hK := ps_ltE ev32 hK
      refine pm_kd d_X9_estimates_91 ?_
      obtain ⟨b35, hT⟩ := ps_gd hK
      replace hK := hT
      clear hT
      refine pm_ddiv d_X9_estimates_94 (ps_nn_of b35) ?_
      refine ps_topD (fun v34 ev34 => ?_)
      replace hK := ps_ltE ev34 hK
      obtain ⟨b37, hT⟩ := ps_gd hK
      replace hK := hT
      clear hT
      refine pm_dadd d_X9_estimates_95 (ps_nn_of b37) ?_
      refine ps_topD (fun v36 ev36 => ?_)
      replace hK := ps_ltE ev36 hK
      obtain ⟨b39, hT⟩ := ps_gd hK
      replace hK := hT
      clear hT
      refine ps_dast d_X9_estimates_96 at_336 a_8_9 (ps_in_of b39) ?_
      refine ps_nmS (fun σ38 eσ38 => ?_)
      replace hK := ps_ltE eσ38 hK
      have hQ := ps_so hK
      exact ps_vret rfl d_X9_estimates_97 ⟨rfl, hQ⟩
def qX9_sumOf_5  (y1 : Int32) (y2 : Int32) : Nat → Int32 → Int32 → ps_S → Option (((Int32 × Int32)) × ps_S)
  | 0, _, _, _ => none
  | n + 1, x3, x4, σ =>
    if y2 ≤ x4 then
    some ((x3, x4), σ)
    else
    if ps_in ((y1 + x4)) 83 = true then
    ps_let (σ.1 335 ((y1 + x4)).toNatClampNeg) fun v2 =>
    ps_let ((x3 + v2)) fun v3 =>
    ps_let (x4 + 1) fun v4 =>
    qX9_sumOf_5 y1 y2 n v3 v4 σ
    else none
set_option maxRecDepth 100000 in
theorem L_X9_sumOf_5 {g : pm_G} (D : Nat) (hD : 1 ≤ D) {P : Int32 → ps_S → Prop}  (y1 : Int32) (y2 : Int32) : ∀ (n : Nat) (x3 : Int32) (x4 : Int32) (σ : ps_S), ps_ok (qX9_sumOf_5 y1 y2 n x3 x4 σ) (fun res σ => match res with | (x3, x4) => pm_W g mX9_sumOf (ps_F g D (ps_qI P)) 0 0 29 [some (.ref (g.2.2.1 + 327)), some (.int y1), some (.int y2), some (.int x3), some (.int x4)] [] 345 (ps_E g σ)) → pm_W g mX9_sumOf (ps_F g D (ps_qI P)) 0 0 5 [some (.ref (g.2.2.1 + 327)), some (.int y1), some (.int y2), some (.int x3), some (.int x4)] [] 345 (ps_E g σ) := by
  intro n
  induction n with
  | zero => intro x3 x4 σ hK; exact (ps_no hK).elim
  | succ n ih =>
    intro x3 x4 σ hK
    rw [qX9_sumOf_5] at hK
    refine pm_ild d_X9_sumOf_5 rfl ?_
    refine pm_ild d_X9_sumOf_7 rfl ?_
    refine pm_icmp_ge d_X9_sumOf_8 (fun c1 => ?_) (fun c1 => ?_)
    · replace hK := ps_ifT c1 hK
      exact ps_so hK
    · replace hK := ps_ifF c1 hK
      refine pm_ild d_X9_sumOf_11 rfl ?_
      refine pm_ald d_X9_sumOf_12 rfl ?_
      refine ps_getR (q := 335) d_X9_sumOf_13 at_327 f_8_0_19 rfl ?_
      refine pm_ild d_X9_sumOf_16 rfl ?_
      refine pm_ild d_X9_sumOf_17 rfl ?_
      refine pm_iadd d_X9_sumOf_19 ?_
      obtain ⟨b5, hT⟩ := ps_gd hK
      replace hK := hT
      clear hT
      refine ps_iald d_X9_sumOf_20 at_335 a_8_8 (ps_in_of b5) rfl ?_
      refine ps_topI (fun v2 ev2 => ?_)
      replace hK := ps_ltE ev2 hK
      refine pm_iadd d_X9_sumOf_21 ?_
      refine ps_topI (fun v3 ev3 => ?_)
      replace hK := ps_ltE ev3 hK
      refine pm_ist3 d_X9_sumOf_22 rfl (by decide) ?_
      refine pm_inc4 d_X9_sumOf_23 rfl ?_
      obtain ⟨v4, ev4⟩ : ∃ y : Int32, y = x4 + 1 := ⟨_, rfl⟩
      rw [← ev4]
      replace hK := ps_ltE ev4 hK
      refine pm_goto d_X9_sumOf_26 ?_
      exact ih _ _ _ hK
def qX9_sumOf (p1 : Int32) (p2 : Int32) (σ : ps_S) : Option (Int32 × ps_S) :=
  ps_bd (qX9_sumOf_5 p1 p2 ps_N 0 0 σ) (fun res σ6 => match res with
  | (v7, v8) =>
    some (v7, σ6))
set_option maxRecDepth 100000 in
theorem C_X9_sumOf {g : pm_G} (p1 : Int32) (p2 : Int32) (σ : ps_S) (P : Int32 → ps_S → Prop) (hK : ps_ok (qX9_sumOf p1 p2 σ) P) : ps_C g mX9_sumOf 1 [.ref (g.2.2.1 + 327), .int p1, .int p2] σ (ps_qI P) := by
  unfold qX9_sumOf at hK
  refine ps_C.of (ls := [some (.ref (g.2.2.1 + 327)), some (.int p1), some (.int p2), none, none]) 2 (by decide) rfl (Nat.le_of_ble_eq_true rfl) rfl ?_
  refine pm_ki d_X9_sumOf_0 ?_
  refine pm_ist3 d_X9_sumOf_1 rfl (by decide) ?_
  refine pm_ki d_X9_sumOf_2 ?_
  refine pm_ist4 d_X9_sumOf_3 rfl (by decide) ?_
  refine L_X9_sumOf_5 _ (by decide) p1 p2 _ _ _ _ (ps_ok.mono (ps_bdE hK) ?_)
  rintro ⟨v7, v8⟩ σ6 hT
  clear hK
  have hK := hT
  clear hT
  refine pm_ild d_X9_sumOf_29 rfl ?_
  have hQ := ps_so hK
  exact ps_iret rfl d_X9_sumOf_30 ⟨_, rfl, hQ⟩
def qX9_allNow  (σ : ps_S) : Option (Int32 × ps_S) :=
  ps_bd (qX9_sumOf 1 12 σ) (fun v1 σ2 =>
  ps_bd (qX9_sumOf 29 4 σ2) (fun v3 σ4 =>
  some ((v1 + v3), σ4)))
set_option maxRecDepth 100000 in
theorem C_X9_allNow {g : pm_G}  (σ : ps_S) (P : Int32 → ps_S → Prop) (hK : ps_ok (qX9_allNow  σ) P) : ps_C g mX9_allNow 2 [.ref (g.2.2.1 + 327)] σ (ps_qI P) := by
  unfold qX9_allNow at hK
  refine ps_C.of (ls := [some (.ref (g.2.2.1 + 327))]) 0 (by decide) rfl (Nat.le_of_ble_eq_true rfl) rfl ?_
  refine pm_ald d_X9_allNow_0 rfl ?_
  refine pm_ki d_X9_allNow_1 ?_
  refine pm_ki d_X9_allNow_2 ?_
  refine ps_cVI d_X9_allNow_4 mv_X9_sumOf at_327 ob_8_0 rfl (As := [.int 1, .int 12]) rfl rfl (ps_room.of (by omega) (by decide)) (Nat.le_of_ble_eq_true rfl) (C_X9_sumOf 1 12 σ _ (ps_bdE hK)) ?_
  intro v1 σ2 hT
  clear hK
  have hK := hT
  clear hT
  refine pm_ald d_X9_allNow_7 rfl ?_
  refine pm_ki d_X9_allNow_8 ?_
  refine pm_ki d_X9_allNow_10 ?_
  refine ps_cVI d_X9_allNow_11 mv_X9_sumOf at_327 ob_8_0 rfl (As := [.int 29, .int 4]) rfl rfl (ps_room.of (by omega) (by decide)) (Nat.le_of_ble_eq_true rfl) (C_X9_sumOf 29 4 σ2 _ (ps_bdE hK)) ?_
  intro v3 σ4 hT
  clear hK
  have hK := hT
  clear hT
  refine pm_iadd d_X9_allNow_14 ?_
  have hQ := ps_so hK
  exact ps_iret rfl d_X9_allNow_15 ⟨_, rfl, hQ⟩
def qX9_isOld (p1 : Int32) (σ : ps_S) : Option (Int32 × ps_S) :=
  if ps_in ((1 + p1)) 83 = true then
  ps_let (σ.1 335 ((1 + p1)).toNatClampNeg) fun v1 =>
  if v1 ≤ 0 then
  some (0, σ)
  else
  ps_let (σ.1 335 0) fun v3 =>
  if ps_in ((13 + p1)) 83 = true then
  ps_let (σ.1 335 ((13 + p1)).toNatClampNeg) fun v4 =>
  ps_let (σ.1 328 12) fun v5 =>
  if ((v3 - v4)) < v5 then
  some (0, σ)
  else
  some (1, σ)
  else none
  else none
set_option maxRecDepth 100000 in
theorem C_X9_isOld {g : pm_G} (p1 : Int32) (σ : ps_S) (P : Int32 → ps_S → Prop) (hK : ps_ok (qX9_isOld p1 σ) P) : ps_C g mX9_isOld 1 [.ref (g.2.2.1 + 327), .int p1] σ (ps_qI P) := by
  unfold qX9_isOld at hK
  refine ps_C.of (ls := [some (.ref (g.2.2.1 + 327)), some (.int p1)]) 0 (by decide) rfl (Nat.le_of_ble_eq_true rfl) rfl ?_
  refine pm_ald d_X9_isOld_0 rfl ?_
  refine ps_getR (q := 335) d_X9_isOld_1 at_327 f_8_0_19 rfl ?_
  refine pm_ki d_X9_isOld_4 ?_
  refine pm_ild d_X9_isOld_5 rfl ?_
  refine pm_iadd d_X9_isOld_6 ?_
  obtain ⟨b8, hT⟩ := ps_gd hK
  replace hK := hT
  clear hT
  refine ps_iald d_X9_isOld_7 at_335 a_8_8 (ps_in_of b8) rfl ?_
  refine ps_topI (fun v1 ev1 => ?_)
  replace hK := ps_ltE ev1 hK
  refine pm_if_le d_X9_isOld_8 (fun c2 => ?_) (fun c2 => ?_)
  · replace hK := ps_ifT c2 hK
    refine pm_ki d_X9_isOld_41 ?_
    have hQ := ps_so hK
    exact ps_zret rfl rfl d_X9_isOld_42 ⟨_, rfl, hQ⟩
  · replace hK := ps_ifF c2 hK
    refine pm_ald d_X9_isOld_11 rfl ?_
    refine ps_getR (q := 335) d_X9_isOld_12 at_327 f_8_0_19 rfl ?_
    refine pm_ki d_X9_isOld_15 ?_
    refine ps_iald (x := σ.1 335 0) d_X9_isOld_16 at_335 a_8_8 (ps_in_of rfl) rfl ?_
    refine ps_topI (fun v3 ev3 => ?_)
    replace hK := ps_ltE ev3 hK
    refine pm_ald d_X9_isOld_17 rfl ?_
    refine ps_getR (q := 335) d_X9_isOld_18 at_327 f_8_0_19 rfl ?_
    refine pm_ki d_X9_isOld_21 ?_
    refine pm_ild d_X9_isOld_23 rfl ?_
    refine pm_iadd d_X9_isOld_24 ?_
    obtain ⟨b7, hT⟩ := ps_gd hK
    replace hK := hT
    clear hT
    refine ps_iald d_X9_isOld_25 at_335 a_8_8 (ps_in_of b7) rfl ?_
    refine ps_topI (fun v4 ev4 => ?_)
    replace hK := ps_ltE ev4 hK
    refine pm_isub d_X9_isOld_26 ?_
    refine pm_ald d_X9_isOld_27 rfl ?_
    refine ps_getR (q := 328) d_X9_isOld_28 at_327 f_8_0_1 rfl ?_
    refine pm_ki d_X9_isOld_31 ?_
    refine ps_iald (x := σ.1 328 12) d_X9_isOld_33 at_328 a_8_1 (ps_in_of rfl) rfl ?_
    refine ps_topI (fun v5 ev5 => ?_)
    replace hK := ps_ltE ev5 hK
    refine pm_icmp_lt d_X9_isOld_34 (fun c6 => ?_) (fun c6 => ?_)
    · replace hK := ps_ifT c6 hK
      refine pm_ki d_X9_isOld_41 ?_
      have hQ := ps_so hK
      exact ps_zret rfl rfl d_X9_isOld_42 ⟨_, rfl, hQ⟩
    · replace hK := ps_ifF c6 hK
      refine pm_ki d_X9_isOld_37 ?_
      refine pm_goto d_X9_isOld_38 ?_
      have hQ := ps_so hK
      exact ps_zret rfl rfl d_X9_isOld_42 ⟨_, rfl, hQ⟩
def qX9_oldOn_4  (y1 : Int32) : Nat → Int32 → Int32 → ps_S → Option (((Int32 × Int32)) × ps_S)
  | 0, _, _, _ => none
  | n + 1, x2, x3, σ =>
    ps_let (σ.1 328 2) fun v1 =>
    if v1 ≤ x3 then
    some ((x2, x3), σ)
    else
    if ps_in ((17 + x3)) 5550 = true then
    ps_let (σ.1 328 ((17 + x3)).toNatClampNeg) fun v3 =>
    if v3 = y1 then
    ps_bd (qX9_isOld x3 σ) (fun v6 σ7 =>
    if v6 = 0 then
    ps_let (x3 + 1) fun v9 =>
    qX9_oldOn_4 y1 n x2 v9 σ7
    else
    if x2 = ((-1)) then
    ps_let (x3 + 1) fun v11 =>
    qX9_oldOn_4 y1 n x3 v11 σ7
    else
    if ps_in ((13 + x3)) 83 = true then
    ps_let (σ7.1 335 ((13 + x3)).toNatClampNeg) fun v12 =>
    if ps_in ((13 + x2)) 83 = true then
    ps_let (σ7.1 335 ((13 + x2)).toNatClampNeg) fun v13 =>
    if v13 ≤ v12 then
    ps_let (x3 + 1) fun v15 =>
    qX9_oldOn_4 y1 n x2 v15 σ7
    else
    ps_let (x3 + 1) fun v16 =>
    qX9_oldOn_4 y1 n x3 v16 σ7
    else none
    else none)
    else
    ps_let (x3 + 1) fun v5 =>
    qX9_oldOn_4 y1 n x2 v5 σ
    else none
set_option maxRecDepth 100000 in
theorem L_X9_oldOn_4 {g : pm_G} (D : Nat) (hD : 2 ≤ D) {P : Int32 → ps_S → Prop}  (y1 : Int32) : ∀ (n : Nat) (x2 : Int32) (x3 : Int32) (σ : ps_S), ps_ok (qX9_oldOn_4 y1 n x2 x3 σ) (fun res σ => match res with | (x2, x3) => pm_W g mX9_oldOn (ps_F g D (ps_qI P)) 0 0 69 [some (.ref (g.2.2.1 + 327)), some (.int y1), some (.int x2), some (.int x3)] [] 345 (ps_E g σ)) → pm_W g mX9_oldOn (ps_F g D (ps_qI P)) 0 0 4 [some (.ref (g.2.2.1 + 327)), some (.int y1), some (.int x2), some (.int x3)] [] 345 (ps_E g σ) := by
  intro n
  induction n with
  | zero => intro x2 x3 σ hK; exact (ps_no hK).elim
  | succ n ih =>
    intro x2 x3 σ hK
    rw [qX9_oldOn_4] at hK
    refine pm_ild d_X9_oldOn_4 rfl ?_
    refine pm_ald d_X9_oldOn_5 rfl ?_
    refine ps_getR (q := 328) d_X9_oldOn_6 at_327 f_8_0_1 rfl ?_
    refine pm_ki d_X9_oldOn_9 ?_
    refine ps_iald (x := σ.1 328 2) d_X9_oldOn_10 at_328 a_8_1 (ps_in_of rfl) rfl ?_
    refine ps_topI (fun v1 ev1 => ?_)
    replace hK := ps_ltE ev1 hK
    refine pm_icmp_ge d_X9_oldOn_11 (fun c2 => ?_) (fun c2 => ?_)
    · replace hK := ps_ifT c2 hK
      exact ps_so hK
    · replace hK := ps_ifF c2 hK
      refine pm_ald d_X9_oldOn_14 rfl ?_
      refine ps_getR (q := 328) d_X9_oldOn_15 at_327 f_8_0_1 rfl ?_
      refine pm_ki d_X9_oldOn_18 ?_
      refine pm_ild d_X9_oldOn_20 rfl ?_
      refine pm_iadd d_X9_oldOn_21 ?_
      obtain ⟨b19, hT⟩ := ps_gd hK
      replace hK := hT
      clear hT
      refine ps_iald d_X9_oldOn_22 at_328 a_8_1 (ps_in_of b19) rfl ?_
      refine ps_topI (fun v3 ev3 => ?_)
      replace hK := ps_ltE ev3 hK
      refine pm_ild d_X9_oldOn_23 rfl ?_
      refine pm_icmp_ne d_X9_oldOn_24 (fun c4 => ?_) (fun c4 => ?_)
      · replace hK := ps_ifF c4 hK
        refine pm_inc3 d_X9_oldOn_63 rfl ?_
        obtain ⟨v5, ev5⟩ : ∃ y : Int32, y = x3 + 1 := ⟨_, rfl⟩
        rw [← ev5]
        replace hK := ps_ltE ev5 hK
        refine pm_goto d_X9_oldOn_66 ?_
        exact ih _ _ _ hK
      · replace hK := ps_ifT c4 hK
        refine pm_ald d_X9_oldOn_27 rfl ?_
        refine pm_ild d_X9_oldOn_28 rfl ?_
        refine ps_cVI d_X9_oldOn_29 mv_X9_isOld at_327 ob_8_0 rfl (As := [.int x3]) rfl rfl (ps_room.of (by omega) (by decide)) (Nat.le_of_ble_eq_true rfl) (C_X9_isOld x3 σ _ (ps_bdE hK)) ?_
        intro v6 σ7 hT
        clear hK
        have hK := hT
        clear hT
        refine pm_if_eq d_X9_oldOn_32 (fun c8 => ?_) (fun c8 => ?_)
        · replace hK := ps_ifT c8 hK
          refine pm_inc3 d_X9_oldOn_63 rfl ?_
          obtain ⟨v9, ev9⟩ : ∃ y : Int32, y = x3 + 1 := ⟨_, rfl⟩
          rw [← ev9]
          replace hK := ps_ltE ev9 hK
          refine pm_goto d_X9_oldOn_66 ?_
          exact ih _ _ _ hK
        · replace hK := ps_ifF c8 hK
          refine pm_ild d_X9_oldOn_35 rfl ?_
          refine pm_ki d_X9_oldOn_36 ?_
          refine pm_icmp_eq d_X9_oldOn_37 (fun c10 => ?_) (fun c10 => ?_)
          · replace hK := ps_ifT c10 hK
            refine pm_ild d_X9_oldOn_61 rfl ?_
            refine pm_ist2 d_X9_oldOn_62 rfl (by decide) ?_
            refine pm_inc3 d_X9_oldOn_63 rfl ?_
            obtain ⟨v11, ev11⟩ : ∃ y : Int32, y = x3 + 1 := ⟨_, rfl⟩
            rw [← ev11]
            replace hK := ps_ltE ev11 hK
            refine pm_goto d_X9_oldOn_66 ?_
            exact ih _ _ _ hK
          · replace hK := ps_ifF c10 hK
            refine pm_ald d_X9_oldOn_40 rfl ?_
            refine ps_getR (q := 335) d_X9_oldOn_41 at_327 f_8_0_19 rfl ?_
            refine pm_ki d_X9_oldOn_44 ?_
            refine pm_ild d_X9_oldOn_46 rfl ?_
            refine pm_iadd d_X9_oldOn_47 ?_
            obtain ⟨b18, hT⟩ := ps_gd hK
            replace hK := hT
            clear hT
            refine ps_iald d_X9_oldOn_48 at_335 a_8_8 (ps_in_of b18) rfl ?_
            refine ps_topI (fun v12 ev12 => ?_)
            replace hK := ps_ltE ev12 hK
            refine pm_ald d_X9_oldOn_49 rfl ?_
            refine ps_getR (q := 335) d_X9_oldOn_50 at_327 f_8_0_19 rfl ?_
            refine pm_ki d_X9_oldOn_53 ?_
            refine pm_ild d_X9_oldOn_55 rfl ?_
            refine pm_iadd d_X9_oldOn_56 ?_
            obtain ⟨b17, hT⟩ := ps_gd hK
            replace hK := hT
            clear hT
            refine ps_iald d_X9_oldOn_57 at_335 a_8_8 (ps_in_of b17) rfl ?_
            refine ps_topI (fun v13 ev13 => ?_)
            replace hK := ps_ltE ev13 hK
            refine pm_icmp_ge d_X9_oldOn_58 (fun c14 => ?_) (fun c14 => ?_)
            · replace hK := ps_ifT c14 hK
              refine pm_inc3 d_X9_oldOn_63 rfl ?_
              obtain ⟨v15, ev15⟩ : ∃ y : Int32, y = x3 + 1 := ⟨_, rfl⟩
              rw [← ev15]
              replace hK := ps_ltE ev15 hK
              refine pm_goto d_X9_oldOn_66 ?_
              exact ih _ _ _ hK
            · replace hK := ps_ifF c14 hK
              refine pm_ild d_X9_oldOn_61 rfl ?_
              refine pm_ist2 d_X9_oldOn_62 rfl (by decide) ?_
              refine pm_inc3 d_X9_oldOn_63 rfl ?_
              obtain ⟨v16, ev16⟩ : ∃ y : Int32, y = x3 + 1 := ⟨_, rfl⟩
              rw [← ev16]
              replace hK := ps_ltE ev16 hK
              refine pm_goto d_X9_oldOn_66 ?_
              exact ih _ _ _ hK
def qX9_oldOn (p1 : Int32) (σ : ps_S) : Option (Int32 × ps_S) :=
  ps_bd (qX9_oldOn_4 p1 ps_N ((-1)) 0 σ) (fun res σ20 => match res with
  | (v21, v22) =>
    some (v21, σ20))
set_option maxRecDepth 100000 in
theorem C_X9_oldOn {g : pm_G} (p1 : Int32) (σ : ps_S) (P : Int32 → ps_S → Prop) (hK : ps_ok (qX9_oldOn p1 σ) P) : ps_C g mX9_oldOn 2 [.ref (g.2.2.1 + 327), .int p1] σ (ps_qI P) := by
  unfold qX9_oldOn at hK
  refine ps_C.of (ls := [some (.ref (g.2.2.1 + 327)), some (.int p1), none, none]) 2 (by decide) rfl (Nat.le_of_ble_eq_true rfl) rfl ?_
  refine pm_ki d_X9_oldOn_0 ?_
  refine pm_ist2 d_X9_oldOn_1 rfl (by decide) ?_
  refine pm_ki d_X9_oldOn_2 ?_
  refine pm_ist3 d_X9_oldOn_3 rfl (by decide) ?_
  refine L_X9_oldOn_4 _ (by decide) p1 _ _ _ _ (ps_ok.mono (ps_bdE hK) ?_)
  rintro ⟨v21, v22⟩ σ20 hT
  clear hK
  have hK := hT
  clear hT
  refine pm_ild d_X9_oldOn_69 rfl ?_
  have hQ := ps_so hK
  exact ps_iret rfl d_X9_oldOn_70 ⟨_, rfl, hQ⟩
def qX9_turnOn_2  (y1 : Int32) : Nat → Int32 → ps_S → Option ((Int32 ⊕ (Int32)) × ps_S)
  | 0, _, _ => none
  | n + 1, x2, σ =>
    ps_let (σ.1 328 2) fun v1 =>
    if v1 ≤ x2 then
    some (.inr x2, σ)
    else
    if ps_in ((41 + y1)) 83 = true then
    ps_let (σ.1 335 ((41 + y1)).toNatClampNeg) fun v3 =>
    ps_let (σ.1 328 2) fun v4 =>
    if v4 = 0 then none else
    ps_let ((((v3 + x2)) - ((v3 + x2)) / v4 * v4)) fun v5 =>
    if ps_in ((17 + v5)) 5550 = true then
    ps_let (σ.1 328 ((17 + v5)).toNatClampNeg) fun v6 =>
    if v6 = y1 then
    if ps_in ((1 + v5)) 83 = true then
    ps_let (σ.1 335 ((1 + v5)).toNatClampNeg) fun v9 =>
    if v9 ≤ 0 then
    ps_let (x2 + 1) fun v11 =>
    qX9_turnOn_2 y1 n v11 σ
    else
    some (.inl v5, σ)
    else none
    else
    ps_let (x2 + 1) fun v8 =>
    qX9_turnOn_2 y1 n v8 σ
    else none
    else none
set_option maxRecDepth 100000 in
theorem L_X9_turnOn_2 {g : pm_G} (D : Nat) (hD : 1 ≤ D) {P : Int32 → ps_S → Prop}  (y1 : Int32) : ∀ (n : Nat) (x2 : Int32) (σ : ps_S), ps_ok (qX9_turnOn_2 y1 n x2 σ) (fun res σ => match res with | .inl r => P r σ | .inr x2 => pm_W g mX9_turnOn (ps_F g D (ps_qI P)) 0 0 63 [some (.ref (g.2.2.1 + 327)), some (.int y1), some (.int x2), none] [] 345 (ps_E g σ)) → pm_W g mX9_turnOn (ps_F g D (ps_qI P)) 0 0 2 [some (.ref (g.2.2.1 + 327)), some (.int y1), some (.int x2), none] [] 345 (ps_E g σ) := by
  intro n
  induction n with
  | zero => intro x2 σ hK; exact (ps_no hK).elim
  | succ n ih =>
    intro x2 σ hK
    rw [qX9_turnOn_2] at hK
    refine pm_ild d_X9_turnOn_2 rfl ?_
    refine pm_ald d_X9_turnOn_3 rfl ?_
    refine ps_getR (q := 328) d_X9_turnOn_4 at_327 f_8_0_1 rfl ?_
    refine pm_ki d_X9_turnOn_7 ?_
    refine ps_iald (x := σ.1 328 2) d_X9_turnOn_8 at_328 a_8_1 (ps_in_of rfl) rfl ?_
    refine ps_topI (fun v1 ev1 => ?_)
    replace hK := ps_ltE ev1 hK
    refine pm_icmp_ge d_X9_turnOn_9 (fun c2 => ?_) (fun c2 => ?_)
    · replace hK := ps_ifT c2 hK
      exact ps_so hK
    · replace hK := ps_ifF c2 hK
      refine pm_ald d_X9_turnOn_12 rfl ?_
      refine ps_getR (q := 335) d_X9_turnOn_13 at_327 f_8_0_19 rfl ?_
      refine pm_ki d_X9_turnOn_16 ?_
      refine pm_ild d_X9_turnOn_18 rfl ?_
      refine pm_iadd d_X9_turnOn_19 ?_
      obtain ⟨b15, hT⟩ := ps_gd hK
      replace hK := hT
      clear hT
      refine ps_iald d_X9_turnOn_20 at_335 a_8_8 (ps_in_of b15) rfl ?_
      refine ps_topI (fun v3 ev3 => ?_)
      replace hK := ps_ltE ev3 hK
      refine pm_ild d_X9_turnOn_21 rfl ?_
      refine pm_iadd d_X9_turnOn_22 ?_
      refine pm_ald d_X9_turnOn_23 rfl ?_
      refine ps_getR (q := 328) d_X9_turnOn_24 at_327 f_8_0_1 rfl ?_
      refine pm_ki d_X9_turnOn_27 ?_
      refine ps_iald (x := σ.1 328 2) d_X9_turnOn_28 at_328 a_8_1 (ps_in_of rfl) rfl ?_
      refine ps_topI (fun v4 ev4 => ?_)
      replace hK := ps_ltE ev4 hK
      by_cases z14 : v4 = 0
      · exact (ps_no (ps_ifT z14 hK)).elim
      replace hK := ps_ifF z14 hK
      refine pm_irem d_X9_turnOn_29 z14 ?_
      refine ps_topI (fun v5 ev5 => ?_)
      replace hK := ps_ltE ev5 hK
      refine pm_ist3 d_X9_turnOn_30 rfl (by decide) ?_
      refine pm_ald d_X9_turnOn_31 rfl ?_
      refine ps_getR (q := 328) d_X9_turnOn_32 at_327 f_8_0_1 rfl ?_
      refine pm_ki d_X9_turnOn_35 ?_
      refine pm_ild d_X9_turnOn_37 rfl ?_
      refine pm_iadd d_X9_turnOn_38 ?_
      obtain ⟨b13, hT⟩ := ps_gd hK
      replace hK := hT
      clear hT
      refine ps_iald d_X9_turnOn_39 at_328 a_8_1 (ps_in_of b13) rfl ?_
      refine ps_topI (fun v6 ev6 => ?_)
      replace hK := ps_ltE ev6 hK
      refine pm_ild d_X9_turnOn_40 rfl ?_
      refine pm_icmp_ne d_X9_turnOn_41 (fun c7 => ?_) (fun c7 => ?_)
      · replace hK := ps_ifF c7 hK
        refine pm_inc2 d_X9_turnOn_57 rfl ?_
        obtain ⟨v8, ev8⟩ : ∃ y : Int32, y = x2 + 1 := ⟨_, rfl⟩
        rw [← ev8]
        replace hK := ps_ltE ev8 hK
        refine pm_goto d_X9_turnOn_60 ?_
        refine pm_wk (ls' := [some (.ref (g.2.2.1 + 327)), some (.int y1), some (.int v8), none]) ⟨rfl, ⟨rfl, ⟨rfl, trivial⟩⟩⟩ ?_
        exact ih _ _ hK
      · replace hK := ps_ifT c7 hK
        refine pm_ald d_X9_turnOn_44 rfl ?_
        refine ps_getR (q := 335) d_X9_turnOn_45 at_327 f_8_0_19 rfl ?_
        refine pm_ki d_X9_turnOn_48 ?_
        refine pm_ild d_X9_turnOn_49 rfl ?_
        refine pm_iadd d_X9_turnOn_50 ?_
        obtain ⟨b12, hT⟩ := ps_gd hK
        replace hK := hT
        clear hT
        refine ps_iald d_X9_turnOn_51 at_335 a_8_8 (ps_in_of b12) rfl ?_
        refine ps_topI (fun v9 ev9 => ?_)
        replace hK := ps_ltE ev9 hK
        refine pm_if_le d_X9_turnOn_52 (fun c10 => ?_) (fun c10 => ?_)
        · replace hK := ps_ifT c10 hK
          refine pm_inc2 d_X9_turnOn_57 rfl ?_
          obtain ⟨v11, ev11⟩ : ∃ y : Int32, y = x2 + 1 := ⟨_, rfl⟩
          rw [← ev11]
          replace hK := ps_ltE ev11 hK
          refine pm_goto d_X9_turnOn_60 ?_
          refine pm_wk (ls' := [some (.ref (g.2.2.1 + 327)), some (.int y1), some (.int v11), none]) ⟨rfl, ⟨rfl, ⟨rfl, trivial⟩⟩⟩ ?_
          exact ih _ _ hK
        · replace hK := ps_ifF c10 hK
          refine pm_ild d_X9_turnOn_55 rfl ?_
          have hQ := ps_so hK
          exact ps_iret rfl d_X9_turnOn_56 ⟨_, rfl, hQ⟩
def qX9_turnOn (p1 : Int32) (σ : ps_S) : Option (Int32 × ps_S) :=
  ps_bd (qX9_turnOn_2 p1 ps_N 0 σ) (fun res σ16 => match res with
  | .inl r => some (r, σ16)
  | .inr v17 =>
    some ((-1), σ16))
set_option maxRecDepth 100000 in
theorem C_X9_turnOn {g : pm_G} (p1 : Int32) (σ : ps_S) (P : Int32 → ps_S → Prop) (hK : ps_ok (qX9_turnOn p1 σ) P) : ps_C g mX9_turnOn 1 [.ref (g.2.2.1 + 327), .int p1] σ (ps_qI P) := by
  unfold qX9_turnOn at hK
  refine ps_C.of (ls := [some (.ref (g.2.2.1 + 327)), some (.int p1), none, none]) 2 (by decide) rfl (Nat.le_of_ble_eq_true rfl) rfl ?_
  refine pm_ki d_X9_turnOn_0 ?_
  refine pm_ist2 d_X9_turnOn_1 rfl (by decide) ?_
  refine L_X9_turnOn_2 _ (by decide) p1 _ _ _ (ps_ok.mono (ps_bdE hK) ?_)
  intro res σ16 hT
  clear hK
  match res, hT with
  | .inl r, hT => exact ps_so hT
  | .inr v17, hT =>
    have hK := hT
    clear hT
    refine pm_ki d_X9_turnOn_63 ?_
    have hQ := ps_so hK
    exact ps_iret rfl d_X9_turnOn_64 ⟨_, rfl, hQ⟩
def qX9_nextOn (p1 : Int32) (σ : ps_S) : Option (Int32 × ps_S) :=
  ps_bd (qX9_oldOn p1 σ) (fun v1 σ2 =>
  if v1 = ((-1)) then
  ps_bd (qX9_allNow σ2) (fun v4 σ5 =>
  ps_let (σ5.1 328 11) fun v6 =>
  if v6 < v4 then
  ps_bd (qX9_turnOn p1 σ5) (fun v8 σ9 =>
  some (v8, σ9))
  else
  some (v1, σ5))
  else
  some (v1, σ2))
set_option maxRecDepth 100000 in
theorem C_X9_nextOn {g : pm_G} (p1 : Int32) (σ : ps_S) (P : Int32 → ps_S → Prop) (hK : ps_ok (qX9_nextOn p1 σ) P) : ps_C g mX9_nextOn 3 [.ref (g.2.2.1 + 327), .int p1] σ (ps_qI P) := by
  unfold qX9_nextOn at hK
  refine ps_C.of (ls := [some (.ref (g.2.2.1 + 327)), some (.int p1), none]) 1 (by decide) rfl (Nat.le_of_ble_eq_true rfl) rfl ?_
  refine pm_ald d_X9_nextOn_0 rfl ?_
  refine pm_ild d_X9_nextOn_1 rfl ?_
  refine ps_cVI d_X9_nextOn_2 mv_X9_oldOn at_327 ob_8_0 rfl (As := [.int p1]) rfl rfl (ps_room.of (by omega) (by decide)) (Nat.le_of_ble_eq_true rfl) (C_X9_oldOn p1 σ _ (ps_bdE hK)) ?_
  intro v1 σ2 hT
  clear hK
  have hK := hT
  clear hT
  refine pm_ist2 d_X9_nextOn_5 rfl (by decide) ?_
  refine pm_ild d_X9_nextOn_6 rfl ?_
  refine pm_ki d_X9_nextOn_7 ?_
  refine pm_icmp_ne d_X9_nextOn_8 (fun c3 => ?_) (fun c3 => ?_)
  · replace hK := ps_ifF c3 hK
    refine pm_ild d_X9_nextOn_25 rfl ?_
    refine pm_goto d_X9_nextOn_26 ?_
    have hQ := ps_so hK
    exact ps_iret rfl d_X9_nextOn_34 ⟨_, rfl, hQ⟩
  · replace hK := ps_ifT c3 hK
    refine pm_ald d_X9_nextOn_11 rfl ?_
    refine ps_cVI d_X9_nextOn_12 mv_X9_allNow at_327 ob_8_0 rfl (As := []) rfl rfl (ps_room.of (by omega) (by decide)) (Nat.le_of_ble_eq_true rfl) (C_X9_allNow σ2 _ (ps_bdE hK)) ?_
    intro v4 σ5 hT
    clear hK
    have hK := hT
    clear hT
    refine pm_ald d_X9_nextOn_15 rfl ?_
    refine ps_getR (q := 328) d_X9_nextOn_16 at_327 f_8_0_1 rfl ?_
    refine pm_ki d_X9_nextOn_19 ?_
    refine ps_iald (x := σ5.1 328 11) d_X9_nextOn_21 at_328 a_8_1 (ps_in_of rfl) rfl ?_
    refine ps_topI (fun v6 ev6 => ?_)
    replace hK := ps_ltE ev6 hK
    refine pm_icmp_gt d_X9_nextOn_22 (fun c7 => ?_) (fun c7 => ?_)
    · replace hK := ps_ifT c7 hK
      refine pm_ald d_X9_nextOn_29 rfl ?_
      refine pm_ild d_X9_nextOn_30 rfl ?_
      refine ps_cVI d_X9_nextOn_31 mv_X9_turnOn at_327 ob_8_0 rfl (As := [.int p1]) rfl rfl (ps_room.of (by omega) (by decide)) (Nat.le_of_ble_eq_true rfl) (C_X9_turnOn p1 σ5 _ (ps_bdE hK)) ?_
      intro v8 σ9 hT
      clear hK
      have hK := hT
      clear hT
      have hQ := ps_so hK
      exact ps_iret rfl d_X9_nextOn_34 ⟨_, rfl, hQ⟩
    · replace hK := ps_ifF c7 hK
      refine pm_ild d_X9_nextOn_25 rfl ?_
      refine pm_goto d_X9_nextOn_26 ?_
      have hQ := ps_so hK
      exact ps_iret rfl d_X9_nextOn_34 ⟨_, rfl, hQ⟩
def qX9_takesUp_0  (y1 : Int32) : Nat → ps_S → Option ((Unit ⊕ (Unit)) × ps_S)
  | 0, _ => none
  | n + 1, σ =>
    if ps_in ((29 + y1)) 83 = true then
    ps_let (σ.1 335 ((29 + y1)).toNatClampNeg) fun v1 =>
    ps_let (σ.1 328 16) fun v2 =>
    if v2 ≤ v1 then
    some (.inr (()), σ)
    else
    ps_bd (qX9_oldOn y1 σ) (fun v4 σ5 =>
    ps_bd (qX9_nextOn y1 σ5) (fun v6 σ7 =>
    if v6 = ((-1)) then
    some (.inl (()), σ7)
    else
    if v4 = ((-1)) then
    if ps_in ((41 + y1)) 83 = true then
    ps_let (ps_rI σ7 335 (upd (σ7.1 335) ((41 + y1)).toNatClampNeg ((v6 + 1)))) fun σ55 =>
    ps_let (σ55.1 328 16) fun v56 =>
    if ps_in ((29 + y1)) 83 = true then
    ps_let (σ55.1 335 ((29 + y1)).toNatClampNeg) fun v57 =>
    ps_let ((v56 - v57)) fun v58 =>
    ps_let (σ55.1 328 15) fun v59 =>
    if ps_in ((1 + v6)) 83 = true then
    ps_let (σ55.1 335 ((1 + v6)).toNatClampNeg) fun v60 =>
    if v60 ≤ v59 then
    if ps_in ((1 + v6)) 83 = true then
    ps_let (σ55.1 335 ((1 + v6)).toNatClampNeg) fun v62 =>
    if v58 ≤ v62 then
    if ps_in ((1 + v6)) 83 = true then
    ps_let (σ55.1 335 ((1 + v6)).toNatClampNeg) fun v64 =>
    if ps_in ((1 + v6)) 83 = true then
    ps_let (ps_rI σ55 335 (upd (σ55.1 335) ((1 + v6)).toNatClampNeg ((v64 - v58)))) fun σ65 =>
    if ps_in ((29 + y1)) 83 = true then
    ps_let (σ65.1 335 ((29 + y1)).toNatClampNeg) fun v66 =>
    if ps_in ((29 + y1)) 83 = true then
    ps_let (ps_rI σ65 335 (upd (σ65.1 335) ((29 + y1)).toNatClampNeg ((v66 + v58)))) fun σ67 =>
    qX9_takesUp_0 y1 n σ67
    else none
    else none
    else none
    else none
    else
    if ps_in ((1 + v6)) 83 = true then
    ps_let (σ55.1 335 ((1 + v6)).toNatClampNeg) fun v72 =>
    if ps_in ((1 + v6)) 83 = true then
    ps_let (ps_rI σ55 335 (upd (σ55.1 335) ((1 + v6)).toNatClampNeg ((v72 - v62)))) fun σ73 =>
    if ps_in ((29 + y1)) 83 = true then
    ps_let (σ73.1 335 ((29 + y1)).toNatClampNeg) fun v74 =>
    if ps_in ((29 + y1)) 83 = true then
    ps_let (ps_rI σ73 335 (upd (σ73.1 335) ((29 + y1)).toNatClampNeg ((v74 + v62)))) fun σ75 =>
    qX9_takesUp_0 y1 n σ75
    else none
    else none
    else none
    else none
    else none
    else
    ps_let (σ55.1 328 15) fun v81 =>
    if v58 ≤ v81 then
    if ps_in ((1 + v6)) 83 = true then
    ps_let (σ55.1 335 ((1 + v6)).toNatClampNeg) fun v83 =>
    if ps_in ((1 + v6)) 83 = true then
    ps_let (ps_rI σ55 335 (upd (σ55.1 335) ((1 + v6)).toNatClampNeg ((v83 - v58)))) fun σ84 =>
    if ps_in ((29 + y1)) 83 = true then
    ps_let (σ84.1 335 ((29 + y1)).toNatClampNeg) fun v85 =>
    if ps_in ((29 + y1)) 83 = true then
    ps_let (ps_rI σ84 335 (upd (σ84.1 335) ((29 + y1)).toNatClampNeg ((v85 + v58)))) fun σ86 =>
    qX9_takesUp_0 y1 n σ86
    else none
    else none
    else none
    else none
    else
    if ps_in ((1 + v6)) 83 = true then
    ps_let (σ55.1 335 ((1 + v6)).toNatClampNeg) fun v91 =>
    if ps_in ((1 + v6)) 83 = true then
    ps_let (ps_rI σ55 335 (upd (σ55.1 335) ((1 + v6)).toNatClampNeg ((v91 - v81)))) fun σ92 =>
    if ps_in ((29 + y1)) 83 = true then
    ps_let (σ92.1 335 ((29 + y1)).toNatClampNeg) fun v93 =>
    if ps_in ((29 + y1)) 83 = true then
    ps_let (ps_rI σ92 335 (upd (σ92.1 335) ((29 + y1)).toNatClampNeg ((v93 + v81)))) fun σ94 =>
    qX9_takesUp_0 y1 n σ94
    else none
    else none
    else none
    else none
    else none
    else none
    else none
    else
    ps_let (σ7.1 328 16) fun v10 =>
    if ps_in ((29 + y1)) 83 = true then
    ps_let (σ7.1 335 ((29 + y1)).toNatClampNeg) fun v11 =>
    ps_let ((v10 - v11)) fun v12 =>
    ps_let (σ7.1 328 15) fun v13 =>
    if ps_in ((1 + v6)) 83 = true then
    ps_let (σ7.1 335 ((1 + v6)).toNatClampNeg) fun v14 =>
    if v14 ≤ v13 then
    if ps_in ((1 + v6)) 83 = true then
    ps_let (σ7.1 335 ((1 + v6)).toNatClampNeg) fun v16 =>
    if v12 ≤ v16 then
    if ps_in ((1 + v6)) 83 = true then
    ps_let (σ7.1 335 ((1 + v6)).toNatClampNeg) fun v18 =>
    if ps_in ((1 + v6)) 83 = true then
    ps_let (ps_rI σ7 335 (upd (σ7.1 335) ((1 + v6)).toNatClampNeg ((v18 - v12)))) fun σ19 =>
    if ps_in ((29 + y1)) 83 = true then
    ps_let (σ19.1 335 ((29 + y1)).toNatClampNeg) fun v20 =>
    if ps_in ((29 + y1)) 83 = true then
    ps_let (ps_rI σ19 335 (upd (σ19.1 335) ((29 + y1)).toNatClampNeg ((v20 + v12)))) fun σ21 =>
    qX9_takesUp_0 y1 n σ21
    else none
    else none
    else none
    else none
    else
    if ps_in ((1 + v6)) 83 = true then
    ps_let (σ7.1 335 ((1 + v6)).toNatClampNeg) fun v26 =>
    if ps_in ((1 + v6)) 83 = true then
    ps_let (ps_rI σ7 335 (upd (σ7.1 335) ((1 + v6)).toNatClampNeg ((v26 - v16)))) fun σ27 =>
    if ps_in ((29 + y1)) 83 = true then
    ps_let (σ27.1 335 ((29 + y1)).toNatClampNeg) fun v28 =>
    if ps_in ((29 + y1)) 83 = true then
    ps_let (ps_rI σ27 335 (upd (σ27.1 335) ((29 + y1)).toNatClampNeg ((v28 + v16)))) fun σ29 =>
    qX9_takesUp_0 y1 n σ29
    else none
    else none
    else none
    else none
    else none
    else
    ps_let (σ7.1 328 15) fun v35 =>
    if v12 ≤ v35 then
    if ps_in ((1 + v6)) 83 = true then
    ps_let (σ7.1 335 ((1 + v6)).toNatClampNeg) fun v37 =>
    if ps_in ((1 + v6)) 83 = true then
    ps_let (ps_rI σ7 335 (upd (σ7.1 335) ((1 + v6)).toNatClampNeg ((v37 - v12)))) fun σ38 =>
    if ps_in ((29 + y1)) 83 = true then
    ps_let (σ38.1 335 ((29 + y1)).toNatClampNeg) fun v39 =>
    if ps_in ((29 + y1)) 83 = true then
    ps_let (ps_rI σ38 335 (upd (σ38.1 335) ((29 + y1)).toNatClampNeg ((v39 + v12)))) fun σ40 =>
    qX9_takesUp_0 y1 n σ40
    else none
    else none
    else none
    else none
    else
    if ps_in ((1 + v6)) 83 = true then
    ps_let (σ7.1 335 ((1 + v6)).toNatClampNeg) fun v45 =>
    if ps_in ((1 + v6)) 83 = true then
    ps_let (ps_rI σ7 335 (upd (σ7.1 335) ((1 + v6)).toNatClampNeg ((v45 - v35)))) fun σ46 =>
    if ps_in ((29 + y1)) 83 = true then
    ps_let (σ46.1 335 ((29 + y1)).toNatClampNeg) fun v47 =>
    if ps_in ((29 + y1)) 83 = true then
    ps_let (ps_rI σ46 335 (upd (σ46.1 335) ((29 + y1)).toNatClampNeg ((v47 + v35)))) fun σ48 =>
    qX9_takesUp_0 y1 n σ48
    else none
    else none
    else none
    else none
    else none
    else none))
    else none
set_option maxRecDepth 100000 in
theorem L_X9_takesUp_0 {g : pm_G} (D : Nat) (hD : 4 ≤ D) {P : Unit → ps_S → Prop}  (y1 : Int32) : ∀ (n : Nat) (σ : ps_S), ps_ok (qX9_takesUp_0 y1 n σ) (fun res σ => match res with | .inl r => P r σ | .inr _ => pm_W g mX9_takesUp (ps_F g D (ps_qV P)) 0 0 157 [some (.ref (g.2.2.1 + 327)), some (.int y1), none, none, none, none] [] 345 (ps_E g σ)) → pm_W g mX9_takesUp (ps_F g D (ps_qV P)) 0 0 0 [some (.ref (g.2.2.1 + 327)), some (.int y1), none, none, none, none] [] 345 (ps_E g σ) := by
  intro n
  induction n with
  | zero => intro σ hK; exact (ps_no hK).elim
  | succ n ih =>
    intro σ hK
    rw [qX9_takesUp_0] at hK
    refine pm_ald d_X9_takesUp_0 rfl ?_
    refine ps_getR (q := 335) d_X9_takesUp_1 at_327 f_8_0_19 rfl ?_
    refine pm_ki d_X9_takesUp_4 ?_
    refine pm_ild d_X9_takesUp_6 rfl ?_
    refine pm_iadd d_X9_takesUp_7 ?_
    obtain ⟨b102, hT⟩ := ps_gd hK
    replace hK := hT
    clear hT
    refine ps_iald d_X9_takesUp_8 at_335 a_8_8 (ps_in_of b102) rfl ?_
    refine ps_topI (fun v1 ev1 => ?_)
    replace hK := ps_ltE ev1 hK
    refine pm_ald d_X9_takesUp_9 rfl ?_
    refine ps_getR (q := 328) d_X9_takesUp_10 at_327 f_8_0_1 rfl ?_
    refine pm_ki d_X9_takesUp_13 ?_
    refine ps_iald (x := σ.1 328 16) d_X9_takesUp_15 at_328 a_8_1 (ps_in_of rfl) rfl ?_
    refine ps_topI (fun v2 ev2 => ?_)
    replace hK := ps_ltE ev2 hK
    refine pm_icmp_ge d_X9_takesUp_16 (fun c3 => ?_) (fun c3 => ?_)
    · replace hK := ps_ifT c3 hK
      exact ps_so hK
    · replace hK := ps_ifF c3 hK
      refine pm_ald d_X9_takesUp_19 rfl ?_
      refine pm_ild d_X9_takesUp_20 rfl ?_
      refine ps_cVI d_X9_takesUp_21 mv_X9_oldOn at_327 ob_8_0 rfl (As := [.int y1]) rfl rfl (ps_room.of (by omega) (by decide)) (Nat.le_of_ble_eq_true rfl) (C_X9_oldOn y1 σ _ (ps_bdE hK)) ?_
      intro v4 σ5 hT
      clear hK
      have hK := hT
      clear hT
      refine pm_ist2 d_X9_takesUp_24 rfl (by decide) ?_
      refine pm_ald d_X9_takesUp_25 rfl ?_
      refine pm_ild d_X9_takesUp_26 rfl ?_
      refine ps_cVI d_X9_takesUp_27 mv_X9_nextOn at_327 ob_8_0 rfl (As := [.int y1]) rfl rfl (ps_room.of (by omega) (by decide)) (Nat.le_of_ble_eq_true rfl) (C_X9_nextOn y1 σ5 _ (ps_bdE hK)) ?_
      intro v6 σ7 hT
      clear hK
      have hK := hT
      clear hT
      refine pm_ist3 d_X9_takesUp_30 rfl (by decide) ?_
      refine pm_ild d_X9_takesUp_31 rfl ?_
      refine pm_ki d_X9_takesUp_32 ?_
      refine pm_icmp_ne d_X9_takesUp_33 (fun c8 => ?_) (fun c8 => ?_)
      · replace hK := ps_ifF c8 hK
        refine pm_ild d_X9_takesUp_37 rfl ?_
        refine pm_ki d_X9_takesUp_38 ?_
        refine pm_icmp_ne d_X9_takesUp_39 (fun c9 => ?_) (fun c9 => ?_)
        · replace hK := ps_ifF c9 hK
          refine pm_ald d_X9_takesUp_54 rfl ?_
          refine ps_getR (q := 328) d_X9_takesUp_55 at_327 f_8_0_1 rfl ?_
          refine pm_ki d_X9_takesUp_58 ?_
          refine ps_iald (x := σ7.1 328 16) d_X9_takesUp_60 at_328 a_8_1 (ps_in_of rfl) rfl ?_
          refine ps_topI (fun v10 ev10 => ?_)
          replace hK := ps_ltE ev10 hK
          refine pm_ald d_X9_takesUp_61 rfl ?_
          refine ps_getR (q := 335) d_X9_takesUp_62 at_327 f_8_0_19 rfl ?_
          refine pm_ki d_X9_takesUp_65 ?_
          refine pm_ild d_X9_takesUp_67 rfl ?_
          refine pm_iadd d_X9_takesUp_68 ?_
          obtain ⟨b54, hT⟩ := ps_gd hK
          replace hK := hT
          clear hT
          refine ps_iald d_X9_takesUp_69 at_335 a_8_8 (ps_in_of b54) rfl ?_
          refine ps_topI (fun v11 ev11 => ?_)
          replace hK := ps_ltE ev11 hK
          refine pm_isub d_X9_takesUp_70 ?_
          refine ps_topI (fun v12 ev12 => ?_)
          replace hK := ps_ltE ev12 hK
          refine pm_ist4 d_X9_takesUp_71 rfl (by decide) ?_
          refine pm_ald d_X9_takesUp_73 rfl ?_
          refine ps_getR (q := 328) d_X9_takesUp_74 at_327 f_8_0_1 rfl ?_
          refine pm_ki d_X9_takesUp_77 ?_
          refine ps_iald (x := σ7.1 328 15) d_X9_takesUp_79 at_328 a_8_1 (ps_in_of rfl) rfl ?_
          refine ps_topI (fun v13 ev13 => ?_)
          replace hK := ps_ltE ev13 hK
          refine pm_ald d_X9_takesUp_80 rfl ?_
          refine ps_getR (q := 335) d_X9_takesUp_81 at_327 f_8_0_19 rfl ?_
          refine pm_ki d_X9_takesUp_84 ?_
          refine pm_ild d_X9_takesUp_85 rfl ?_
          refine pm_iadd d_X9_takesUp_86 ?_
          obtain ⟨b53, hT⟩ := ps_gd hK
          replace hK := hT
          clear hT
          refine ps_iald d_X9_takesUp_87 at_335 a_8_8 (ps_in_of b53) rfl ?_
          refine ps_topI (fun v14 ev14 => ?_)
          replace hK := ps_ltE ev14 hK
          refine pm_icmp_ge d_X9_takesUp_88 (fun c15 => ?_) (fun c15 => ?_)
          · replace hK := ps_ifT c15 hK
            refine pm_ald d_X9_takesUp_101 rfl ?_
            refine ps_getR (q := 335) d_X9_takesUp_102 at_327 f_8_0_19 rfl ?_
            refine pm_ki d_X9_takesUp_105 ?_
            refine pm_ild d_X9_takesUp_106 rfl ?_
            refine pm_iadd d_X9_takesUp_107 ?_
            obtain ⟨b34, hT⟩ := ps_gd hK
            replace hK := hT
            clear hT
            refine ps_iald d_X9_takesUp_108 at_335 a_8_8 (ps_in_of b34) rfl ?_
            refine ps_topI (fun v16 ev16 => ?_)
            replace hK := ps_ltE ev16 hK
            refine pm_ist5 d_X9_takesUp_109 rfl (by decide) ?_
            refine pm_ild d_X9_takesUp_111 rfl ?_
            refine pm_ild d_X9_takesUp_113 rfl ?_
            refine pm_icmp_ge d_X9_takesUp_115 (fun c17 => ?_) (fun c17 => ?_)
            · replace hK := ps_ifT c17 hK
              refine pm_ild d_X9_takesUp_123 rfl ?_
              refine pm_ist5 d_X9_takesUp_125 rfl (by decide) ?_
              refine pm_ald d_X9_takesUp_127 rfl ?_
              refine ps_getR (q := 335) d_X9_takesUp_128 at_327 f_8_0_19 rfl ?_
              refine pm_ki d_X9_takesUp_131 ?_
              refine pm_ild d_X9_takesUp_132 rfl ?_
              refine pm_iadd d_X9_takesUp_133 ?_
              refine pm_dup2 d_X9_takesUp_134 rfl rfl ?_
              obtain ⟨b25, hT⟩ := ps_gd hK
              replace hK := hT
              clear hT
              refine ps_iald d_X9_takesUp_135 at_335 a_8_8 (ps_in_of b25) rfl ?_
              refine ps_topI (fun v18 ev18 => ?_)
              replace hK := ps_ltE ev18 hK
              refine pm_ild d_X9_takesUp_136 rfl ?_
              refine pm_isub d_X9_takesUp_138 ?_
              obtain ⟨b24, hT⟩ := ps_gd hK
              replace hK := hT
              clear hT
              refine ps_iast d_X9_takesUp_139 at_335 a_8_8 (ps_in_of b24) ?_
              refine ps_nmS (fun σ19 eσ19 => ?_)
              replace hK := ps_ltE eσ19 hK
              refine pm_ald d_X9_takesUp_140 rfl ?_
              refine ps_getR (q := 335) d_X9_takesUp_141 at_327 f_8_0_19 rfl ?_
              refine pm_ki d_X9_takesUp_144 ?_
              refine pm_ild d_X9_takesUp_146 rfl ?_
              refine pm_iadd d_X9_takesUp_147 ?_
              refine pm_dup2 d_X9_takesUp_148 rfl rfl ?_
              obtain ⟨b23, hT⟩ := ps_gd hK
              replace hK := hT
              clear hT
              refine ps_iald d_X9_takesUp_149 at_335 a_8_8 (ps_in_of b23) rfl ?_
              refine ps_topI (fun v20 ev20 => ?_)
              replace hK := ps_ltE ev20 hK
              refine pm_ild d_X9_takesUp_150 rfl ?_
              refine pm_iadd d_X9_takesUp_152 ?_
              obtain ⟨b22, hT⟩ := ps_gd hK
              replace hK := hT
              clear hT
              refine ps_iast d_X9_takesUp_153 at_335 a_8_8 (ps_in_of b22) ?_
              refine ps_nmS (fun σ21 eσ21 => ?_)
              replace hK := ps_ltE eσ21 hK
              refine pm_goto d_X9_takesUp_154 ?_
              refine pm_wk (ls' := [some (.ref (g.2.2.1 + 327)), some (.int y1), none, none, none, none]) ⟨rfl, ⟨rfl, trivial⟩⟩ ?_
              exact ih _ hK
            · replace hK := ps_ifF c17 hK
              refine pm_ild d_X9_takesUp_118 rfl ?_
              refine pm_goto d_X9_takesUp_120 ?_
              refine pm_ist5 d_X9_takesUp_125 rfl (by decide) ?_
              refine pm_ald d_X9_takesUp_127 rfl ?_
              refine ps_getR (q := 335) d_X9_takesUp_128 at_327 f_8_0_19 rfl ?_
              refine pm_ki d_X9_takesUp_131 ?_
              refine pm_ild d_X9_takesUp_132 rfl ?_
              refine pm_iadd d_X9_takesUp_133 ?_
              refine pm_dup2 d_X9_takesUp_134 rfl rfl ?_
              obtain ⟨b33, hT⟩ := ps_gd hK
              replace hK := hT
              clear hT
              refine ps_iald d_X9_takesUp_135 at_335 a_8_8 (ps_in_of b33) rfl ?_
              refine ps_topI (fun v26 ev26 => ?_)
              replace hK := ps_ltE ev26 hK
              refine pm_ild d_X9_takesUp_136 rfl ?_
              refine pm_isub d_X9_takesUp_138 ?_
              obtain ⟨b32, hT⟩ := ps_gd hK
              replace hK := hT
              clear hT
              refine ps_iast d_X9_takesUp_139 at_335 a_8_8 (ps_in_of b32) ?_
              refine ps_nmS (fun σ27 eσ27 => ?_)
              replace hK := ps_ltE eσ27 hK
              refine pm_ald d_X9_takesUp_140 rfl ?_
              refine ps_getR (q := 335) d_X9_takesUp_141 at_327 f_8_0_19 rfl ?_
              refine pm_ki d_X9_takesUp_144 ?_
              refine pm_ild d_X9_takesUp_146 rfl ?_
              refine pm_iadd d_X9_takesUp_147 ?_
              refine pm_dup2 d_X9_takesUp_148 rfl rfl ?_
              obtain ⟨b31, hT⟩ := ps_gd hK
              replace hK := hT
              clear hT
              refine ps_iald d_X9_takesUp_149 at_335 a_8_8 (ps_in_of b31) rfl ?_
              refine ps_topI (fun v28 ev28 => ?_)
              replace hK := ps_ltE ev28 hK
              refine pm_ild d_X9_takesUp_150 rfl ?_
              refine pm_iadd d_X9_takesUp_152 ?_
              obtain ⟨b30, hT⟩ := ps_gd hK
              replace hK := hT
              clear hT
              refine ps_iast d_X9_takesUp_153 at_335 a_8_8 (ps_in_of b30) ?_
              refine ps_nmS (fun σ29 eσ29 => ?_)
              replace hK := ps_ltE eσ29 hK
              refine pm_goto d_X9_takesUp_154 ?_
              refine pm_wk (ls' := [some (.ref (g.2.2.1 + 327)), some (.int y1), none, none, none, none]) ⟨rfl, ⟨rfl, trivial⟩⟩ ?_
              exact ih _ hK
          · replace hK := ps_ifF c15 hK
            refine pm_ald d_X9_takesUp_91 rfl ?_
            refine ps_getR (q := 328) d_X9_takesUp_92 at_327 f_8_0_1 rfl ?_
            refine pm_ki d_X9_takesUp_95 ?_
            refine ps_iald (x := σ7.1 328 15) d_X9_takesUp_97 at_328 a_8_1 (ps_in_of rfl) rfl ?_
            refine ps_topI (fun v35 ev35 => ?_)
            replace hK := ps_ltE ev35 hK
            refine pm_goto d_X9_takesUp_98 ?_
            refine pm_ist5 d_X9_takesUp_109 rfl (by decide) ?_
            refine pm_ild d_X9_takesUp_111 rfl ?_
            refine pm_ild d_X9_takesUp_113 rfl ?_
            refine pm_icmp_ge d_X9_takesUp_115 (fun c36 => ?_) (fun c36 => ?_)
            · replace hK := ps_ifT c36 hK
              refine pm_ild d_X9_takesUp_123 rfl ?_
              refine pm_ist5 d_X9_takesUp_125 rfl (by decide) ?_
              refine pm_ald d_X9_takesUp_127 rfl ?_
              refine ps_getR (q := 335) d_X9_takesUp_128 at_327 f_8_0_19 rfl ?_
              refine pm_ki d_X9_takesUp_131 ?_
              refine pm_ild d_X9_takesUp_132 rfl ?_
              refine pm_iadd d_X9_takesUp_133 ?_
              refine pm_dup2 d_X9_takesUp_134 rfl rfl ?_
              obtain ⟨b44, hT⟩ := ps_gd hK
              replace hK := hT
              clear hT
              refine ps_iald d_X9_takesUp_135 at_335 a_8_8 (ps_in_of b44) rfl ?_
              refine ps_topI (fun v37 ev37 => ?_)
              replace hK := ps_ltE ev37 hK
              refine pm_ild d_X9_takesUp_136 rfl ?_
              refine pm_isub d_X9_takesUp_138 ?_
              obtain ⟨b43, hT⟩ := ps_gd hK
              replace hK := hT
              clear hT
              refine ps_iast d_X9_takesUp_139 at_335 a_8_8 (ps_in_of b43) ?_
              refine ps_nmS (fun σ38 eσ38 => ?_)
              replace hK := ps_ltE eσ38 hK
              refine pm_ald d_X9_takesUp_140 rfl ?_
              refine ps_getR (q := 335) d_X9_takesUp_141 at_327 f_8_0_19 rfl ?_
              refine pm_ki d_X9_takesUp_144 ?_
              refine pm_ild d_X9_takesUp_146 rfl ?_
              refine pm_iadd d_X9_takesUp_147 ?_
              refine pm_dup2 d_X9_takesUp_148 rfl rfl ?_
              obtain ⟨b42, hT⟩ := ps_gd hK
              replace hK := hT
              clear hT
              refine ps_iald d_X9_takesUp_149 at_335 a_8_8 (ps_in_of b42) rfl ?_
              refine ps_topI (fun v39 ev39 => ?_)
              replace hK := ps_ltE ev39 hK
              refine pm_ild d_X9_takesUp_150 rfl ?_
              refine pm_iadd d_X9_takesUp_152 ?_
              obtain ⟨b41, hT⟩ := ps_gd hK
              replace hK := hT
              clear hT
              refine ps_iast d_X9_takesUp_153 at_335 a_8_8 (ps_in_of b41) ?_
              refine ps_nmS (fun σ40 eσ40 => ?_)
              replace hK := ps_ltE eσ40 hK
              refine pm_goto d_X9_takesUp_154 ?_
              refine pm_wk (ls' := [some (.ref (g.2.2.1 + 327)), some (.int y1), none, none, none, none]) ⟨rfl, ⟨rfl, trivial⟩⟩ ?_
              exact ih _ hK
            · replace hK := ps_ifF c36 hK
              refine pm_ild d_X9_takesUp_118 rfl ?_
              refine pm_goto d_X9_takesUp_120 ?_
              refine pm_ist5 d_X9_takesUp_125 rfl (by decide) ?_
              refine pm_ald d_X9_takesUp_127 rfl ?_
              refine ps_getR (q := 335) d_X9_takesUp_128 at_327 f_8_0_19 rfl ?_
              refine pm_ki d_X9_takesUp_131 ?_
              refine pm_ild d_X9_takesUp_132 rfl ?_
              refine pm_iadd d_X9_takesUp_133 ?_
              refine pm_dup2 d_X9_takesUp_134 rfl rfl ?_
              obtain ⟨b52, hT⟩ := ps_gd hK
              replace hK := hT
              clear hT
              refine ps_iald d_X9_takesUp_135 at_335 a_8_8 (ps_in_of b52) rfl ?_
              refine ps_topI (fun v45 ev45 => ?_)
              replace hK := ps_ltE ev45 hK
              refine pm_ild d_X9_takesUp_136 rfl ?_
              refine pm_isub d_X9_takesUp_138 ?_
              obtain ⟨b51, hT⟩ := ps_gd hK
              replace hK := hT
              clear hT
              refine ps_iast d_X9_takesUp_139 at_335 a_8_8 (ps_in_of b51) ?_
              refine ps_nmS (fun σ46 eσ46 => ?_)
              replace hK := ps_ltE eσ46 hK
              refine pm_ald d_X9_takesUp_140 rfl ?_
              refine ps_getR (q := 335) d_X9_takesUp_141 at_327 f_8_0_19 rfl ?_
              refine pm_ki d_X9_takesUp_144 ?_
              refine pm_ild d_X9_takesUp_146 rfl ?_
              refine pm_iadd d_X9_takesUp_147 ?_
              refine pm_dup2 d_X9_takesUp_148 rfl rfl ?_
              obtain ⟨b50, hT⟩ := ps_gd hK
              replace hK := hT
              clear hT
              refine ps_iald d_X9_takesUp_149 at_335 a_8_8 (ps_in_of b50) rfl ?_
              refine ps_topI (fun v47 ev47 => ?_)
              replace hK := ps_ltE ev47 hK
              refine pm_ild d_X9_takesUp_150 rfl ?_
              refine pm_iadd d_X9_takesUp_152 ?_
              obtain ⟨b49, hT⟩ := ps_gd hK
              replace hK := hT
              clear hT
              refine ps_iast d_X9_takesUp_153 at_335 a_8_8 (ps_in_of b49) ?_
              refine ps_nmS (fun σ48 eσ48 => ?_)
              replace hK := ps_ltE eσ48 hK
              refine pm_goto d_X9_takesUp_154 ?_
              refine pm_wk (ls' := [some (.ref (g.2.2.1 + 327)), some (.int y1), none, none, none, none]) ⟨rfl, ⟨rfl, trivial⟩⟩ ?_
              exact ih _ hK
        · replace hK := ps_ifT c9 hK
          refine pm_ald d_X9_takesUp_42 rfl ?_
          refine ps_getR (q := 335) d_X9_takesUp_43 at_327 f_8_0_19 rfl ?_
          refine pm_ki d_X9_takesUp_46 ?_
          refine pm_ild d_X9_takesUp_48 rfl ?_
          refine pm_iadd d_X9_takesUp_49 ?_
          refine pm_ild d_X9_takesUp_50 rfl ?_
          refine pm_ki d_X9_takesUp_51 ?_
          refine pm_iadd d_X9_takesUp_52 ?_
          obtain ⟨b101, hT⟩ := ps_gd hK
          replace hK := hT
          clear hT
          refine ps_iast d_X9_takesUp_53 at_335 a_8_8 (ps_in_of b101) ?_
          refine ps_nmS (fun σ55 eσ55 => ?_)
          replace hK := ps_ltE eσ55 hK
          refine pm_ald d_X9_takesUp_54 rfl ?_
          refine ps_getR (q := 328) d_X9_takesUp_55 at_327 f_8_0_1 rfl ?_
          refine pm_ki d_X9_takesUp_58 ?_
          refine ps_iald (x := σ55.1 328 16) d_X9_takesUp_60 at_328 a_8_1 (ps_in_of rfl) rfl ?_
          refine ps_topI (fun v56 ev56 => ?_)
          replace hK := ps_ltE ev56 hK
          refine pm_ald d_X9_takesUp_61 rfl ?_
          refine ps_getR (q := 335) d_X9_takesUp_62 at_327 f_8_0_19 rfl ?_
          refine pm_ki d_X9_takesUp_65 ?_
          refine pm_ild d_X9_takesUp_67 rfl ?_
          refine pm_iadd d_X9_takesUp_68 ?_
          obtain ⟨b100, hT⟩ := ps_gd hK
          replace hK := hT
          clear hT
          refine ps_iald d_X9_takesUp_69 at_335 a_8_8 (ps_in_of b100) rfl ?_
          refine ps_topI (fun v57 ev57 => ?_)
          replace hK := ps_ltE ev57 hK
          refine pm_isub d_X9_takesUp_70 ?_
          refine ps_topI (fun v58 ev58 => ?_)
          replace hK := ps_ltE ev58 hK
          refine pm_ist4 d_X9_takesUp_71 rfl (by decide) ?_
          refine pm_ald d_X9_takesUp_73 rfl ?_
          refine ps_getR (q := 328) d_X9_takesUp_74 at_327 f_8_0_1 rfl ?_
          refine pm_ki d_X9_takesUp_77 ?_
          refine ps_iald (x := σ55.1 328 15) d_X9_takesUp_79 at_328 a_8_1 (ps_in_of rfl) rfl ?_
          refine ps_topI (fun v59 ev59 => ?_)
          replace hK := ps_ltE ev59 hK
          refine pm_ald d_X9_takesUp_80 rfl ?_
          refine ps_getR (q := 335) d_X9_takesUp_81 at_327 f_8_0_19 rfl ?_
          refine pm_ki d_X9_takesUp_84 ?_
          refine pm_ild d_X9_takesUp_85 rfl ?_
          refine pm_iadd d_X9_takesUp_86 ?_
          obtain ⟨b99, hT⟩ := ps_gd hK
          replace hK := hT
          clear hT
          refine ps_iald d_X9_takesUp_87 at_335 a_8_8 (ps_in_of b99) rfl ?_
          refine ps_topI (fun v60 ev60 => ?_)
          replace hK := ps_ltE ev60 hK
          refine pm_icmp_ge d_X9_takesUp_88 (fun c61 => ?_) (fun c61 => ?_)
          · replace hK := ps_ifT c61 hK
            refine pm_ald d_X9_takesUp_101 rfl ?_
            refine ps_getR (q := 335) d_X9_takesUp_102 at_327 f_8_0_19 rfl ?_
            refine pm_ki d_X9_takesUp_105 ?_
            refine pm_ild d_X9_takesUp_106 rfl ?_
            refine pm_iadd d_X9_takesUp_107 ?_
            obtain ⟨b80, hT⟩ := ps_gd hK
            replace hK := hT
            clear hT
            refine ps_iald d_X9_takesUp_108 at_335 a_8_8 (ps_in_of b80) rfl ?_
            refine ps_topI (fun v62 ev62 => ?_)
            replace hK := ps_ltE ev62 hK
            refine pm_ist5 d_X9_takesUp_109 rfl (by decide) ?_
            refine pm_ild d_X9_takesUp_111 rfl ?_
            refine pm_ild d_X9_takesUp_113 rfl ?_
            refine pm_icmp_ge d_X9_takesUp_115 (fun c63 => ?_) (fun c63 => ?_)
            · replace hK := ps_ifT c63 hK
              refine pm_ild d_X9_takesUp_123 rfl ?_
              refine pm_ist5 d_X9_takesUp_125 rfl (by decide) ?_
              refine pm_ald d_X9_takesUp_127 rfl ?_
              refine ps_getR (q := 335) d_X9_takesUp_128 at_327 f_8_0_19 rfl ?_
              refine pm_ki d_X9_takesUp_131 ?_
              refine pm_ild d_X9_takesUp_132 rfl ?_
              refine pm_iadd d_X9_takesUp_133 ?_
              refine pm_dup2 d_X9_takesUp_134 rfl rfl ?_
              obtain ⟨b71, hT⟩ := ps_gd hK
              replace hK := hT
              clear hT
              refine ps_iald d_X9_takesUp_135 at_335 a_8_8 (ps_in_of b71) rfl ?_
              refine ps_topI (fun v64 ev64 => ?_)
              replace hK := ps_ltE ev64 hK
              refine pm_ild d_X9_takesUp_136 rfl ?_
              refine pm_isub d_X9_takesUp_138 ?_
              obtain ⟨b70, hT⟩ := ps_gd hK
              replace hK := hT
              clear hT
              refine ps_iast d_X9_takesUp_139 at_335 a_8_8 (ps_in_of b70) ?_
              refine ps_nmS (fun σ65 eσ65 => ?_)
              replace hK := ps_ltE eσ65 hK
              refine pm_ald d_X9_takesUp_140 rfl ?_
              refine ps_getR (q := 335) d_X9_takesUp_141 at_327 f_8_0_19 rfl ?_
              refine pm_ki d_X9_takesUp_144 ?_
              refine pm_ild d_X9_takesUp_146 rfl ?_
              refine pm_iadd d_X9_takesUp_147 ?_
              refine pm_dup2 d_X9_takesUp_148 rfl rfl ?_
              obtain ⟨b69, hT⟩ := ps_gd hK
              replace hK := hT
              clear hT
              refine ps_iald d_X9_takesUp_149 at_335 a_8_8 (ps_in_of b69) rfl ?_
              refine ps_topI (fun v66 ev66 => ?_)
              replace hK := ps_ltE ev66 hK
              refine pm_ild d_X9_takesUp_150 rfl ?_
              refine pm_iadd d_X9_takesUp_152 ?_
              obtain ⟨b68, hT⟩ := ps_gd hK
              replace hK := hT
              clear hT
              refine ps_iast d_X9_takesUp_153 at_335 a_8_8 (ps_in_of b68) ?_
              refine ps_nmS (fun σ67 eσ67 => ?_)
              replace hK := ps_ltE eσ67 hK
              refine pm_goto d_X9_takesUp_154 ?_
              refine pm_wk (ls' := [some (.ref (g.2.2.1 + 327)), some (.int y1), none, none, none, none]) ⟨rfl, ⟨rfl, trivial⟩⟩ ?_
              exact ih _ hK
            · replace hK := ps_ifF c63 hK
              refine pm_ild d_X9_takesUp_118 rfl ?_
              refine pm_goto d_X9_takesUp_120 ?_
              refine pm_ist5 d_X9_takesUp_125 rfl (by decide) ?_
              refine pm_ald d_X9_takesUp_127 rfl ?_
              refine ps_getR (q := 335) d_X9_takesUp_128 at_327 f_8_0_19 rfl ?_
              refine pm_ki d_X9_takesUp_131 ?_
              refine pm_ild d_X9_takesUp_132 rfl ?_
              refine pm_iadd d_X9_takesUp_133 ?_
              refine pm_dup2 d_X9_takesUp_134 rfl rfl ?_
              obtain ⟨b79, hT⟩ := ps_gd hK
              replace hK := hT
              clear hT
              refine ps_iald d_X9_takesUp_135 at_335 a_8_8 (ps_in_of b79) rfl ?_
              refine ps_topI (fun v72 ev72 => ?_)
              replace hK := ps_ltE ev72 hK
              refine pm_ild d_X9_takesUp_136 rfl ?_
              refine pm_isub d_X9_takesUp_138 ?_
              obtain ⟨b78, hT⟩ := ps_gd hK
              replace hK := hT
              clear hT
              refine ps_iast d_X9_takesUp_139 at_335 a_8_8 (ps_in_of b78) ?_
              refine ps_nmS (fun σ73 eσ73 => ?_)
              replace hK := ps_ltE eσ73 hK
              refine pm_ald d_X9_takesUp_140 rfl ?_
              refine ps_getR (q := 335) d_X9_takesUp_141 at_327 f_8_0_19 rfl ?_
              refine pm_ki d_X9_takesUp_144 ?_
              refine pm_ild d_X9_takesUp_146 rfl ?_
              refine pm_iadd d_X9_takesUp_147 ?_
              refine pm_dup2 d_X9_takesUp_148 rfl rfl ?_
              obtain ⟨b77, hT⟩ := ps_gd hK
              replace hK := hT
              clear hT
              refine ps_iald d_X9_takesUp_149 at_335 a_8_8 (ps_in_of b77) rfl ?_
              refine ps_topI (fun v74 ev74 => ?_)
              replace hK := ps_ltE ev74 hK
              refine pm_ild d_X9_takesUp_150 rfl ?_
              refine pm_iadd d_X9_takesUp_152 ?_
              obtain ⟨b76, hT⟩ := ps_gd hK
              replace hK := hT
              clear hT
              refine ps_iast d_X9_takesUp_153 at_335 a_8_8 (ps_in_of b76) ?_
              refine ps_nmS (fun σ75 eσ75 => ?_)
              replace hK := ps_ltE eσ75 hK
              refine pm_goto d_X9_takesUp_154 ?_
              refine pm_wk (ls' := [some (.ref (g.2.2.1 + 327)), some (.int y1), none, none, none, none]) ⟨rfl, ⟨rfl, trivial⟩⟩ ?_
              exact ih _ hK
          · replace hK := ps_ifF c61 hK
            refine pm_ald d_X9_takesUp_91 rfl ?_
            refine ps_getR (q := 328) d_X9_takesUp_92 at_327 f_8_0_1 rfl ?_
            refine pm_ki d_X9_takesUp_95 ?_
            refine ps_iald (x := σ55.1 328 15) d_X9_takesUp_97 at_328 a_8_1 (ps_in_of rfl) rfl ?_
            refine ps_topI (fun v81 ev81 => ?_)
            replace hK := ps_ltE ev81 hK
            refine pm_goto d_X9_takesUp_98 ?_
            refine pm_ist5 d_X9_takesUp_109 rfl (by decide) ?_
            refine pm_ild d_X9_takesUp_111 rfl ?_
            refine pm_ild d_X9_takesUp_113 rfl ?_
            refine pm_icmp_ge d_X9_takesUp_115 (fun c82 => ?_) (fun c82 => ?_)
            · replace hK := ps_ifT c82 hK
              refine pm_ild d_X9_takesUp_123 rfl ?_
              refine pm_ist5 d_X9_takesUp_125 rfl (by decide) ?_
              refine pm_ald d_X9_takesUp_127 rfl ?_
              refine ps_getR (q := 335) d_X9_takesUp_128 at_327 f_8_0_19 rfl ?_
              refine pm_ki d_X9_takesUp_131 ?_
              refine pm_ild d_X9_takesUp_132 rfl ?_
              refine pm_iadd d_X9_takesUp_133 ?_
              refine pm_dup2 d_X9_takesUp_134 rfl rfl ?_
              obtain ⟨b90, hT⟩ := ps_gd hK
              replace hK := hT
              clear hT
              refine ps_iald d_X9_takesUp_135 at_335 a_8_8 (ps_in_of b90) rfl ?_
              refine ps_topI (fun v83 ev83 => ?_)
              replace hK := ps_ltE ev83 hK
              refine pm_ild d_X9_takesUp_136 rfl ?_
              refine pm_isub d_X9_takesUp_138 ?_
              obtain ⟨b89, hT⟩ := ps_gd hK
              replace hK := hT
              clear hT
              refine ps_iast d_X9_takesUp_139 at_335 a_8_8 (ps_in_of b89) ?_
              refine ps_nmS (fun σ84 eσ84 => ?_)
              replace hK := ps_ltE eσ84 hK
              refine pm_ald d_X9_takesUp_140 rfl ?_
              refine ps_getR (q := 335) d_X9_takesUp_141 at_327 f_8_0_19 rfl ?_
              refine pm_ki d_X9_takesUp_144 ?_
              refine pm_ild d_X9_takesUp_146 rfl ?_
              refine pm_iadd d_X9_takesUp_147 ?_
              refine pm_dup2 d_X9_takesUp_148 rfl rfl ?_
              obtain ⟨b88, hT⟩ := ps_gd hK
              replace hK := hT
              clear hT
              refine ps_iald d_X9_takesUp_149 at_335 a_8_8 (ps_in_of b88) rfl ?_
              refine ps_topI (fun v85 ev85 => ?_)
              replace hK := ps_ltE ev85 hK
              refine pm_ild d_X9_takesUp_150 rfl ?_
              refine pm_iadd d_X9_takesUp_152 ?_
              obtain ⟨b87, hT⟩ := ps_gd hK
              replace hK := hT
              clear hT
              refine ps_iast d_X9_takesUp_153 at_335 a_8_8 (ps_in_of b87) ?_
              refine ps_nmS (fun σ86 eσ86 => ?_)
              replace hK := ps_ltE eσ86 hK
              refine pm_goto d_X9_takesUp_154 ?_
              refine pm_wk (ls' := [some (.ref (g.2.2.1 + 327)), some (.int y1), none, none, none, none]) ⟨rfl, ⟨rfl, trivial⟩⟩ ?_
              exact ih _ hK
            · replace hK := ps_ifF c82 hK
              refine pm_ild d_X9_takesUp_118 rfl ?_
              refine pm_goto d_X9_takesUp_120 ?_
              refine pm_ist5 d_X9_takesUp_125 rfl (by decide) ?_
              refine pm_ald d_X9_takesUp_127 rfl ?_
              refine ps_getR (q := 335) d_X9_takesUp_128 at_327 f_8_0_19 rfl ?_
              refine pm_ki d_X9_takesUp_131 ?_
              refine pm_ild d_X9_takesUp_132 rfl ?_
              refine pm_iadd d_X9_takesUp_133 ?_
              refine pm_dup2 d_X9_takesUp_134 rfl rfl ?_
              obtain ⟨b98, hT⟩ := ps_gd hK
              replace hK := hT
              clear hT
              refine ps_iald d_X9_takesUp_135 at_335 a_8_8 (ps_in_of b98) rfl ?_
              refine ps_topI (fun v91 ev91 => ?_)
              replace hK := ps_ltE ev91 hK
              refine pm_ild d_X9_takesUp_136 rfl ?_
              refine pm_isub d_X9_takesUp_138 ?_
              obtain ⟨b97, hT⟩ := ps_gd hK
              replace hK := hT
              clear hT
              refine ps_iast d_X9_takesUp_139 at_335 a_8_8 (ps_in_of b97) ?_
              refine ps_nmS (fun σ92 eσ92 => ?_)
              replace hK := ps_ltE eσ92 hK
              refine pm_ald d_X9_takesUp_140 rfl ?_
              refine ps_getR (q := 335) d_X9_takesUp_141 at_327 f_8_0_19 rfl ?_
              refine pm_ki d_X9_takesUp_144 ?_
              refine pm_ild d_X9_takesUp_146 rfl ?_
              refine pm_iadd d_X9_takesUp_147 ?_
              refine pm_dup2 d_X9_takesUp_148 rfl rfl ?_
              obtain ⟨b96, hT⟩ := ps_gd hK
              replace hK := hT
              clear hT
              refine ps_iald d_X9_takesUp_149 at_335 a_8_8 (ps_in_of b96) rfl ?_
              refine ps_topI (fun v93 ev93 => ?_)
              replace hK := ps_ltE ev93 hK
              refine pm_ild d_X9_takesUp_150 rfl ?_
              refine pm_iadd d_X9_takesUp_152 ?_
              obtain ⟨b95, hT⟩ := ps_gd hK
              replace hK := hT
              clear hT
              refine ps_iast d_X9_takesUp_153 at_335 a_8_8 (ps_in_of b95) ?_
              refine ps_nmS (fun σ94 eσ94 => ?_)
              replace hK := ps_ltE eσ94 hK
              refine pm_goto d_X9_takesUp_154 ?_
              refine pm_wk (ls' := [some (.ref (g.2.2.1 + 327)), some (.int y1), none, none, none, none]) ⟨rfl, ⟨rfl, trivial⟩⟩ ?_
              exact ih _ hK
      · replace hK := ps_ifT c8 hK
        have hQ := ps_so hK
        exact ps_vret rfl d_X9_takesUp_36 ⟨rfl, hQ⟩
def qX9_takesUp (p1 : Int32) (σ : ps_S) : Option (Unit × ps_S) :=
  ps_bd (qX9_takesUp_0 p1 ps_N σ) (fun res σ103 => match res with
  | .inl r => some (r, σ103)
  | .inr _ =>
    some ((), σ103))
set_option maxRecDepth 100000 in
theorem C_X9_takesUp {g : pm_G} (p1 : Int32) (σ : ps_S) (P : Unit → ps_S → Prop) (hK : ps_ok (qX9_takesUp p1 σ) P) : ps_C g mX9_takesUp 4 [.ref (g.2.2.1 + 327), .int p1] σ (ps_qV P) := by
  unfold qX9_takesUp at hK
  refine ps_C.of (ls := [some (.ref (g.2.2.1 + 327)), some (.int p1), none, none, none, none]) 4 (by decide) rfl (Nat.le_of_ble_eq_true rfl) rfl ?_
  refine L_X9_takesUp_0 _ (by decide) p1 _ _ (ps_ok.mono (ps_bdE hK) ?_)
  intro res σ103 hT
  clear hK
  match res, hT with
  | .inl r, hT => exact ps_so hT
  | .inr _, hT =>
    have hK := hT
    clear hT
    have hQ := ps_so hK
    exact ps_vret rfl d_X9_takesUp_157 ⟨rfl, hQ⟩
def qX9_freeNow  (σ : ps_S) : Option (Int32 × ps_S) :=
  ps_let (σ.1 328 11) fun v1 =>
  ps_let (σ.1 327 21) fun v2 =>
  some ((((v1 + v2)) / 2), σ)
set_option maxRecDepth 100000 in
theorem C_X9_freeNow {g : pm_G}  (σ : ps_S) (P : Int32 → ps_S → Prop) (hK : ps_ok (qX9_freeNow  σ) P) : ps_C g mX9_freeNow 1 [.ref (g.2.2.1 + 327)] σ (ps_qI P) := by
  unfold qX9_freeNow at hK
  refine ps_C.of (ls := [some (.ref (g.2.2.1 + 327))]) 0 (by decide) rfl (Nat.le_of_ble_eq_true rfl) rfl ?_
  refine pm_ald d_X9_freeNow_0 rfl ?_
  refine ps_getR (q := 328) d_X9_freeNow_1 at_327 f_8_0_1 rfl ?_
  refine pm_ki d_X9_freeNow_4 ?_
  refine ps_iald (x := σ.1 328 11) d_X9_freeNow_6 at_328 a_8_1 (ps_in_of rfl) rfl ?_
  refine ps_topI (fun v1 ev1 => ?_)
  replace hK := ps_ltE ev1 hK
  refine pm_ald d_X9_freeNow_7 rfl ?_
  refine ps_getI d_X9_freeNow_8 at_327 f_8_0_21 rfl ?_
  refine ps_topI (fun v2 ev2 => ?_)
  replace hK := ps_ltE ev2 hK
  refine pm_iadd d_X9_freeNow_11 ?_
  refine pm_ki d_X9_freeNow_12 ?_
  refine pm_idiv d_X9_freeNow_13 (by decide) ?_
  have hQ := ps_so hK
  exact ps_iret rfl d_X9_freeNow_14 ⟨_, rfl, hQ⟩
def qX9_deviceOf (p1 : Int32) (σ : ps_S) : Option (Int32 × ps_S) :=
  if ps_in ((29 + p1)) 5550 = true then
  ps_let (σ.1 328 ((29 + p1)).toNatClampNeg) fun v1 =>
  if ps_in ((17 + v1)) 5550 = true then
  ps_let (σ.1 328 ((17 + v1)).toNatClampNeg) fun v2 =>
  some (v2, σ)
  else none
  else none
set_option maxRecDepth 100000 in
theorem C_X9_deviceOf {g : pm_G} (p1 : Int32) (σ : ps_S) (P : Int32 → ps_S → Prop) (hK : ps_ok (qX9_deviceOf p1 σ) P) : ps_C g mX9_deviceOf 1 [.ref (g.2.2.1 + 327), .int p1] σ (ps_qI P) := by
  unfold qX9_deviceOf at hK
  refine ps_C.of (ls := [some (.ref (g.2.2.1 + 327)), some (.int p1)]) 0 (by decide) rfl (Nat.le_of_ble_eq_true rfl) rfl ?_
  refine pm_ald d_X9_deviceOf_0 rfl ?_
  refine ps_getR (q := 328) d_X9_deviceOf_1 at_327 f_8_0_1 rfl ?_
  refine pm_ki d_X9_deviceOf_4 ?_
  refine pm_ald d_X9_deviceOf_6 rfl ?_
  refine ps_getR (q := 328) d_X9_deviceOf_7 at_327 f_8_0_1 rfl ?_
  refine pm_ki d_X9_deviceOf_10 ?_
  refine pm_ild d_X9_deviceOf_12 rfl ?_
  refine pm_iadd d_X9_deviceOf_13 ?_
  obtain ⟨b4, hT⟩ := ps_gd hK
  replace hK := hT
  clear hT
  refine ps_iald d_X9_deviceOf_14 at_328 a_8_1 (ps_in_of b4) rfl ?_
  refine ps_topI (fun v1 ev1 => ?_)
  replace hK := ps_ltE ev1 hK
  refine pm_iadd d_X9_deviceOf_15 ?_
  obtain ⟨b3, hT⟩ := ps_gd hK
  replace hK := hT
  clear hT
  refine ps_iald d_X9_deviceOf_16 at_328 a_8_1 (ps_in_of b3) rfl ?_
  refine ps_topI (fun v2 ev2 => ?_)
  replace hK := ps_ltE ev2 hK
  have hQ := ps_so hK
  exact ps_iret rfl d_X9_deviceOf_17 ⟨_, rfl, hQ⟩
def qX9_dirtyOn_4  (y1 : Int32) : Nat → Int32 → Int32 → ps_S → Option (((Int32 × Int32)) × ps_S)
  | 0, _, _, _ => none
  | n + 1, x2, x3, σ =>
    ps_let (σ.1 328 2) fun v1 =>
    if v1 ≤ x3 then
    some ((x2, x3), σ)
    else
    if ps_in ((17 + x3)) 5550 = true then
    ps_let (σ.1 328 ((17 + x3)).toNatClampNeg) fun v3 =>
    if v3 = y1 then
    if ps_in ((1 + x3)) 83 = true then
    ps_let (σ.1 335 ((1 + x3)).toNatClampNeg) fun v7 =>
    ps_let ((x2 + v7)) fun v8 =>
    ps_let (x3 + 1) fun v9 =>
    qX9_dirtyOn_4 y1 n v8 v9 σ
    else none
    else
    ps_let ((x2 + 0)) fun v5 =>
    ps_let (x3 + 1) fun v6 =>
    qX9_dirtyOn_4 y1 n v5 v6 σ
    else none
set_option maxRecDepth 100000 in
theorem L_X9_dirtyOn_4 {g : pm_G} (D : Nat) (hD : 1 ≤ D) {P : Int32 → ps_S → Prop}  (y1 : Int32) : ∀ (n : Nat) (x2 : Int32) (x3 : Int32) (σ : ps_S), ps_ok (qX9_dirtyOn_4 y1 n x2 x3 σ) (fun res σ => match res with | (x2, x3) => pm_W g mX9_dirtyOn (ps_F g D (ps_qI P)) 0 0 48 [some (.ref (g.2.2.1 + 327)), some (.int y1), some (.int x2), some (.int x3)] [] 345 (ps_E g σ)) → pm_W g mX9_dirtyOn (ps_F g D (ps_qI P)) 0 0 4 [some (.ref (g.2.2.1 + 327)), some (.int y1), some (.int x2), some (.int x3)] [] 345 (ps_E g σ) := by
  intro n
  induction n with
  | zero => intro x2 x3 σ hK; exact (ps_no hK).elim
  | succ n ih =>
    intro x2 x3 σ hK
    rw [qX9_dirtyOn_4] at hK
    refine pm_ild d_X9_dirtyOn_4 rfl ?_
    refine pm_ald d_X9_dirtyOn_5 rfl ?_
    refine ps_getR (q := 328) d_X9_dirtyOn_6 at_327 f_8_0_1 rfl ?_
    refine pm_ki d_X9_dirtyOn_9 ?_
    refine ps_iald (x := σ.1 328 2) d_X9_dirtyOn_10 at_328 a_8_1 (ps_in_of rfl) rfl ?_
    refine ps_topI (fun v1 ev1 => ?_)
    replace hK := ps_ltE ev1 hK
    refine pm_icmp_ge d_X9_dirtyOn_11 (fun c2 => ?_) (fun c2 => ?_)
    · replace hK := ps_ifT c2 hK
      exact ps_so hK
    · replace hK := ps_ifF c2 hK
      refine pm_ild d_X9_dirtyOn_14 rfl ?_
      refine pm_ald d_X9_dirtyOn_15 rfl ?_
      refine ps_getR (q := 328) d_X9_dirtyOn_16 at_327 f_8_0_1 rfl ?_
      refine pm_ki d_X9_dirtyOn_19 ?_
      refine pm_ild d_X9_dirtyOn_21 rfl ?_
      refine pm_iadd d_X9_dirtyOn_22 ?_
      obtain ⟨b11, hT⟩ := ps_gd hK
      replace hK := hT
      clear hT
      refine ps_iald d_X9_dirtyOn_23 at_328 a_8_1 (ps_in_of b11) rfl ?_
      refine ps_topI (fun v3 ev3 => ?_)
      replace hK := ps_ltE ev3 hK
      refine pm_ild d_X9_dirtyOn_24 rfl ?_
      refine pm_icmp_ne d_X9_dirtyOn_25 (fun c4 => ?_) (fun c4 => ?_)
      · replace hK := ps_ifF c4 hK
        refine pm_ki d_X9_dirtyOn_39 ?_
        refine pm_iadd d_X9_dirtyOn_40 ?_
        refine ps_topI (fun v5 ev5 => ?_)
        replace hK := ps_ltE ev5 hK
        refine pm_ist2 d_X9_dirtyOn_41 rfl (by decide) ?_
        refine pm_inc3 d_X9_dirtyOn_42 rfl ?_
        obtain ⟨v6, ev6⟩ : ∃ y : Int32, y = x3 + 1 := ⟨_, rfl⟩
        rw [← ev6]
        replace hK := ps_ltE ev6 hK
        refine pm_goto d_X9_dirtyOn_45 ?_
        exact ih _ _ _ hK
      · replace hK := ps_ifT c4 hK
        refine pm_ald d_X9_dirtyOn_28 rfl ?_
        refine ps_getR (q := 335) d_X9_dirtyOn_29 at_327 f_8_0_19 rfl ?_
        refine pm_ki d_X9_dirtyOn_32 ?_
        refine pm_ild d_X9_dirtyOn_33 rfl ?_
        refine pm_iadd d_X9_dirtyOn_34 ?_
        obtain ⟨b10, hT⟩ := ps_gd hK
        replace hK := hT
        clear hT
        refine ps_iald d_X9_dirtyOn_35 at_335 a_8_8 (ps_in_of b10) rfl ?_
        refine ps_topI (fun v7 ev7 => ?_)
        replace hK := ps_ltE ev7 hK
        refine pm_goto d_X9_dirtyOn_36 ?_
        refine pm_iadd d_X9_dirtyOn_40 ?_
        refine ps_topI (fun v8 ev8 => ?_)
        replace hK := ps_ltE ev8 hK
        refine pm_ist2 d_X9_dirtyOn_41 rfl (by decide) ?_
        refine pm_inc3 d_X9_dirtyOn_42 rfl ?_
        obtain ⟨v9, ev9⟩ : ∃ y : Int32, y = x3 + 1 := ⟨_, rfl⟩
        rw [← ev9]
        replace hK := ps_ltE ev9 hK
        refine pm_goto d_X9_dirtyOn_45 ?_
        exact ih _ _ _ hK
def qX9_dirtyOn (p1 : Int32) (σ : ps_S) : Option (Int32 × ps_S) :=
  ps_bd (qX9_dirtyOn_4 p1 ps_N 0 0 σ) (fun res σ12 => match res with
  | (v13, v14) =>
    some (v13, σ12))
set_option maxRecDepth 100000 in
theorem C_X9_dirtyOn {g : pm_G} (p1 : Int32) (σ : ps_S) (P : Int32 → ps_S → Prop) (hK : ps_ok (qX9_dirtyOn p1 σ) P) : ps_C g mX9_dirtyOn 1 [.ref (g.2.2.1 + 327), .int p1] σ (ps_qI P) := by
  unfold qX9_dirtyOn at hK
  refine ps_C.of (ls := [some (.ref (g.2.2.1 + 327)), some (.int p1), none, none]) 2 (by decide) rfl (Nat.le_of_ble_eq_true rfl) rfl ?_
  refine pm_ki d_X9_dirtyOn_0 ?_
  refine pm_ist2 d_X9_dirtyOn_1 rfl (by decide) ?_
  refine pm_ki d_X9_dirtyOn_2 ?_
  refine pm_ist3 d_X9_dirtyOn_3 rfl (by decide) ?_
  refine L_X9_dirtyOn_4 _ (by decide) p1 _ _ _ _ (ps_ok.mono (ps_bdE hK) ?_)
  rintro ⟨v13, v14⟩ σ12 hT
  clear hK
  have hK := hT
  clear hT
  refine pm_ild d_X9_dirtyOn_48 rfl ?_
  have hQ := ps_so hK
  exact ps_iret rfl d_X9_dirtyOn_49 ⟨_, rfl, hQ⟩
def qX9_keptIn (p1 : UInt64) (p2 : UInt64) (p3 : UInt64) (σ : ps_S) : Option (UInt64 × ps_S) :=
  if 0 ≤ ((Op.cmpValue (FP.dcmp p1 p2) .g)) then
  if ((Op.cmpValue (FP.dcmp p1 p3) .l)) ≤ 0 then
  some (p1, σ)
  else
  some (p3, σ)
  else
  some (p2, σ)
set_option maxRecDepth 100000 in
theorem C_X9_keptIn {g : pm_G} (p1 : UInt64) (p2 : UInt64) (p3 : UInt64) (σ : ps_S) (P : UInt64 → ps_S → Prop) (hK : ps_ok (qX9_keptIn p1 p2 p3 σ) P) : ps_C g mX9_keptIn 1 [.double p1, .double p2, .double p3] σ (ps_qD P) := by
  unfold qX9_keptIn at hK
  refine ps_C.of (ls := [some (.double p1), none, some (.double p2), none, some (.double p3), none]) 0 (by decide) rfl (Nat.le_of_ble_eq_true rfl) rfl ?_
  refine pm_dld d_X9_keptIn_0 rfl ?_
  refine pm_dld d_X9_keptIn_1 rfl ?_
  refine pm_dcmp d_X9_keptIn_2 ?_
  refine pm_if_ge d_X9_keptIn_3 (fun c1 => ?_) (fun c1 => ?_)
  · replace hK := ps_ifT c1 hK
    refine pm_dld d_X9_keptIn_10 rfl ?_
    refine pm_dld d_X9_keptIn_11 rfl ?_
    refine pm_dcmp d_X9_keptIn_13 ?_
    refine pm_if_le d_X9_keptIn_14 (fun c2 => ?_) (fun c2 => ?_)
    · replace hK := ps_ifT c2 hK
      refine pm_dld d_X9_keptIn_22 rfl ?_
      have hQ := ps_so hK
      exact ps_dret rfl d_X9_keptIn_23 ⟨_, rfl, hQ⟩
    · replace hK := ps_ifF c2 hK
      refine pm_dld d_X9_keptIn_17 rfl ?_
      refine pm_goto d_X9_keptIn_19 ?_
      have hQ := ps_so hK
      exact ps_dret rfl d_X9_keptIn_23 ⟨_, rfl, hQ⟩
  · replace hK := ps_ifF c1 hK
    refine pm_dld d_X9_keptIn_6 rfl ?_
    refine pm_goto d_X9_keptIn_7 ?_
    have hQ := ps_so hK
    exact ps_dret rfl d_X9_keptIn_23 ⟨_, rfl, hQ⟩
def qX9_shareOf (p1 : Int32) (σ : ps_S) : Option (Int32 × ps_S) :=
  ps_bd (qX9_sumOf 37 4 σ) (fun v1 σ2 =>
  if v1 = 0 then
  ps_let (σ2.1 327 21) fun v10 =>
  ps_let (σ2.1 328 1) fun v11 =>
  if v11 = 0 then none else
  ps_let ((v10 / v11)) fun v12 =>
  if 1 ≤ v12 then
  some (v12, σ2)
  else
  some (1, σ2)
  else
  ps_let (σ2.1 327 21) fun v4 =>
  if ps_in ((37 + p1)) 83 = true then
  ps_let (σ2.1 335 ((37 + p1)).toNatClampNeg) fun v5 =>
  if (((v1).toInt64)) = 0 then none else
  ps_let (((((((((v4).toInt64)) * (((v5).toInt64)))) / (((v1).toInt64)))).toInt32)) fun v6 =>
  if 1 ≤ v6 then
  some (v6, σ2)
  else
  some (1, σ2)
  else none)
set_option maxRecDepth 100000 in
theorem C_X9_shareOf {g : pm_G} (p1 : Int32) (σ : ps_S) (P : Int32 → ps_S → Prop) (hK : ps_ok (qX9_shareOf p1 σ) P) : ps_C g mX9_shareOf 2 [.ref (g.2.2.1 + 327), .int p1] σ (ps_qI P) := by
  unfold qX9_shareOf at hK
  refine ps_C.of (ls := [some (.ref (g.2.2.1 + 327)), some (.int p1), none, none]) 2 (by decide) rfl (Nat.le_of_ble_eq_true rfl) rfl ?_
  refine pm_ald d_X9_shareOf_0 rfl ?_
  refine pm_ki d_X9_shareOf_1 ?_
  refine pm_ki d_X9_shareOf_3 ?_
  refine ps_cVI d_X9_shareOf_4 mv_X9_sumOf at_327 ob_8_0 rfl (As := [.int 37, .int 4]) rfl rfl (ps_room.of (by omega) (by decide)) (Nat.le_of_ble_eq_true rfl) (C_X9_sumOf 37 4 σ _ (ps_bdE hK)) ?_
  intro v1 σ2 hT
  clear hK
  have hK := hT
  clear hT
  refine pm_ist2 d_X9_shareOf_7 rfl (by decide) ?_
  refine pm_ild d_X9_shareOf_8 rfl ?_
  refine pm_if_ne d_X9_shareOf_9 (fun c3 => ?_) (fun c3 => ?_)
  · replace hK := ps_ifF c3 hK
    refine pm_ald d_X9_shareOf_26 rfl ?_
    refine ps_getI d_X9_shareOf_27 at_327 f_8_0_21 rfl ?_
    refine ps_topI (fun v4 ev4 => ?_)
    replace hK := ps_ltE ev4 hK
    refine pm_i2l d_X9_shareOf_30 ?_
    refine pm_ald d_X9_shareOf_31 rfl ?_
    refine ps_getR (q := 335) d_X9_shareOf_32 at_327 f_8_0_19 rfl ?_
    refine pm_ki d_X9_shareOf_35 ?_
    refine pm_ild d_X9_shareOf_37 rfl ?_
    refine pm_iadd d_X9_shareOf_38 ?_
    obtain ⟨b9, hT⟩ := ps_gd hK
    replace hK := hT
    clear hT
    refine ps_iald d_X9_shareOf_39 at_335 a_8_8 (ps_in_of b9) rfl ?_
    refine ps_topI (fun v5 ev5 => ?_)
    replace hK := ps_ltE ev5 hK
    refine pm_i2l d_X9_shareOf_40 ?_
    refine pm_lmul d_X9_shareOf_41 ?_
    refine pm_ild d_X9_shareOf_42 rfl ?_
    refine pm_i2l d_X9_shareOf_43 ?_
    by_cases z8 : (((v1).toInt64)) = 0
    · exact (ps_no (ps_ifT z8 hK)).elim
    replace hK := ps_ifF z8 hK
    refine pm_ldiv d_X9_shareOf_44 z8 ?_
    refine pm_l2i d_X9_shareOf_45 ?_
    refine ps_topI (fun v6 ev6 => ?_)
    replace hK := ps_ltE ev6 hK
    refine pm_ist3 d_X9_shareOf_46 rfl (by decide) ?_
    refine pm_ild d_X9_shareOf_47 rfl ?_
    refine pm_ki d_X9_shareOf_48 ?_
    refine pm_icmp_ge d_X9_shareOf_49 (fun c7 => ?_) (fun c7 => ?_)
    · replace hK := ps_ifT c7 hK
      refine pm_ild d_X9_shareOf_56 rfl ?_
      have hQ := ps_so hK
      exact ps_iret rfl d_X9_shareOf_57 ⟨_, rfl, hQ⟩
    · replace hK := ps_ifF c7 hK
      refine pm_ki d_X9_shareOf_52 ?_
      refine pm_goto d_X9_shareOf_53 ?_
      have hQ := ps_so hK
      exact ps_iret rfl d_X9_shareOf_57 ⟨_, rfl, hQ⟩
  · replace hK := ps_ifT c3 hK
    refine pm_ald d_X9_shareOf_12 rfl ?_
    refine ps_getI d_X9_shareOf_13 at_327 f_8_0_21 rfl ?_
    refine ps_topI (fun v10 ev10 => ?_)
    replace hK := ps_ltE ev10 hK
    refine pm_ald d_X9_shareOf_16 rfl ?_
    refine ps_getR (q := 328) d_X9_shareOf_17 at_327 f_8_0_1 rfl ?_
    refine pm_ki d_X9_shareOf_20 ?_
    refine ps_iald (x := σ2.1 328 1) d_X9_shareOf_21 at_328 a_8_1 (ps_in_of rfl) rfl ?_
    refine ps_topI (fun v11 ev11 => ?_)
    replace hK := ps_ltE ev11 hK
    by_cases z14 : v11 = 0
    · exact (ps_no (ps_ifT z14 hK)).elim
    replace hK := ps_ifF z14 hK
    refine pm_idiv d_X9_shareOf_22 z14 ?_
    refine pm_goto d_X9_shareOf_23 ?_
    refine ps_topI (fun v12 ev12 => ?_)
    replace hK := ps_ltE ev12 hK
    refine pm_ist3 d_X9_shareOf_46 rfl (by decide) ?_
    refine pm_ild d_X9_shareOf_47 rfl ?_
    refine pm_ki d_X9_shareOf_48 ?_
    refine pm_icmp_ge d_X9_shareOf_49 (fun c13 => ?_) (fun c13 => ?_)
    · replace hK := ps_ifT c13 hK
      refine pm_ild d_X9_shareOf_56 rfl ?_
      have hQ := ps_so hK
      exact ps_iret rfl d_X9_shareOf_57 ⟨_, rfl, hQ⟩
    · replace hK := ps_ifF c13 hK
      refine pm_ki d_X9_shareOf_52 ?_
      refine pm_goto d_X9_shareOf_53 ?_
      have hQ := ps_so hK
      exact ps_iret rfl d_X9_shareOf_57 ⟨_, rfl, hQ⟩
