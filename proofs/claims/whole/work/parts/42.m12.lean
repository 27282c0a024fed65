def qX9_isWrote_17  (y1 : Int32) (y2 : Int32) (y3 : Int32) : Nat → Int32 → ps_S → Option ((Int32 ⊕ (Int32)) × ps_S)
  | 0, _, _ => none
  | n + 1, x4, σ =>
    if ps_in y1 4 = true then
    ps_let (σ.1 343 (y1).toNatClampNeg) fun v5 =>
    if v5 ≤ x4 then
    some (.inr x4, σ)
    else
    ps_bd (qX9_spanOf y2 σ) (fun v7 σ8 =>
    if ps_in ((((40 * y1)) + x4)) 160 = true then
    ps_let (σ8.2.1 344 ((((40 * y1)) + x4)).toNatClampNeg) fun v9 =>
    if ((lg_cmp (((v7).toInt64)) v9)) = 0 then
    ps_let (x4 + 1) fun v11 =>
    qX9_isWrote_17 y1 y2 y3 n v11 σ8
    else
    some (.inl 0, σ8)
    else none)
    else none
set_option maxRecDepth 100000 in
theorem L_X9_isWrote_17 {g : pm_G} (D : Nat) (hD : 8 ≤ D) {P : Int32 → ps_S → Prop}  (y1 : Int32) (y2 : Int32) (y3 : Int32) : ∀ (n : Nat) (x4 : Int32) (σ : ps_S), ps_ok (qX9_isWrote_17 y1 y2 y3 n x4 σ) (fun res σ => match res with | .inl r => P r σ | .inr x4 => pm_W g mX9_isWrote (ps_F g D (ps_qI P)) 0 0 58 [some (.ref (g.2.2.1 + 327)), some (.int y1), some (.int y2), some (.int y3), some (.int x4)] [] 345 (ps_E g σ)) → pm_W g mX9_isWrote (ps_F g D (ps_qI P)) 0 0 17 [some (.ref (g.2.2.1 + 327)), some (.int y1), some (.int y2), some (.int y3), some (.int x4)] [] 345 (ps_E g σ) := by
  intro n
  induction n with
  | zero => intro x4 σ hK; exact (ps_no hK).elim
  | succ n ih =>
    intro x4 σ hK
    rw [qX9_isWrote_17] at hK
    refine pm_ild d_X9_isWrote_17 rfl ?_
    refine pm_ald d_X9_isWrote_19 rfl ?_
    refine ps_getR (q := 343) d_X9_isWrote_20 at_327 f_8_0_36 rfl ?_
    refine pm_ild d_X9_isWrote_23 rfl ?_
    obtain ⟨b13, hT⟩ := ps_gd hK
    replace hK := hT
    clear hT
    refine ps_iald d_X9_isWrote_24 at_343 a_8_16 (ps_in_of b13) rfl ?_
    refine ps_topI (fun v5 ev5 => ?_)
    replace hK := ps_ltE ev5 hK
    refine pm_icmp_ge d_X9_isWrote_25 (fun c6 => ?_) (fun c6 => ?_)
    · replace hK := ps_ifT c6 hK
      exact ps_so hK
    · replace hK := ps_ifF c6 hK
      refine pm_ald d_X9_isWrote_28 rfl ?_
      refine pm_ild d_X9_isWrote_29 rfl ?_
      refine ps_cVI d_X9_isWrote_30 mv_X9_spanOf at_327 ob_8_0 rfl (As := [.int y2]) rfl rfl (ps_room.of (by omega) (by decide)) (Nat.le_of_ble_eq_true rfl) (C_X9_spanOf y2 σ _ (ps_bdE hK)) ?_
      intro v7 σ8 hT
      clear hK
      have hK := hT
      clear hT
      refine pm_i2l d_X9_isWrote_33 ?_
      refine pm_ald d_X9_isWrote_34 rfl ?_
      refine ps_getR (q := 344) d_X9_isWrote_35 at_327 f_8_0_37 rfl ?_
      refine pm_ki d_X9_isWrote_38 ?_
      refine pm_ild d_X9_isWrote_40 rfl ?_
      refine pm_imul d_X9_isWrote_41 ?_
      refine pm_ild d_X9_isWrote_42 rfl ?_
      refine pm_iadd d_X9_isWrote_44 ?_
      obtain ⟨b12, hT⟩ := ps_gd hK
      replace hK := hT
      clear hT
      refine ps_lald d_X9_isWrote_45 at_344 a_8_17 (ps_in_of b12) rfl ?_
      refine ps_topL (fun v9 ev9 => ?_)
      replace hK := ps_ltE ev9 hK
      refine pm_lcmp d_X9_isWrote_46 ?_
      refine pm_if_eq d_X9_isWrote_47 (fun c10 => ?_) (fun c10 => ?_)
      · replace hK := ps_ifT c10 hK
        refine pm_inc4 d_X9_isWrote_52 rfl ?_
        obtain ⟨v11, ev11⟩ : ∃ y : Int32, y = x4 + 1 := ⟨_, rfl⟩
        rw [← ev11]
        replace hK := ps_ltE ev11 hK
        refine pm_goto d_X9_isWrote_55 ?_
        exact ih _ _ hK
      · replace hK := ps_ifF c10 hK
        refine pm_ki d_X9_isWrote_50 ?_
        have hQ := ps_so hK
        exact ps_zret rfl rfl d_X9_isWrote_51 ⟨_, rfl, hQ⟩
def qX9_isWrote (p1 : Int32) (p2 : Int32) (p3 : Int32) (σ : ps_S) : Option (Int32 × ps_S) :=
  ps_bd (qX9_begins σ) (fun _ σ2 =>
  ps_let (ps_rI σ2 327 (upd (σ2.1 327) 23 p2)) fun σ3 =>
  ps_let (ps_rI σ3 327 (upd (σ3.1 327) 24 p3)) fun σ4 =>
  ps_bd (qX9_isWrote_17 p1 p2 p3 ps_N 0 σ4) (fun res σ14 => match res with
  | .inl r => some (r, σ14)
  | .inr v15 =>
    some (1, σ14)))
set_option maxRecDepth 100000 in
theorem C_X9_isWrote {g : pm_G} (p1 : Int32) (p2 : Int32) (p3 : Int32) (σ : ps_S) (P : Int32 → ps_S → Prop) (hK : ps_ok (qX9_isWrote p1 p2 p3 σ) P) : ps_C g mX9_isWrote 8 [.ref (g.2.2.1 + 327), .int p1, .int p2, .int p3] σ (ps_qI P) := by
  unfold qX9_isWrote at hK
  refine ps_C.of (ls := [some (.ref (g.2.2.1 + 327)), some (.int p1), some (.int p2), some (.int p3), none]) 1 (by decide) rfl (Nat.le_of_ble_eq_true rfl) rfl ?_
  refine pm_ald d_X9_isWrote_0 rfl ?_
  refine ps_cVV d_X9_isWrote_1 mv_X9_begins at_327 ob_8_0 rfl (As := []) rfl rfl (ps_room.of (by omega) (by decide)) (Nat.le_of_ble_eq_true rfl) (C_X9_begins σ _ (ps_bdE hK)) ?_
  intro σ2 hT
  clear hK
  have hK := hT
  clear hT
  refine pm_ald d_X9_isWrote_4 rfl ?_
  refine pm_ild d_X9_isWrote_5 rfl ?_
  refine ps_putI d_X9_isWrote_6 at_327 f_8_0_23 rfl rfl ?_
  refine ps_nmS (fun σ3 eσ3 => ?_)
  replace hK := ps_ltE eσ3 hK
  refine pm_ald d_X9_isWrote_9 rfl ?_
  refine pm_ild d_X9_isWrote_10 rfl ?_
  refine ps_putI d_X9_isWrote_11 at_327 f_8_0_24 rfl rfl ?_
  refine ps_nmS (fun σ4 eσ4 => ?_)
  replace hK := ps_ltE eσ4 hK
  refine pm_ki d_X9_isWrote_14 ?_
  refine pm_ist4 d_X9_isWrote_15 rfl (by decide) ?_
  refine L_X9_isWrote_17 _ (by decide) p1 p2 p3 _ _ _ (ps_ok.mono (ps_bdE hK) ?_)
  intro res σ14 hT
  clear hK
  match res, hT with
  | .inl r, hT => exact ps_so hT
  | .inr v15, hT =>
    have hK := hT
    clear hT
    refine pm_ki d_X9_isWrote_58 ?_
    have hQ := ps_so hK
    exact ps_zret rfl rfl d_X9_isWrote_59 ⟨_, rfl, hQ⟩
def qX9_noWrote_34  (y1 : Int32) (y2 : Int32) : Nat → Int32 → ps_S → Option ((Int32 ⊕ (Int32)) × ps_S)
  | 0, _, _ => none
  | n + 1, x3, σ =>
    if ps_in y1 4 = true then
    ps_let (σ.1 343 (y1).toNatClampNeg) fun v8 =>
    if v8 ≤ x3 then
    some (.inr x3, σ)
    else
    if ps_in ((((40 * y1)) + x3)) 160 = true then
    ps_let (σ.2.1 344 ((((40 * y1)) + x3)).toNatClampNeg) fun v10 =>
    if 0 ≤ ((lg_cmp v10 0)) then
    ps_let (x3 + 1) fun v12 =>
    qX9_noWrote_34 y1 y2 n v12 σ
    else
    some (.inl ((-3)), σ)
    else none
    else none
set_option maxRecDepth 100000 in
theorem L_X9_noWrote_34 {g : pm_G} (D : Nat) (hD : 3 ≤ D) {P : Int32 → ps_S → Prop}  (y1 : Int32) (y2 : Int32) : ∀ (n : Nat) (x3 : Int32) (σ : ps_S), ps_ok (qX9_noWrote_34 y1 y2 n x3 σ) (fun res σ => match res with | .inl r => P r σ | .inr x3 => pm_W g mX9_noWrote (ps_F g D (ps_qI P)) 0 0 69 [some (.ref (g.2.2.1 + 327)), some (.int y1), some (.int y2), some (.int x3)] [] 345 (ps_E g σ)) → pm_W g mX9_noWrote (ps_F g D (ps_qI P)) 0 0 34 [some (.ref (g.2.2.1 + 327)), some (.int y1), some (.int y2), some (.int x3)] [] 345 (ps_E g σ) := by
  intro n
  induction n with
  | zero => intro x3 σ hK; exact (ps_no hK).elim
  | succ n ih =>
    intro x3 σ hK
    rw [qX9_noWrote_34] at hK
    refine pm_ild d_X9_noWrote_34 rfl ?_
    refine pm_ald d_X9_noWrote_35 rfl ?_
    refine ps_getR (q := 343) d_X9_noWrote_36 at_327 f_8_0_36 rfl ?_
    refine pm_ild d_X9_noWrote_39 rfl ?_
    obtain ⟨b14, hT⟩ := ps_gd hK
    replace hK := hT
    clear hT
    refine ps_iald d_X9_noWrote_40 at_343 a_8_16 (ps_in_of b14) rfl ?_
    refine ps_topI (fun v8 ev8 => ?_)
    replace hK := ps_ltE ev8 hK
    refine pm_icmp_ge d_X9_noWrote_41 (fun c9 => ?_) (fun c9 => ?_)
    · replace hK := ps_ifT c9 hK
      exact ps_so hK
    · replace hK := ps_ifF c9 hK
      refine pm_ald d_X9_noWrote_44 rfl ?_
      refine ps_getR (q := 344) d_X9_noWrote_45 at_327 f_8_0_37 rfl ?_
      refine pm_ki d_X9_noWrote_48 ?_
      refine pm_ild d_X9_noWrote_50 rfl ?_
      refine pm_imul d_X9_noWrote_51 ?_
      refine pm_ild d_X9_noWrote_52 rfl ?_
      refine pm_iadd d_X9_noWrote_53 ?_
      obtain ⟨b13, hT⟩ := ps_gd hK
      replace hK := hT
      clear hT
      refine ps_lald d_X9_noWrote_54 at_344 a_8_17 (ps_in_of b13) rfl ?_
      refine ps_topL (fun v10 ev10 => ?_)
      replace hK := ps_ltE ev10 hK
      refine pm_kl d_X9_noWrote_55 ?_
      refine pm_lcmp d_X9_noWrote_56 ?_
      refine pm_if_ge d_X9_noWrote_57 (fun c11 => ?_) (fun c11 => ?_)
      · replace hK := ps_ifT c11 hK
        refine pm_inc3 d_X9_noWrote_63 rfl ?_
        obtain ⟨v12, ev12⟩ : ∃ y : Int32, y = x3 + 1 := ⟨_, rfl⟩
        rw [← ev12]
        replace hK := ps_ltE ev12 hK
        refine pm_goto d_X9_noWrote_66 ?_
        exact ih _ _ hK
      · replace hK := ps_ifF c11 hK
        refine pm_ki d_X9_noWrote_60 ?_
        have hQ := ps_so hK
        exact ps_iret rfl d_X9_noWrote_62 ⟨_, rfl, hQ⟩
def qX9_noWrote (p1 : Int32) (σ : ps_S) : Option (Int32 × ps_S) :=
  ps_bd (qX9_noTray p1 σ) (fun v1 σ2 =>
  if v1 = 0 then
  if ps_in p1 4 = true then
  ps_let (σ2.1 343 (p1).toNatClampNeg) fun v4 =>
  ps_bd (qX9_within (((v4).toInt64)) 1 8 σ2) (fun v5 σ6 =>
  if v5 = 0 then
  some ((-4), σ6)
  else
  ps_bd (qX9_noWrote_34 p1 v1 ps_N 0 σ6) (fun res σ15 => match res with
  | .inl r => some (r, σ15)
  | .inr v16 =>
    some (0, σ15)))
  else none
  else
  some (v1, σ2))
set_option maxRecDepth 100000 in
theorem C_X9_noWrote {g : pm_G} (p1 : Int32) (σ : ps_S) (P : Int32 → ps_S → Prop) (hK : ps_ok (qX9_noWrote p1 σ) P) : ps_C g mX9_noWrote 3 [.ref (g.2.2.1 + 327), .int p1] σ (ps_qI P) := by
  unfold qX9_noWrote at hK
  refine ps_C.of (ls := [some (.ref (g.2.2.1 + 327)), some (.int p1), none, none]) 2 (by decide) rfl (Nat.le_of_ble_eq_true rfl) rfl ?_
  refine pm_ald d_X9_noWrote_0 rfl ?_
  refine pm_ild d_X9_noWrote_1 rfl ?_
  refine ps_cVI d_X9_noWrote_2 mv_X9_noTray at_327 ob_8_0 rfl (As := [.int p1]) rfl rfl (ps_room.of (by omega) (by decide)) (Nat.le_of_ble_eq_true rfl) (C_X9_noTray p1 σ _ (ps_bdE hK)) ?_
  intro v1 σ2 hT
  clear hK
  have hK := hT
  clear hT
  refine pm_ist2 d_X9_noWrote_5 rfl (by decide) ?_
  refine pm_ild d_X9_noWrote_6 rfl ?_
  refine pm_if_eq d_X9_noWrote_7 (fun c3 => ?_) (fun c3 => ?_)
  · replace hK := ps_ifT c3 hK
    refine pm_ald d_X9_noWrote_12 rfl ?_
    refine ps_getR (q := 343) d_X9_noWrote_13 at_327 f_8_0_36 rfl ?_
    refine pm_ild d_X9_noWrote_16 rfl ?_
    obtain ⟨b17, hT⟩ := ps_gd hK
    replace hK := hT
    clear hT
    refine ps_iald d_X9_noWrote_17 at_343 a_8_16 (ps_in_of b17) rfl ?_
    refine ps_topI (fun v4 ev4 => ?_)
    replace hK := ps_ltE ev4 hK
    refine pm_i2l d_X9_noWrote_18 ?_
    refine pm_kl d_X9_noWrote_19 ?_
    refine pm_kl d_X9_noWrote_20 ?_
    refine ps_cSI d_X9_noWrote_23 ms_X9_within (As := [.long ((v4).toInt64), .long 1, .long 8]) rfl rfl (ps_room.of (by omega) (by decide)) (Nat.le_of_ble_eq_true rfl) (C_X9_within (((v4).toInt64)) 1 8 σ2 _ (ps_bdE hK)) ?_
    intro v5 σ6 hT
    clear hK
    have hK := hT
    clear hT
    refine pm_if_ne d_X9_noWrote_26 (fun c7 => ?_) (fun c7 => ?_)
    · replace hK := ps_ifF c7 hK
      refine pm_ki d_X9_noWrote_32 ?_
      refine pm_ist3 d_X9_noWrote_33 rfl (by decide) ?_
      refine L_X9_noWrote_34 _ (by decide) p1 v1 _ _ _ (ps_ok.mono (ps_bdE hK) ?_)
      intro res σ15 hT
      clear hK
      match res, hT with
      | .inl r, hT => exact ps_so hT
      | .inr v16, hT =>
        have hK := hT
        clear hT
        refine pm_ki d_X9_noWrote_69 ?_
        have hQ := ps_so hK
        exact ps_iret rfl d_X9_noWrote_70 ⟨_, rfl, hQ⟩
    · replace hK := ps_ifT c7 hK
      refine pm_ki d_X9_noWrote_29 ?_
      have hQ := ps_so hK
      exact ps_iret rfl d_X9_noWrote_31 ⟨_, rfl, hQ⟩
  · replace hK := ps_ifF c3 hK
    refine pm_ild d_X9_noWrote_10 rfl ?_
    have hQ := ps_so hK
    exact ps_iret rfl d_X9_noWrote_11 ⟨_, rfl, hQ⟩
def qX9_speeds_68  (y1 : Int32) (y2 : Int32) (y3 : Int32) (y4 : Int32) : Nat → Int32 → Int32 → Int32 → Int32 → ps_S → Option (((Int32 × Int32 × Int32 × Int32)) × ps_S)
  | 0, _, _, _, _, _ => none
  | n + 1, x5, x6, x7, x8, σ =>
    if 1000 ≤ x8 then
    some ((x5, x6, x7, x8), σ)
    else
    ps_bd (qX9_isWrote y1 y2 x8 σ) (fun v15 σ16 =>
    if v15 = 0 then
    ps_let (x8 + 1) fun v22 =>
    qX9_speeds_68 y1 y2 y3 y4 n x5 x6 x7 v22 σ16
    else
    ps_let (x5 + 1) fun v18 =>
    if x6 = ((-1)) then
    ps_let (x8 + 1) fun v21 =>
    qX9_speeds_68 y1 y2 y3 y4 n v18 x8 x8 v21 σ16
    else
    ps_let (x8 + 1) fun v20 =>
    qX9_speeds_68 y1 y2 y3 y4 n v18 x6 x8 v20 σ16)
set_option maxRecDepth 100000 in
theorem L_X9_speeds_68 {g : pm_G} (D : Nat) (hD : 9 ≤ D) {P : Int32 → ps_S → Prop}  (y1 : Int32) (y2 : Int32) (y3 : Int32) (y4 : Int32) : ∀ (n : Nat) (x5 : Int32) (x6 : Int32) (x7 : Int32) (x8 : Int32) (σ : ps_S), ps_ok (qX9_speeds_68 y1 y2 y3 y4 n x5 x6 x7 x8 σ) (fun res σ => match res with | (x5, x6, x7, x8) => pm_W g mX9_speeds (ps_F g D (ps_qI P)) 0 0 118 [some (.ref (g.2.2.1 + 327)), some (.int y1), some (.int y2), some (.int y3), some (.int y4), some (.int x5), some (.int x6), some (.int x7), some (.int x8)] [] 345 (ps_E g σ)) → pm_W g mX9_speeds (ps_F g D (ps_qI P)) 0 0 68 [some (.ref (g.2.2.1 + 327)), some (.int y1), some (.int y2), some (.int y3), some (.int y4), some (.int x5), some (.int x6), some (.int x7), some (.int x8)] [] 345 (ps_E g σ) := by
  intro n
  induction n with
  | zero => intro x5 x6 x7 x8 σ hK; exact (ps_no hK).elim
  | succ n ih =>
    intro x5 x6 x7 x8 σ hK
    rw [qX9_speeds_68] at hK
    refine pm_ild d_X9_speeds_68 rfl ?_
    refine pm_ki d_X9_speeds_70 ?_
    refine pm_icmp_ge d_X9_speeds_73 (fun c14 => ?_) (fun c14 => ?_)
    · replace hK := ps_ifT c14 hK
      exact ps_so hK
    · replace hK := ps_ifF c14 hK
      refine pm_ald d_X9_speeds_76 rfl ?_
      refine pm_ild d_X9_speeds_77 rfl ?_
      refine pm_ild d_X9_speeds_78 rfl ?_
      refine pm_ild d_X9_speeds_79 rfl ?_
      refine ps_cVI d_X9_speeds_81 mv_X9_isWrote at_327 ob_8_0 rfl (As := [.int y1, .int y2, .int x8]) rfl rfl (ps_room.of (by omega) (by decide)) (Nat.le_of_ble_eq_true rfl) (C_X9_isWrote y1 y2 x8 σ _ (ps_bdE hK)) ?_
      intro v15 σ16 hT
      clear hK
      have hK := hT
      clear hT
      refine pm_if_ne d_X9_speeds_84 (fun c17 => ?_) (fun c17 => ?_)
      · replace hK := ps_ifF c17 hK
        refine pm_inc5 d_X9_speeds_90 rfl ?_
        obtain ⟨v18, ev18⟩ : ∃ y : Int32, y = x5 + 1 := ⟨_, rfl⟩
        rw [← ev18]
        replace hK := ps_ltE ev18 hK
        refine pm_ild d_X9_speeds_93 rfl ?_
        refine pm_ki d_X9_speeds_95 ?_
        refine pm_icmp_ne d_X9_speeds_96 (fun c19 => ?_) (fun c19 => ?_)
        · replace hK := ps_ifF c19 hK
          refine pm_ild d_X9_speeds_104 rfl ?_
          refine pm_ist6 d_X9_speeds_106 rfl (by decide) ?_
          refine pm_ild d_X9_speeds_108 rfl ?_
          refine pm_ist7 d_X9_speeds_110 rfl (by decide) ?_
          refine pm_inc8 d_X9_speeds_112 rfl ?_
          obtain ⟨v20, ev20⟩ : ∃ y : Int32, y = x8 + 1 := ⟨_, rfl⟩
          rw [← ev20]
          replace hK := ps_ltE ev20 hK
          refine pm_goto d_X9_speeds_115 ?_
          exact ih _ _ _ _ _ hK
        · replace hK := ps_ifT c19 hK
          refine pm_ild d_X9_speeds_99 rfl ?_
          refine pm_goto d_X9_speeds_101 ?_
          refine pm_ist6 d_X9_speeds_106 rfl (by decide) ?_
          refine pm_ild d_X9_speeds_108 rfl ?_
          refine pm_ist7 d_X9_speeds_110 rfl (by decide) ?_
          refine pm_inc8 d_X9_speeds_112 rfl ?_
          obtain ⟨v21, ev21⟩ : ∃ y : Int32, y = x8 + 1 := ⟨_, rfl⟩
          rw [← ev21]
          replace hK := ps_ltE ev21 hK
          refine pm_goto d_X9_speeds_115 ?_
          exact ih _ _ _ _ _ hK
      · replace hK := ps_ifT c17 hK
        refine pm_goto d_X9_speeds_87 ?_
        refine pm_inc8 d_X9_speeds_112 rfl ?_
        obtain ⟨v22, ev22⟩ : ∃ y : Int32, y = x8 + 1 := ⟨_, rfl⟩
        rw [← ev22]
        replace hK := ps_ltE ev22 hK
        refine pm_goto d_X9_speeds_115 ?_
        exact ih _ _ _ _ _ hK
def qX9_speeds (p1 : Int32) (p2 : Int32) (p3 : Int32) (σ : ps_S) : Option (Int32 × ps_S) :=
  ps_let (ps_rI σ 327 (upd (σ.1 327) 0 0)) fun σ1 =>
  ps_bd (qX9_within (((p1).toInt64)) 0 3 σ1) (fun v2 σ3 =>
  if v2 = 0 then
  some ((-2), σ3)
  else
  ps_bd (qX9_isDevice (((p2).toInt64)) σ3) (fun v5 σ6 =>
  if v5 = 0 then
  some ((-2), σ6)
  else
  ps_bd (qX9_within (((p3).toInt64)) 0 2 σ6) (fun v8 σ9 =>
  if v8 = 0 then
  some ((-2), σ9)
  else
  ps_bd (qX9_noWrote p1 σ9) (fun v11 σ12 =>
  if v11 = 0 then
  ps_bd (qX9_speeds_68 p1 p2 p3 v11 ps_N 0 ((-1)) ((-1)) 0 σ12) (fun res σ23 => match res with
  | (v24, v25, v26, v27) =>
    if p3 = 0 then
    some (v24, σ23)
    else
    if p3 = 1 then
    some (v25, σ23)
    else
    some (v26, σ23))
  else
  some (v11, σ12)))))
set_option maxRecDepth 100000 in
theorem C_X9_speeds {g : pm_G} (p1 : Int32) (p2 : Int32) (p3 : Int32) (σ : ps_S) (P : Int32 → ps_S → Prop) (hK : ps_ok (qX9_speeds p1 p2 p3 σ) P) : ps_C g mX9_speeds 9 [.ref (g.2.2.1 + 327), .int p1, .int p2, .int p3] σ (ps_qI P) := by
  unfold qX9_speeds at hK
  refine ps_C.of (ls := [some (.ref (g.2.2.1 + 327)), some (.int p1), some (.int p2), some (.int p3), none, none, none, none, none]) 5 (by decide) rfl (Nat.le_of_ble_eq_true rfl) rfl ?_
  refine pm_ald d_X9_speeds_0 rfl ?_
  refine pm_ki d_X9_speeds_1 ?_
  refine ps_putI d_X9_speeds_2 at_327 f_8_0_0 rfl rfl ?_
  refine ps_nmS (fun σ1 eσ1 => ?_)
  replace hK := ps_ltE eσ1 hK
  refine pm_ild d_X9_speeds_5 rfl ?_
  refine pm_i2l d_X9_speeds_6 ?_
  refine pm_kl d_X9_speeds_7 ?_
  refine pm_kl d_X9_speeds_8 ?_
  refine ps_cSI d_X9_speeds_11 ms_X9_within (As := [.long ((p1).toInt64), .long 0, .long 3]) rfl rfl (ps_room.of (by omega) (by decide)) (Nat.le_of_ble_eq_true rfl) (C_X9_within (((p1).toInt64)) 0 3 σ1 _ (ps_bdE hK)) ?_
  intro v2 σ3 hT
  clear hK
  have hK := hT
  clear hT
  refine pm_if_eq d_X9_speeds_14 (fun c4 => ?_) (fun c4 => ?_)
  · replace hK := ps_ifT c4 hK
    refine pm_ki d_X9_speeds_38 ?_
    have hQ := ps_so hK
    exact ps_iret rfl d_X9_speeds_40 ⟨_, rfl, hQ⟩
  · replace hK := ps_ifF c4 hK
    refine pm_ald d_X9_speeds_17 rfl ?_
    refine pm_ild d_X9_speeds_18 rfl ?_
    refine pm_i2l d_X9_speeds_19 ?_
    refine ps_cVI d_X9_speeds_20 mv_X9_isDevice at_327 ob_8_0 rfl (As := [.long ((p2).toInt64)]) rfl rfl (ps_room.of (by omega) (by decide)) (Nat.le_of_ble_eq_true rfl) (C_X9_isDevice (((p2).toInt64)) σ3 _ (ps_bdE hK)) ?_
    intro v5 σ6 hT
    clear hK
    have hK := hT
    clear hT
    refine pm_if_eq d_X9_speeds_23 (fun c7 => ?_) (fun c7 => ?_)
    · replace hK := ps_ifT c7 hK
      refine pm_ki d_X9_speeds_38 ?_
      have hQ := ps_so hK
      exact ps_iret rfl d_X9_speeds_40 ⟨_, rfl, hQ⟩
    · replace hK := ps_ifF c7 hK
      refine pm_ild d_X9_speeds_26 rfl ?_
      refine pm_i2l d_X9_speeds_27 ?_
      refine pm_kl d_X9_speeds_28 ?_
      refine pm_kl d_X9_speeds_29 ?_
      refine ps_cSI d_X9_speeds_32 ms_X9_within (As := [.long ((p3).toInt64), .long 0, .long 2]) rfl rfl (ps_room.of (by omega) (by decide)) (Nat.le_of_ble_eq_true rfl) (C_X9_within (((p3).toInt64)) 0 2 σ6 _ (ps_bdE hK)) ?_
      intro v8 σ9 hT
      clear hK
      have hK := hT
      clear hT
      refine pm_if_ne d_X9_speeds_35 (fun c10 => ?_) (fun c10 => ?_)
      · replace hK := ps_ifF c10 hK
        refine pm_ald d_X9_speeds_41 rfl ?_
        refine pm_ild d_X9_speeds_42 rfl ?_
        refine ps_cVI d_X9_speeds_43 mv_X9_noWrote at_327 ob_8_0 rfl (As := [.int p1]) rfl rfl (ps_room.of (by omega) (by decide)) (Nat.le_of_ble_eq_true rfl) (C_X9_noWrote p1 σ9 _ (ps_bdE hK)) ?_
        intro v11 σ12 hT
        clear hK
        have hK := hT
        clear hT
        refine pm_ist4 d_X9_speeds_46 rfl (by decide) ?_
        refine pm_ild d_X9_speeds_48 rfl ?_
        refine pm_if_eq d_X9_speeds_50 (fun c13 => ?_) (fun c13 => ?_)
        · replace hK := ps_ifT c13 hK
          refine pm_ki d_X9_speeds_56 ?_
          refine pm_ist5 d_X9_speeds_57 rfl (by decide) ?_
          refine pm_ki d_X9_speeds_59 ?_
          refine pm_ist6 d_X9_speeds_60 rfl (by decide) ?_
          refine pm_ki d_X9_speeds_62 ?_
          refine pm_ist7 d_X9_speeds_63 rfl (by decide) ?_
          refine pm_ki d_X9_speeds_65 ?_
          refine pm_ist8 d_X9_speeds_66 rfl (by decide) ?_
          refine L_X9_speeds_68 _ (by decide) p1 p2 p3 v11 _ _ _ _ _ _ (ps_ok.mono (ps_bdE hK) ?_)
          rintro ⟨v24, v25, v26, v27⟩ σ23 hT
          clear hK
          have hK := hT
          clear hT
          refine pm_ild d_X9_speeds_118 rfl ?_
          refine pm_if_ne d_X9_speeds_119 (fun c28 => ?_) (fun c28 => ?_)
          · replace hK := ps_ifF c28 hK
            refine pm_ild d_X9_speeds_127 rfl ?_
            refine pm_ki d_X9_speeds_128 ?_
            refine pm_icmp_ne d_X9_speeds_129 (fun c29 => ?_) (fun c29 => ?_)
            · replace hK := ps_ifF c29 hK
              refine pm_ild d_X9_speeds_137 rfl ?_
              have hQ := ps_so hK
              exact ps_iret rfl d_X9_speeds_139 ⟨_, rfl, hQ⟩
            · replace hK := ps_ifT c29 hK
              refine pm_ild d_X9_speeds_132 rfl ?_
              refine pm_goto d_X9_speeds_134 ?_
              have hQ := ps_so hK
              exact ps_iret rfl d_X9_speeds_139 ⟨_, rfl, hQ⟩
          · replace hK := ps_ifT c28 hK
            refine pm_ild d_X9_speeds_122 rfl ?_
            refine pm_goto d_X9_speeds_124 ?_
            have hQ := ps_so hK
            exact ps_iret rfl d_X9_speeds_139 ⟨_, rfl, hQ⟩
        · replace hK := ps_ifF c13 hK
          refine pm_ild d_X9_speeds_53 rfl ?_
          have hQ := ps_so hK
          exact ps_iret rfl d_X9_speeds_55 ⟨_, rfl, hQ⟩
      · replace hK := ps_ifT c10 hK
        refine pm_ki d_X9_speeds_38 ?_
        have hQ := ps_so hK
        exact ps_iret rfl d_X9_speeds_40 ⟨_, rfl, hQ⟩
def qX9_starved_41  (y1 : Int32) (y2 : Int32) : Nat → Int32 → Int32 → ps_S → Option (((Int32 × Int32)) × ps_S)
  | 0, _, _, _ => none
  | n + 1, x3, x4, σ =>
    if y2 ≤ x4 then
    some ((x3, x4), σ)
    else
    ps_bd (qX9_ticksOnce σ) (fun _ σ12 =>
    if ps_in ((29 + y1)) 83 = true then
    ps_let (σ12.1 335 ((29 + y1)).toNatClampNeg) fun v13 =>
    if v13 = 0 then
    ps_bd (qX9_dirtyOn y1 σ12) (fun v17 σ18 =>
    if v17 ≤ 0 then
    ps_let ((x3 + 0)) fun v20 =>
    ps_let (x4 + 1) fun v21 =>
    qX9_starved_41 y1 y2 n v20 v21 σ18
    else
    ps_let ((x3 + 1)) fun v22 =>
    ps_let (x4 + 1) fun v23 =>
    qX9_starved_41 y1 y2 n v22 v23 σ18)
    else
    ps_let ((x3 + 0)) fun v15 =>
    ps_let (x4 + 1) fun v16 =>
    qX9_starved_41 y1 y2 n v15 v16 σ12
    else none)
set_option maxRecDepth 100000 in
theorem L_X9_starved_41 {g : pm_G} (D : Nat) (hD : 6 ≤ D) {P : Int32 → ps_S → Prop}  (y1 : Int32) (y2 : Int32) : ∀ (n : Nat) (x3 : Int32) (x4 : Int32) (σ : ps_S), ps_ok (qX9_starved_41 y1 y2 n x3 x4 σ) (fun res σ => match res with | (x3, x4) => pm_W g mX9_starved (ps_F g D (ps_qI P)) 0 0 85 [some (.ref (g.2.2.1 + 327)), some (.int y1), some (.int y2), some (.int x3), some (.int x4)] [] 345 (ps_E g σ)) → pm_W g mX9_starved (ps_F g D (ps_qI P)) 0 0 41 [some (.ref (g.2.2.1 + 327)), some (.int y1), some (.int y2), some (.int x3), some (.int x4)] [] 345 (ps_E g σ) := by
  intro n
  induction n with
  | zero => intro x3 x4 σ hK; exact (ps_no hK).elim
  | succ n ih =>
    intro x3 x4 σ hK
    rw [qX9_starved_41] at hK
    refine pm_ild d_X9_starved_41 rfl ?_
    refine pm_ild d_X9_starved_43 rfl ?_
    refine pm_icmp_ge d_X9_starved_44 (fun c10 => ?_) (fun c10 => ?_)
    · replace hK := ps_ifT c10 hK
      exact ps_so hK
    · replace hK := ps_ifF c10 hK
      refine pm_ald d_X9_starved_47 rfl ?_
      refine ps_cVV d_X9_starved_48 mv_X9_ticksOnce at_327 ob_8_0 rfl (As := []) rfl rfl (ps_room.of (by omega) (by decide)) (Nat.le_of_ble_eq_true rfl) (C_X9_ticksOnce σ _ (ps_bdE hK)) ?_
      intro σ12 hT
      clear hK
      have hK := hT
      clear hT
      refine pm_ild d_X9_starved_51 rfl ?_
      refine pm_ald d_X9_starved_52 rfl ?_
      refine ps_getR (q := 335) d_X9_starved_53 at_327 f_8_0_19 rfl ?_
      refine pm_ki d_X9_starved_56 ?_
      refine pm_ild d_X9_starved_58 rfl ?_
      refine pm_iadd d_X9_starved_59 ?_
      obtain ⟨b24, hT⟩ := ps_gd hK
      replace hK := hT
      clear hT
      refine ps_iald d_X9_starved_60 at_335 a_8_8 (ps_in_of b24) rfl ?_
      refine ps_topI (fun v13 ev13 => ?_)
      replace hK := ps_ltE ev13 hK
      refine pm_if_ne d_X9_starved_61 (fun c14 => ?_) (fun c14 => ?_)
      · replace hK := ps_ifF c14 hK
        refine pm_ki d_X9_starved_76 ?_
        refine pm_iadd d_X9_starved_77 ?_
        refine ps_topI (fun v15 ev15 => ?_)
        replace hK := ps_ltE ev15 hK
        refine pm_ist3 d_X9_starved_78 rfl (by decide) ?_
        refine pm_inc4 d_X9_starved_79 rfl ?_
        obtain ⟨v16, ev16⟩ : ∃ y : Int32, y = x4 + 1 := ⟨_, rfl⟩
        rw [← ev16]
        replace hK := ps_ltE ev16 hK
        refine pm_goto d_X9_starved_82 ?_
        exact ih _ _ _ hK
      · replace hK := ps_ifT c14 hK
        refine pm_ald d_X9_starved_64 rfl ?_
        refine pm_ild d_X9_starved_65 rfl ?_
        refine ps_cVI d_X9_starved_66 mv_X9_dirtyOn at_327 ob_8_0 rfl (As := [.int y1]) rfl rfl (ps_room.of (by omega) (by decide)) (Nat.le_of_ble_eq_true rfl) (C_X9_dirtyOn y1 σ12 _ (ps_bdE hK)) ?_
        intro v17 σ18 hT
        clear hK
        have hK := hT
        clear hT
        refine pm_if_le d_X9_starved_69 (fun c19 => ?_) (fun c19 => ?_)
        · replace hK := ps_ifT c19 hK
          refine pm_ki d_X9_starved_76 ?_
          refine pm_iadd d_X9_starved_77 ?_
          refine ps_topI (fun v20 ev20 => ?_)
          replace hK := ps_ltE ev20 hK
          refine pm_ist3 d_X9_starved_78 rfl (by decide) ?_
          refine pm_inc4 d_X9_starved_79 rfl ?_
          obtain ⟨v21, ev21⟩ : ∃ y : Int32, y = x4 + 1 := ⟨_, rfl⟩
          rw [← ev21]
          replace hK := ps_ltE ev21 hK
          refine pm_goto d_X9_starved_82 ?_
          exact ih _ _ _ hK
        · replace hK := ps_ifF c19 hK
          refine pm_ki d_X9_starved_72 ?_
          refine pm_goto d_X9_starved_73 ?_
          refine pm_iadd d_X9_starved_77 ?_
          refine ps_topI (fun v22 ev22 => ?_)
          replace hK := ps_ltE ev22 hK
          refine pm_ist3 d_X9_starved_78 rfl (by decide) ?_
          refine pm_inc4 d_X9_starved_79 rfl ?_
          obtain ⟨v23, ev23⟩ : ∃ y : Int32, y = x4 + 1 := ⟨_, rfl⟩
          rw [← ev23]
          replace hK := ps_ltE ev23 hK
          refine pm_goto d_X9_starved_82 ?_
          exact ih _ _ _ hK
def qX9_starved (p1 : Int32) (p2 : Int32) (σ : ps_S) : Option (Int32 × ps_S) :=
  ps_let (ps_rI σ 327 (upd (σ.1 327) 0 0)) fun σ1 =>
  ps_bd (qX9_isDevice (((p1).toInt64)) σ1) (fun v2 σ3 =>
  if v2 = 0 then
  some ((-2), σ3)
  else
  ps_bd (qX9_within (((p2).toInt64)) 1 999 σ3) (fun v5 σ6 =>
  if v5 = 0 then
  some ((-3), σ6)
  else
  ps_bd (qX9_begins σ6) (fun _ σ9 =>
  ps_bd (qX9_starved_41 p1 p2 ps_N 0 0 σ9) (fun res σ25 => match res with
  | (v26, v27) =>
    some (v26, σ25)))))
set_option maxRecDepth 100000 in
theorem C_X9_starved {g : pm_G} (p1 : Int32) (p2 : Int32) (σ : ps_S) (P : Int32 → ps_S → Prop) (hK : ps_ok (qX9_starved p1 p2 σ) P) : ps_C g mX9_starved 6 [.ref (g.2.2.1 + 327), .int p1, .int p2] σ (ps_qI P) := by
  unfold qX9_starved at hK
  refine ps_C.of (ls := [some (.ref (g.2.2.1 + 327)), some (.int p1), some (.int p2), none, none]) 2 (by decide) rfl (Nat.le_of_ble_eq_true rfl) rfl ?_
  refine pm_ald d_X9_starved_0 rfl ?_
  refine pm_ki d_X9_starved_1 ?_
  refine ps_putI d_X9_starved_2 at_327 f_8_0_0 rfl rfl ?_
  refine ps_nmS (fun σ1 eσ1 => ?_)
  replace hK := ps_ltE eσ1 hK
  refine pm_ald d_X9_starved_5 rfl ?_
  refine pm_ild d_X9_starved_6 rfl ?_
  refine pm_i2l d_X9_starved_7 ?_
  refine ps_cVI d_X9_starved_8 mv_X9_isDevice at_327 ob_8_0 rfl (As := [.long ((p1).toInt64)]) rfl rfl (ps_room.of (by omega) (by decide)) (Nat.le_of_ble_eq_true rfl) (C_X9_isDevice (((p1).toInt64)) σ1 _ (ps_bdE hK)) ?_
  intro v2 σ3 hT
  clear hK
  have hK := hT
  clear hT
  refine pm_if_ne d_X9_starved_11 (fun c4 => ?_) (fun c4 => ?_)
  · replace hK := ps_ifF c4 hK
    refine pm_ild d_X9_starved_17 rfl ?_
    refine pm_i2l d_X9_starved_18 ?_
    refine pm_kl d_X9_starved_19 ?_
    refine pm_kl d_X9_starved_20 ?_
    refine ps_cSI d_X9_starved_23 ms_X9_within (As := [.long ((p2).toInt64), .long 1, .long 999]) rfl rfl (ps_room.of (by omega) (by decide)) (Nat.le_of_ble_eq_true rfl) (C_X9_within (((p2).toInt64)) 1 999 σ3 _ (ps_bdE hK)) ?_
    intro v5 σ6 hT
    clear hK
    have hK := hT
    clear hT
    refine pm_if_ne d_X9_starved_26 (fun c7 => ?_) (fun c7 => ?_)
    · replace hK := ps_ifF c7 hK
      refine pm_ald d_X9_starved_32 rfl ?_
      refine ps_cVV d_X9_starved_33 mv_X9_begins at_327 ob_8_0 rfl (As := []) rfl rfl (ps_room.of (by omega) (by decide)) (Nat.le_of_ble_eq_true rfl) (C_X9_begins σ6 _ (ps_bdE hK)) ?_
      intro σ9 hT
      clear hK
      have hK := hT
      clear hT
      refine pm_ki d_X9_starved_36 ?_
      refine pm_ist3 d_X9_starved_37 rfl (by decide) ?_
      refine pm_ki d_X9_starved_38 ?_
      refine pm_ist4 d_X9_starved_39 rfl (by decide) ?_
      refine L_X9_starved_41 _ (by decide) p1 p2 _ _ _ _ (ps_ok.mono (ps_bdE hK) ?_)
      rintro ⟨v26, v27⟩ σ25 hT
      clear hK
      have hK := hT
      clear hT
      refine pm_ild d_X9_starved_85 rfl ?_
      have hQ := ps_so hK
      exact ps_iret rfl d_X9_starved_86 ⟨_, rfl, hQ⟩
    · replace hK := ps_ifT c7 hK
      refine pm_ki d_X9_starved_29 ?_
      have hQ := ps_so hK
      exact ps_iret rfl d_X9_starved_31 ⟨_, rfl, hQ⟩
  · replace hK := ps_ifT c4 hK
    refine pm_ki d_X9_starved_14 ?_
    have hQ := ps_so hK
    exact ps_iret rfl d_X9_starved_16 ⟨_, rfl, hQ⟩
def qX9_ticks (p1 : Int32) (σ : ps_S) : Option (Int32 × ps_S) :=
  ps_let (ps_rI σ 327 (upd (σ.1 327) 0 0)) fun σ1 =>
  ps_bd (qX9_within (((p1).toInt64)) 1 999 σ1) (fun v2 σ3 =>
  if v2 = 0 then
  some ((-3), σ3)
  else
  ps_bd (qX9_stores σ3) (fun _ σ6 =>
  ps_bd (qX9_goesTicks p1 σ6) (fun v7 σ8 =>
  ps_bd (qX9_notes σ8) (fun _ σ10 =>
  some (v7, σ10)))))
set_option maxRecDepth 100000 in
theorem C_X9_ticks {g : pm_G} (p1 : Int32) (σ : ps_S) (P : Int32 → ps_S → Prop) (hK : ps_ok (qX9_ticks p1 σ) P) : ps_C g mX9_ticks 8 [.ref (g.2.2.1 + 327), .int p1] σ (ps_qI P) := by
  unfold qX9_ticks at hK
  refine ps_C.of (ls := [some (.ref (g.2.2.1 + 327)), some (.int p1), none]) 1 (by decide) rfl (Nat.le_of_ble_eq_true rfl) rfl ?_
  refine pm_ald d_X9_ticks_0 rfl ?_
  refine pm_ki d_X9_ticks_1 ?_
  refine ps_putI d_X9_ticks_2 at_327 f_8_0_0 rfl rfl ?_
  refine ps_nmS (fun σ1 eσ1 => ?_)
  replace hK := ps_ltE eσ1 hK
  refine pm_ild d_X9_ticks_5 rfl ?_
  refine pm_i2l d_X9_ticks_6 ?_
  refine pm_kl d_X9_ticks_7 ?_
  refine pm_kl d_X9_ticks_8 ?_
  refine ps_cSI d_X9_ticks_11 ms_X9_within (As := [.long ((p1).toInt64), .long 1, .long 999]) rfl rfl (ps_room.of (by omega) (by decide)) (Nat.le_of_ble_eq_true rfl) (C_X9_within (((p1).toInt64)) 1 999 σ1 _ (ps_bdE hK)) ?_
  intro v2 σ3 hT
  clear hK
  have hK := hT
  clear hT
  refine pm_if_ne d_X9_ticks_14 (fun c4 => ?_) (fun c4 => ?_)
  · replace hK := ps_ifF c4 hK
    refine pm_ald d_X9_ticks_20 rfl ?_
    refine ps_cVV d_X9_ticks_21 mv_X9_stores at_327 ob_8_0 rfl (As := []) rfl rfl (ps_room.of (by omega) (by decide)) (Nat.le_of_ble_eq_true rfl) (C_X9_stores σ3 _ (ps_bdE hK)) ?_
    intro σ6 hT
    clear hK
    have hK := hT
    clear hT
    refine pm_ald d_X9_ticks_24 rfl ?_
    refine pm_ild d_X9_ticks_25 rfl ?_
    refine ps_cVI d_X9_ticks_26 mv_X9_goesTicks at_327 ob_8_0 rfl (As := [.int p1]) rfl rfl (ps_room.of (by omega) (by decide)) (Nat.le_of_ble_eq_true rfl) (C_X9_goesTicks p1 σ6 _ (ps_bdE hK)) ?_
    intro v7 σ8 hT
    clear hK
    have hK := hT
    clear hT
    refine pm_ist2 d_X9_ticks_29 rfl (by decide) ?_
    refine pm_ald d_X9_ticks_30 rfl ?_
    refine ps_cVV d_X9_ticks_31 mv_X9_notes at_327 ob_8_0 rfl (As := []) rfl rfl (ps_room.of (by omega) (by decide)) (Nat.le_of_ble_eq_true rfl) (C_X9_notes σ8 _ (ps_bdE hK)) ?_
    intro σ10 hT
    clear hK
    have hK := hT
    clear hT
    refine pm_ild d_X9_ticks_34 rfl ?_
    have hQ := ps_so hK
    exact ps_iret rfl d_X9_ticks_35 ⟨_, rfl, hQ⟩
  · replace hK := ps_ifT c4 hK
    refine pm_ki d_X9_ticks_17 ?_
    have hQ := ps_so hK
    exact ps_iret rfl d_X9_ticks_19 ⟨_, rfl, hQ⟩
def qX9_undo_44  (y1 : Int32) : Nat → Int32 → ps_S → Option (((Int32)) × ps_S)
  | 0, _, _ => none
  | n + 1, x2, σ =>
    if 83 ≤ x2 then
    some (x2, σ)
    else
    ps_let (σ.1 328 118) fun v10 =>
    if ps_in ((((119 + ((83 * v10)))) + x2)) 5550 = true then
    ps_let (σ.1 328 ((((119 + ((83 * v10)))) + x2)).toNatClampNeg) fun v11 =>
    if ps_in ((35 + x2)) 5550 = true then
    ps_let (ps_rI σ 328 (upd (σ.1 328) ((35 + x2)).toNatClampNeg v11)) fun σ12 =>
    ps_let (x2 + 1) fun v13 =>
    qX9_undo_44 y1 n v13 σ12
    else none
    else none
set_option maxRecDepth 100000 in
theorem L_X9_undo_44 {g : pm_G} (D : Nat) (hD : 2 ≤ D) {P : Int32 → ps_S → Prop}  (y1 : Int32) : ∀ (n : Nat) (x2 : Int32) (σ : ps_S), ps_ok (qX9_undo_44 y1 n x2 σ) (fun res σ => match res with | x2 => pm_W g mX9_undo (ps_F g D (ps_qI P)) 0 0 85 [some (.ref (g.2.2.1 + 327)), some (.int y1), some (.int x2)] [] 345 (ps_E g σ)) → pm_W g mX9_undo (ps_F g D (ps_qI P)) 0 0 44 [some (.ref (g.2.2.1 + 327)), some (.int y1), some (.int x2)] [] 345 (ps_E g σ) := by
  intro n
  induction n with
  | zero => intro x2 σ hK; exact (ps_no hK).elim
  | succ n ih =>
    intro x2 σ hK
    rw [qX9_undo_44] at hK
    refine pm_ild d_X9_undo_44 rfl ?_
    refine pm_ki d_X9_undo_45 ?_
    refine pm_icmp_ge d_X9_undo_47 (fun c9 => ?_) (fun c9 => ?_)
    · replace hK := ps_ifT c9 hK
      exact ps_so hK
    · replace hK := ps_ifF c9 hK
      refine pm_ald d_X9_undo_50 rfl ?_
      refine ps_getR (q := 328) d_X9_undo_51 at_327 f_8_0_1 rfl ?_
      refine pm_ki d_X9_undo_54 ?_
      refine pm_ild d_X9_undo_56 rfl ?_
      refine pm_iadd d_X9_undo_57 ?_
      refine pm_ald d_X9_undo_58 rfl ?_
      refine ps_getR (q := 328) d_X9_undo_59 at_327 f_8_0_1 rfl ?_
      refine pm_ki d_X9_undo_62 ?_
      refine pm_ki d_X9_undo_64 ?_
      refine pm_ald d_X9_undo_66 rfl ?_
      refine ps_getR (q := 328) d_X9_undo_67 at_327 f_8_0_1 rfl ?_
      refine pm_ki d_X9_undo_70 ?_
      refine ps_iald (x := σ.1 328 118) d_X9_undo_72 at_328 a_8_1 (ps_in_of rfl) rfl ?_
      refine ps_topI (fun v10 ev10 => ?_)
      replace hK := ps_ltE ev10 hK
      refine pm_imul d_X9_undo_73 ?_
      refine pm_iadd d_X9_undo_74 ?_
      refine pm_ild d_X9_undo_75 rfl ?_
      refine pm_iadd d_X9_undo_76 ?_
      obtain ⟨b15, hT⟩ := ps_gd hK
      replace hK := hT
      clear hT
      refine ps_iald d_X9_undo_77 at_328 a_8_1 (ps_in_of b15) rfl ?_
      refine ps_topI (fun v11 ev11 => ?_)
      replace hK := ps_ltE ev11 hK
      obtain ⟨b14, hT⟩ := ps_gd hK
      replace hK := hT
      clear hT
      refine ps_iast d_X9_undo_78 at_328 a_8_1 (ps_in_of b14) ?_
      refine ps_nmS (fun σ12 eσ12 => ?_)
      replace hK := ps_ltE eσ12 hK
      refine pm_inc2 d_X9_undo_79 rfl ?_
      obtain ⟨v13, ev13⟩ : ∃ y : Int32, y = x2 + 1 := ⟨_, rfl⟩
      rw [← ev13]
      replace hK := ps_ltE ev13 hK
      refine pm_goto d_X9_undo_82 ?_
      exact ih _ _ hK
def qX9_undo_87  (y1 : Int32) : Nat → Int32 → ps_S → Option (((Int32)) × ps_S)
  | 0, _, _ => none
  | n + 1, x2, σ =>
    if 4 ≤ x2 then
    some (x2, σ)
    else
    ps_let (σ.1 328 118) fun v19 =>
    if ps_in ((((4 + ((4 * v19)))) + x2)) 132 = true then
    ps_let (σ.2.2 329 ((((4 + ((4 * v19)))) + x2)).toNatClampNeg) fun v20 =>
    if ps_in x2 132 = true then
    ps_let (ps_rD σ 329 (vf_upd (σ.2.2 329) (x2).toNatClampNeg v20)) fun σ21 =>
    ps_let (x2 + 1) fun v22 =>
    qX9_undo_87 y1 n v22 σ21
    else none
    else none
set_option maxRecDepth 100000 in
theorem L_X9_undo_87 {g : pm_G} (D : Nat) (hD : 2 ≤ D) {P : Int32 → ps_S → Prop}  (y1 : Int32) : ∀ (n : Nat) (x2 : Int32) (σ : ps_S), ps_ok (qX9_undo_87 y1 n x2 σ) (fun res σ => match res with | x2 => pm_W g mX9_undo (ps_F g D (ps_qI P)) 0 0 122 [some (.ref (g.2.2.1 + 327)), some (.int y1), some (.int x2)] [] 345 (ps_E g σ)) → pm_W g mX9_undo (ps_F g D (ps_qI P)) 0 0 87 [some (.ref (g.2.2.1 + 327)), some (.int y1), some (.int x2)] [] 345 (ps_E g σ) := by
  intro n
  induction n with
  | zero => intro x2 σ hK; exact (ps_no hK).elim
  | succ n ih =>
    intro x2 σ hK
    rw [qX9_undo_87] at hK
    refine pm_ild d_X9_undo_87 rfl ?_
    refine pm_ki d_X9_undo_88 ?_
    refine pm_icmp_ge d_X9_undo_89 (fun c18 => ?_) (fun c18 => ?_)
    · replace hK := ps_ifT c18 hK
      exact ps_so hK
    · replace hK := ps_ifF c18 hK
      refine pm_ald d_X9_undo_92 rfl ?_
      refine ps_getR (q := 329) d_X9_undo_93 at_327 f_8_0_2 rfl ?_
      refine pm_ild d_X9_undo_96 rfl ?_
      refine pm_ald d_X9_undo_97 rfl ?_
      refine ps_getR (q := 329) d_X9_undo_98 at_327 f_8_0_2 rfl ?_
      refine pm_ki d_X9_undo_101 ?_
      refine pm_ki d_X9_undo_102 ?_
      refine pm_ald d_X9_undo_103 rfl ?_
      refine ps_getR (q := 328) d_X9_undo_104 at_327 f_8_0_1 rfl ?_
      refine pm_ki d_X9_undo_107 ?_
      refine ps_iald (x := σ.1 328 118) d_X9_undo_109 at_328 a_8_1 (ps_in_of rfl) rfl ?_
      refine ps_topI (fun v19 ev19 => ?_)
      replace hK := ps_ltE ev19 hK
      refine pm_imul d_X9_undo_110 ?_
      refine pm_iadd d_X9_undo_111 ?_
      refine pm_ild d_X9_undo_112 rfl ?_
      refine pm_iadd d_X9_undo_113 ?_
      obtain ⟨b24, hT⟩ := ps_gd hK
      replace hK := hT
      clear hT
      refine ps_dald d_X9_undo_114 at_329 a_8_2 (ps_in_of b24) rfl ?_
      refine ps_topD (fun v20 ev20 => ?_)
      replace hK := ps_ltE ev20 hK
      obtain ⟨b23, hT⟩ := ps_gd hK
      replace hK := hT
      clear hT
      refine ps_dast d_X9_undo_115 at_329 a_8_2 (ps_in_of b23) ?_
      refine ps_nmS (fun σ21 eσ21 => ?_)
      replace hK := ps_ltE eσ21 hK
      refine pm_inc2 d_X9_undo_116 rfl ?_
      obtain ⟨v22, ev22⟩ : ∃ y : Int32, y = x2 + 1 := ⟨_, rfl⟩
      rw [← ev22]
      replace hK := ps_ltE ev22 hK
      refine pm_goto d_X9_undo_119 ?_
      exact ih _ _ hK
def qX9_undo (p1 : Int32) (σ : ps_S) : Option (Int32 × ps_S) :=
  ps_let (ps_rI σ 327 (upd (σ.1 327) 0 0)) fun σ1 =>
  ps_bd (qX9_within (((p1).toInt64)) 1 10 σ1) (fun v2 σ3 =>
  if v2 = 0 then
  some ((-3), σ3)
  else
  ps_let (σ3.1 328 118) fun v5 =>
  if p1 ≤ v5 then
  ps_let (σ3.1 328 118) fun v7 =>
  ps_let (ps_rI σ3 328 (upd (σ3.1 328) 118 ((v7 - p1)))) fun σ8 =>
  ps_bd (qX9_undo_44 p1 ps_N 0 σ8) (fun res σ16 => match res with
  | v17 =>
    ps_bd (qX9_undo_87 p1 ps_N 0 σ16) (fun res σ25 => match res with
    | v26 =>
      ps_let (σ25.1 328 118) fun v27 =>
      some (v27, σ25)))
  else
  some ((-3), σ3))
set_option maxRecDepth 100000 in
theorem C_X9_undo {g : pm_G} (p1 : Int32) (σ : ps_S) (P : Int32 → ps_S → Prop) (hK : ps_ok (qX9_undo p1 σ) P) : ps_C g mX9_undo 2 [.ref (g.2.2.1 + 327), .int p1] σ (ps_qI P) := by
  unfold qX9_undo at hK
  refine ps_C.of (ls := [some (.ref (g.2.2.1 + 327)), some (.int p1), none]) 1 (by decide) rfl (Nat.le_of_ble_eq_true rfl) rfl ?_
  refine pm_ald d_X9_undo_0 rfl ?_
  refine pm_ki d_X9_undo_1 ?_
  refine ps_putI d_X9_undo_2 at_327 f_8_0_0 rfl rfl ?_
  refine ps_nmS (fun σ1 eσ1 => ?_)
  replace hK := ps_ltE eσ1 hK
  refine pm_ild d_X9_undo_5 rfl ?_
  refine pm_i2l d_X9_undo_6 ?_
  refine pm_kl d_X9_undo_7 ?_
  refine pm_kl d_X9_undo_8 ?_
  refine ps_cSI d_X9_undo_11 ms_X9_within (As := [.long ((p1).toInt64), .long 1, .long 10]) rfl rfl (ps_room.of (by omega) (by decide)) (Nat.le_of_ble_eq_true rfl) (C_X9_within (((p1).toInt64)) 1 10 σ1 _ (ps_bdE hK)) ?_
  intro v2 σ3 hT
  clear hK
  have hK := hT
  clear hT
  refine pm_if_eq d_X9_undo_14 (fun c4 => ?_) (fun c4 => ?_)
  · replace hK := ps_ifT c4 hK
    refine pm_ki d_X9_undo_28 ?_
    have hQ := ps_so hK
    exact ps_iret rfl d_X9_undo_30 ⟨_, rfl, hQ⟩
  · replace hK := ps_ifF c4 hK
    refine pm_ild d_X9_undo_17 rfl ?_
    refine pm_ald d_X9_undo_18 rfl ?_
    refine ps_getR (q := 328) d_X9_undo_19 at_327 f_8_0_1 rfl ?_
    refine pm_ki d_X9_undo_22 ?_
    refine ps_iald (x := σ3.1 328 118) d_X9_undo_24 at_328 a_8_1 (ps_in_of rfl) rfl ?_
    refine ps_topI (fun v5 ev5 => ?_)
    replace hK := ps_ltE ev5 hK
    refine pm_icmp_le d_X9_undo_25 (fun c6 => ?_) (fun c6 => ?_)
    · replace hK := ps_ifT c6 hK
      refine pm_ald d_X9_undo_31 rfl ?_
      refine ps_getR (q := 328) d_X9_undo_32 at_327 f_8_0_1 rfl ?_
      refine pm_ki d_X9_undo_35 ?_
      refine pm_dup2 d_X9_undo_37 rfl rfl ?_
      refine ps_iald (x := σ3.1 328 118) d_X9_undo_38 at_328 a_8_1 (ps_in_of rfl) rfl ?_
      refine ps_topI (fun v7 ev7 => ?_)
      replace hK := ps_ltE ev7 hK
      refine pm_ild d_X9_undo_39 rfl ?_
      refine pm_isub d_X9_undo_40 ?_
      refine ps_iast d_X9_undo_41 at_328 a_8_1 (ps_in_of rfl) ?_
      refine ps_nmS (fun σ8 eσ8 => ?_)
      replace hK := ps_ltE eσ8 hK
      refine pm_ki d_X9_undo_42 ?_
      refine pm_ist2 d_X9_undo_43 rfl (by decide) ?_
      refine L_X9_undo_44 _ (by decide) p1 _ _ _ (ps_ok.mono (ps_bdE hK) ?_)
      rintro v17 σ16 hT
      clear hK
      have hK := hT
      clear hT
      refine pm_ki d_X9_undo_85 ?_
      refine pm_ist2 d_X9_undo_86 rfl (by decide) ?_
      refine L_X9_undo_87 _ (by decide) p1 _ _ _ (ps_ok.mono (ps_bdE hK) ?_)
      rintro v26 σ25 hT
      clear hK
      have hK := hT
      clear hT
      refine pm_ald d_X9_undo_122 rfl ?_
      refine ps_getR (q := 328) d_X9_undo_123 at_327 f_8_0_1 rfl ?_
      refine pm_ki d_X9_undo_126 ?_
      refine ps_iald (x := σ25.1 328 118) d_X9_undo_128 at_328 a_8_1 (ps_in_of rfl) rfl ?_
      refine ps_topI (fun v27 ev27 => ?_)
      replace hK := ps_ltE ev27 hK
      have hQ := ps_so hK
      exact ps_iret rfl d_X9_undo_129 ⟨_, rfl, hQ⟩
    · replace hK := ps_ifF c6 hK
      refine pm_ki d_X9_undo_28 ?_
      have hQ := ps_so hK
      exact ps_iret rfl d_X9_undo_30 ⟨_, rfl, hQ⟩
def qX9_wants (p1 : Int32) (p2 : Int32) (σ : ps_S) : Option (Int32 × ps_S) :=
  ps_let (ps_rI σ 327 (upd (σ.1 327) 0 0)) fun σ1 =>
  ps_bd (qX9_isWriter (((p1).toInt64)) σ1) (fun v2 σ3 =>
  if v2 = 0 then
  some ((-11), σ3)
  else
  ps_bd (qX9_within (((p2).toInt64)) 0 99 σ3) (fun v5 σ6 =>
  if v5 = 0 then
  some ((-11), σ6)
  else
  ps_bd (qX9_stores σ6) (fun _ σ9 =>
  if ps_in ((88 + p1)) 5550 = true then
  ps_let (ps_rI σ9 328 (upd (σ9.1 328) ((88 + p1)).toNatClampNeg p2)) fun σ10 =>
  ps_bd (qX9_notes σ10) (fun _ σ12 =>
  if ps_in ((53 + p1)) 83 = true then
  ps_let (σ12.1 337 ((53 + p1)).toNatClampNeg) fun v13 =>
  some (v13, σ12)
  else none)
  else none)))
set_option maxRecDepth 100000 in
theorem C_X9_wants {g : pm_G} (p1 : Int32) (p2 : Int32) (σ : ps_S) (P : Int32 → ps_S → Prop) (hK : ps_ok (qX9_wants p1 p2 σ) P) : ps_C g mX9_wants 3 [.ref (g.2.2.1 + 327), .int p1, .int p2] σ (ps_qI P) := by
  unfold qX9_wants at hK
  refine ps_C.of (ls := [some (.ref (g.2.2.1 + 327)), some (.int p1), some (.int p2)]) 0 (by decide) rfl (Nat.le_of_ble_eq_true rfl) rfl ?_
  refine pm_ald d_X9_wants_0 rfl ?_
  refine pm_ki d_X9_wants_1 ?_
  refine ps_putI d_X9_wants_2 at_327 f_8_0_0 rfl rfl ?_
  refine ps_nmS (fun σ1 eσ1 => ?_)
  replace hK := ps_ltE eσ1 hK
  refine pm_ald d_X9_wants_5 rfl ?_
  refine pm_ild d_X9_wants_6 rfl ?_
  refine pm_i2l d_X9_wants_7 ?_
  refine ps_cVI d_X9_wants_8 mv_X9_isWriter at_327 ob_8_0 rfl (As := [.long ((p1).toInt64)]) rfl rfl (ps_room.of (by omega) (by decide)) (Nat.le_of_ble_eq_true rfl) (C_X9_isWriter (((p1).toInt64)) σ1 _ (ps_bdE hK)) ?_
  intro v2 σ3 hT
  clear hK
  have hK := hT
  clear hT
  refine pm_if_eq d_X9_wants_11 (fun c4 => ?_) (fun c4 => ?_)
  · replace hK := ps_ifT c4 hK
    refine pm_ki d_X9_wants_26 ?_
    have hQ := ps_so hK
    exact ps_iret rfl d_X9_wants_28 ⟨_, rfl, hQ⟩
  · replace hK := ps_ifF c4 hK
    refine pm_ild d_X9_wants_14 rfl ?_
    refine pm_i2l d_X9_wants_15 ?_
    refine pm_kl d_X9_wants_16 ?_
    refine pm_kl d_X9_wants_17 ?_
    refine ps_cSI d_X9_wants_20 ms_X9_within (As := [.long ((p2).toInt64), .long 0, .long 99]) rfl rfl (ps_room.of (by omega) (by decide)) (Nat.le_of_ble_eq_true rfl) (C_X9_within (((p2).toInt64)) 0 99 σ3 _ (ps_bdE hK)) ?_
    intro v5 σ6 hT
    clear hK
    have hK := hT
    clear hT
    refine pm_if_ne d_X9_wants_23 (fun c7 => ?_) (fun c7 => ?_)
    · replace hK := ps_ifF c7 hK
      refine pm_ald d_X9_wants_29 rfl ?_
      refine ps_cVV d_X9_wants_30 mv_X9_stores at_327 ob_8_0 rfl (As := []) rfl rfl (ps_room.of (by omega) (by decide)) (Nat.le_of_ble_eq_true rfl) (C_X9_stores σ6 _ (ps_bdE hK)) ?_
      intro σ9 hT
      clear hK
      have hK := hT
      clear hT
      refine pm_ald d_X9_wants_33 rfl ?_
      refine ps_getR (q := 328) d_X9_wants_34 at_327 f_8_0_1 rfl ?_
      refine pm_ki d_X9_wants_37 ?_
      refine pm_ild d_X9_wants_39 rfl ?_
      refine pm_iadd d_X9_wants_40 ?_
      refine pm_ild d_X9_wants_41 rfl ?_
      obtain ⟨b15, hT⟩ := ps_gd hK
      replace hK := hT
      clear hT
      refine ps_iast d_X9_wants_42 at_328 a_8_1 (ps_in_of b15) ?_
      refine ps_nmS (fun σ10 eσ10 => ?_)
      replace hK := ps_ltE eσ10 hK
      refine pm_ald d_X9_wants_43 rfl ?_
      refine ps_cVV d_X9_wants_44 mv_X9_notes at_327 ob_8_0 rfl (As := []) rfl rfl (ps_room.of (by omega) (by decide)) (Nat.le_of_ble_eq_true rfl) (C_X9_notes σ10 _ (ps_bdE hK)) ?_
      intro σ12 hT
      clear hK
      have hK := hT
      clear hT
      refine pm_ald d_X9_wants_47 rfl ?_
      refine ps_getR (q := 337) d_X9_wants_48 at_327 f_8_0_26 rfl ?_
      refine pm_ki d_X9_wants_51 ?_
      refine pm_ild d_X9_wants_53 rfl ?_
      refine pm_iadd d_X9_wants_54 ?_
      obtain ⟨b14, hT⟩ := ps_gd hK
      replace hK := hT
      clear hT
      refine ps_iald d_X9_wants_55 at_337 a_8_10 (ps_in_of b14) rfl ?_
      refine ps_topI (fun v13 ev13 => ?_)
      replace hK := ps_ltE ev13 hK
      have hQ := ps_so hK
      exact ps_iret rfl d_X9_wants_56 ⟨_, rfl, hQ⟩
    · replace hK := ps_ifT c7 hK
      refine pm_ki d_X9_wants_26 ?_
      have hQ := ps_so hK
      exact ps_iret rfl d_X9_wants_28 ⟨_, rfl, hQ⟩
def qX9_write (p1 : Int32) (p2 : Int32) (p3 : Int64) (σ : ps_S) : Option (Int64 × ps_S) :=
  ps_let (ps_rI σ 327 (upd (σ.1 327) 0 0)) fun σ1 =>
  ps_bd (qX9_noTray p1 σ1) (fun v2 σ3 =>
  if v2 = 0 then
  if ps_in p1 4 = true then
  ps_let (σ3.1 343 (p1).toNatClampNeg) fun v5 =>
  ps_bd (qX9_within (((p2).toInt64)) 0 ((((v5 - 1)).toInt64)) σ3) (fun v6 σ7 =>
  if v6 = 0 then
  some ((-7), σ7)
  else
  if ps_in p1 4 = true then
  ps_let (σ7.1 342 (p1).toNatClampNeg) fun v9 =>
  ps_bd (qX9_cut p3 v9 σ7) (fun v10 σ11 =>
  if ps_in ((((40 * p1)) + p2)) 160 = true then
  ps_let (ps_rL σ11 344 (vp_updL (σ11.2.1 344) ((((40 * p1)) + p2)).toNatClampNeg v10)) fun σ12 =>
  if ps_in ((((40 * p1)) + p2)) 160 = true then
  ps_let (σ12.2.1 344 ((((40 * p1)) + p2)).toNatClampNeg) fun v13 =>
  some (v13, σ12)
  else none
  else none)
  else none)
  else none
  else
  some (((v2).toInt64), σ3))
set_option maxRecDepth 100000 in
theorem C_X9_write {g : pm_G} (p1 : Int32) (p2 : Int32) (p3 : Int64) (σ : ps_S) (P : Int64 → ps_S → Prop) (hK : ps_ok (qX9_write p1 p2 p3 σ) P) : ps_C g mX9_write 3 [.ref (g.2.2.1 + 327), .int p1, .int p2, .long p3] σ (ps_qL P) := by
  unfold qX9_write at hK
  refine ps_C.of (ls := [some (.ref (g.2.2.1 + 327)), some (.int p1), some (.int p2), some (.long p3), none, none]) 1 (by decide) rfl (Nat.le_of_ble_eq_true rfl) rfl ?_
  refine pm_ald d_X9_write_0 rfl ?_
  refine pm_ki d_X9_write_1 ?_
  refine ps_putI d_X9_write_2 at_327 f_8_0_0 rfl rfl ?_
  refine ps_nmS (fun σ1 eσ1 => ?_)
  replace hK := ps_ltE eσ1 hK
  refine pm_ald d_X9_write_5 rfl ?_
  refine pm_ild d_X9_write_6 rfl ?_
  refine ps_cVI d_X9_write_7 mv_X9_noTray at_327 ob_8_0 rfl (As := [.int p1]) rfl rfl (ps_room.of (by omega) (by decide)) (Nat.le_of_ble_eq_true rfl) (C_X9_noTray p1 σ1 _ (ps_bdE hK)) ?_
  intro v2 σ3 hT
  clear hK
  have hK := hT
  clear hT
  refine pm_ist5 d_X9_write_10 rfl (by decide) ?_
  refine pm_ild d_X9_write_12 rfl ?_
  refine pm_if_eq d_X9_write_14 (fun c4 => ?_) (fun c4 => ?_)
  · replace hK := ps_ifT c4 hK
    refine pm_ild d_X9_write_21 rfl ?_
    refine pm_i2l d_X9_write_22 ?_
    refine pm_kl d_X9_write_23 ?_
    refine pm_ald d_X9_write_24 rfl ?_
    refine ps_getR (q := 343) d_X9_write_25 at_327 f_8_0_36 rfl ?_
    refine pm_ild d_X9_write_28 rfl ?_
    obtain ⟨b17, hT⟩ := ps_gd hK
    replace hK := hT
    clear hT
    refine ps_iald d_X9_write_29 at_343 a_8_16 (ps_in_of b17) rfl ?_
    refine ps_topI (fun v5 ev5 => ?_)
    replace hK := ps_ltE ev5 hK
    refine pm_ki d_X9_write_30 ?_
    refine pm_isub d_X9_write_31 ?_
    refine pm_i2l d_X9_write_32 ?_
    refine ps_cSI d_X9_write_33 ms_X9_within (As := [.long ((p2).toInt64), .long 0, .long (((v5 - 1)).toInt64)]) rfl rfl (ps_room.of (by omega) (by decide)) (Nat.le_of_ble_eq_true rfl) (C_X9_within (((p2).toInt64)) 0 ((((v5 - 1)).toInt64)) σ3 _ (ps_bdE hK)) ?_
    intro v6 σ7 hT
    clear hK
    have hK := hT
    clear hT
    refine pm_if_ne d_X9_write_36 (fun c8 => ?_) (fun c8 => ?_)
    · replace hK := ps_ifF c8 hK
      refine pm_ald d_X9_write_43 rfl ?_
      refine ps_getR (q := 344) d_X9_write_44 at_327 f_8_0_37 rfl ?_
      refine pm_ki d_X9_write_47 ?_
      refine pm_ild d_X9_write_49 rfl ?_
      refine pm_imul d_X9_write_50 ?_
      refine pm_ild d_X9_write_51 rfl ?_
      refine pm_iadd d_X9_write_52 ?_
      refine pm_lld d_X9_write_53 rfl ?_
      refine pm_ald d_X9_write_54 rfl ?_
      refine ps_getR (q := 342) d_X9_write_55 at_327 f_8_0_35 rfl ?_
      refine pm_ild d_X9_write_58 rfl ?_
      obtain ⟨b16, hT⟩ := ps_gd hK
      replace hK := hT
      clear hT
      refine ps_iald d_X9_write_59 at_342 a_8_15 (ps_in_of b16) rfl ?_
      refine ps_topI (fun v9 ev9 => ?_)
      replace hK := ps_ltE ev9 hK
      refine ps_cSL d_X9_write_60 ms_X9_cut (As := [.long p3, .int v9]) rfl rfl (ps_room.of (by omega) (by decide)) (Nat.le_of_ble_eq_true rfl) (C_X9_cut p3 v9 σ7 _ (ps_bdE hK)) ?_
      intro v10 σ11 hT
      clear hK
      have hK := hT
      clear hT
      obtain ⟨b15, hT⟩ := ps_gd hK
      replace hK := hT
      clear hT
      refine ps_last d_X9_write_63 at_344 a_8_17 (ps_in_of b15) ?_
      refine ps_nmS (fun σ12 eσ12 => ?_)
      replace hK := ps_ltE eσ12 hK
      refine pm_ald d_X9_write_64 rfl ?_
      refine ps_getR (q := 344) d_X9_write_65 at_327 f_8_0_37 rfl ?_
      refine pm_ki d_X9_write_68 ?_
      refine pm_ild d_X9_write_70 rfl ?_
      refine pm_imul d_X9_write_71 ?_
      refine pm_ild d_X9_write_72 rfl ?_
      refine pm_iadd d_X9_write_73 ?_
      obtain ⟨b14, hT⟩ := ps_gd hK
      replace hK := hT
      clear hT
      refine ps_lald d_X9_write_74 at_344 a_8_17 (ps_in_of b14) rfl ?_
      refine ps_topL (fun v13 ev13 => ?_)
      replace hK := ps_ltE ev13 hK
      have hQ := ps_so hK
      exact ps_lret rfl d_X9_write_75 ⟨_, rfl, hQ⟩
    · replace hK := ps_ifT c8 hK
      refine pm_kl d_X9_write_39 ?_
      have hQ := ps_so hK
      exact ps_lret rfl d_X9_write_42 ⟨_, rfl, hQ⟩
  · replace hK := ps_ifF c4 hK
    refine pm_ild d_X9_write_17 rfl ?_
    refine pm_i2l d_X9_write_19 ?_
    have hQ := ps_so hK
    exact ps_lret rfl d_X9_write_20 ⟨_, rfl, hQ⟩
def qX9_writer (p1 : Int32) (p2 : Int32) (σ : ps_S) : Option (Int32 × ps_S) :=
  ps_let (ps_rI σ 327 (upd (σ.1 327) 0 0)) fun σ1 =>
  ps_bd (qX9_isWriter (((p1).toInt64)) σ1) (fun v2 σ3 =>
  if v2 = 0 then
  some ((-2), σ3)
  else
  if p2 = 0 then
  if ps_in ((29 + p1)) 5550 = true then
  ps_let (σ3.1 328 ((29 + p1)).toNatClampNeg) fun v6 =>
  some (v6, σ3)
  else none
  else
  if p2 = 1 then
  if ps_in ((88 + p1)) 5550 = true then
  ps_let (σ3.1 328 ((88 + p1)).toNatClampNeg) fun v9 =>
  some (v9, σ3)
  else none
  else
  if p2 = 2 then
  if ps_in ((94 + p1)) 5550 = true then
  ps_let (σ3.1 328 ((94 + p1)).toNatClampNeg) fun v12 =>
  some (v12, σ3)
  else none
  else
  if p2 = 3 then
  if ps_in ((100 + p1)) 5550 = true then
  ps_let (σ3.1 328 ((100 + p1)).toNatClampNeg) fun v15 =>
  some (v15, σ3)
  else none
  else
  if p2 = 4 then
  if ps_in ((106 + p1)) 5550 = true then
  ps_let (σ3.1 328 ((106 + p1)).toNatClampNeg) fun v18 =>
  some (v18, σ3)
  else none
  else
  if p2 = 5 then
  if ps_in ((112 + p1)) 5550 = true then
  ps_let (σ3.1 328 ((112 + p1)).toNatClampNeg) fun v21 =>
  some (v21, σ3)
  else none
  else
  some ((-2), σ3))
set_option maxRecDepth 100000 in
theorem C_X9_writer {g : pm_G} (p1 : Int32) (p2 : Int32) (σ : ps_S) (P : Int32 → ps_S → Prop) (hK : ps_ok (qX9_writer p1 p2 σ) P) : ps_C g mX9_writer 3 [.ref (g.2.2.1 + 327), .int p1, .int p2] σ (ps_qI P) := by
  unfold qX9_writer at hK
  refine ps_C.of (ls := [some (.ref (g.2.2.1 + 327)), some (.int p1), some (.int p2)]) 0 (by decide) rfl (Nat.le_of_ble_eq_true rfl) rfl ?_
  refine pm_ald d_X9_writer_0 rfl ?_
  refine pm_ki d_X9_writer_1 ?_
  refine ps_putI d_X9_writer_2 at_327 f_8_0_0 rfl rfl ?_
  refine ps_nmS (fun σ1 eσ1 => ?_)
  replace hK := ps_ltE eσ1 hK
  refine pm_ald d_X9_writer_5 rfl ?_
  refine pm_ild d_X9_writer_6 rfl ?_
  refine pm_i2l d_X9_writer_7 ?_
  refine ps_cVI d_X9_writer_8 mv_X9_isWriter at_327 ob_8_0 rfl (As := [.long ((p1).toInt64)]) rfl rfl (ps_room.of (by omega) (by decide)) (Nat.le_of_ble_eq_true rfl) (C_X9_isWriter (((p1).toInt64)) σ1 _ (ps_bdE hK)) ?_
  intro v2 σ3 hT
  clear hK
  have hK := hT
  clear hT
  refine pm_if_ne d_X9_writer_11 (fun c4 => ?_) (fun c4 => ?_)
  · replace hK := ps_ifF c4 hK
    refine pm_ild d_X9_writer_17 rfl ?_
    by_cases c5 : p2 = 0
    · replace hK := ps_ifT c5 hK
      refine pm_tabIn (tgt := 56) (off := 38) d_X9_writer_18 (by rw [c5]; decide) (by rw [c5]; decide) (by rw [c5]; rfl) (by decide) ?_
      refine pm_ald d_X9_writer_56 rfl ?_
      refine ps_getR (q := 328) d_X9_writer_57 at_327 f_8_0_1 rfl ?_
      refine pm_ki d_X9_writer_60 ?_
      refine pm_ild d_X9_writer_62 rfl ?_
      refine pm_iadd d_X9_writer_63 ?_
      obtain ⟨b7, hT⟩ := ps_gd hK
      replace hK := hT
      clear hT
      refine ps_iald d_X9_writer_64 at_328 a_8_1 (ps_in_of b7) rfl ?_
      refine ps_topI (fun v6 ev6 => ?_)
      replace hK := ps_ltE ev6 hK
      have hQ := ps_so hK
      exact ps_iret rfl d_X9_writer_65 ⟨_, rfl, hQ⟩
    replace hK := ps_ifF c5 hK
    by_cases c8 : p2 = 1
    · replace hK := ps_ifT c8 hK
      refine pm_tabIn (tgt := 66) (off := 48) d_X9_writer_18 (by rw [c8]; decide) (by rw [c8]; decide) (by rw [c8]; rfl) (by decide) ?_
      refine pm_ald d_X9_writer_66 rfl ?_
      refine ps_getR (q := 328) d_X9_writer_67 at_327 f_8_0_1 rfl ?_
      refine pm_ki d_X9_writer_70 ?_
      refine pm_ild d_X9_writer_72 rfl ?_
      refine pm_iadd d_X9_writer_73 ?_
      obtain ⟨b10, hT⟩ := ps_gd hK
      replace hK := hT
      clear hT
      refine ps_iald d_X9_writer_74 at_328 a_8_1 (ps_in_of b10) rfl ?_
      refine ps_topI (fun v9 ev9 => ?_)
      replace hK := ps_ltE ev9 hK
      have hQ := ps_so hK
      exact ps_iret rfl d_X9_writer_75 ⟨_, rfl, hQ⟩
    replace hK := ps_ifF c8 hK
    by_cases c11 : p2 = 2
    · replace hK := ps_ifT c11 hK
      refine pm_tabIn (tgt := 76) (off := 58) d_X9_writer_18 (by rw [c11]; decide) (by rw [c11]; decide) (by rw [c11]; rfl) (by decide) ?_
      refine pm_ald d_X9_writer_76 rfl ?_
      refine ps_getR (q := 328) d_X9_writer_77 at_327 f_8_0_1 rfl ?_
      refine pm_ki d_X9_writer_80 ?_
      refine pm_ild d_X9_writer_82 rfl ?_
      refine pm_iadd d_X9_writer_83 ?_
      obtain ⟨b13, hT⟩ := ps_gd hK
      replace hK := hT
      clear hT
      refine ps_iald d_X9_writer_84 at_328 a_8_1 (ps_in_of b13) rfl ?_
      refine ps_topI (fun v12 ev12 => ?_)
      replace hK := ps_ltE ev12 hK
      have hQ := ps_so hK
      exact ps_iret rfl d_X9_writer_85 ⟨_, rfl, hQ⟩
    replace hK := ps_ifF c11 hK
    by_cases c14 : p2 = 3
    · replace hK := ps_ifT c14 hK
      refine pm_tabIn (tgt := 86) (off := 68) d_X9_writer_18 (by rw [c14]; decide) (by rw [c14]; decide) (by rw [c14]; rfl) (by decide) ?_
      refine pm_ald d_X9_writer_86 rfl ?_
      refine ps_getR (q := 328) d_X9_writer_87 at_327 f_8_0_1 rfl ?_
      refine pm_ki d_X9_writer_90 ?_
      refine pm_ild d_X9_writer_92 rfl ?_
      refine pm_iadd d_X9_writer_93 ?_
      obtain ⟨b16, hT⟩ := ps_gd hK
      replace hK := hT
      clear hT
      refine ps_iald d_X9_writer_94 at_328 a_8_1 (ps_in_of b16) rfl ?_
      refine ps_topI (fun v15 ev15 => ?_)
      replace hK := ps_ltE ev15 hK
      have hQ := ps_so hK
      exact ps_iret rfl d_X9_writer_95 ⟨_, rfl, hQ⟩
    replace hK := ps_ifF c14 hK
    by_cases c17 : p2 = 4
    · replace hK := ps_ifT c17 hK
      refine pm_tabIn (tgt := 96) (off := 78) d_X9_writer_18 (by rw [c17]; decide) (by rw [c17]; decide) (by rw [c17]; rfl) (by decide) ?_
      refine pm_ald d_X9_writer_96 rfl ?_
      refine ps_getR (q := 328) d_X9_writer_97 at_327 f_8_0_1 rfl ?_
      refine pm_ki d_X9_writer_100 ?_
      refine pm_ild d_X9_writer_102 rfl ?_
      refine pm_iadd d_X9_writer_103 ?_
      obtain ⟨b19, hT⟩ := ps_gd hK
      replace hK := hT
      clear hT
      refine ps_iald d_X9_writer_104 at_328 a_8_1 (ps_in_of b19) rfl ?_
      refine ps_topI (fun v18 ev18 => ?_)
      replace hK := ps_ltE ev18 hK
      have hQ := ps_so hK
      exact ps_iret rfl d_X9_writer_105 ⟨_, rfl, hQ⟩
    replace hK := ps_ifF c17 hK
    by_cases c20 : p2 = 5
    · replace hK := ps_ifT c20 hK
      refine pm_tabIn (tgt := 106) (off := 88) d_X9_writer_18 (by rw [c20]; decide) (by rw [c20]; decide) (by rw [c20]; rfl) (by decide) ?_
      refine pm_ald d_X9_writer_106 rfl ?_
      refine ps_getR (q := 328) d_X9_writer_107 at_327 f_8_0_1 rfl ?_
      refine pm_ki d_X9_writer_110 ?_
      refine pm_ild d_X9_writer_112 rfl ?_
      refine pm_iadd d_X9_writer_113 ?_
      obtain ⟨b22, hT⟩ := ps_gd hK
      replace hK := hT
      clear hT
      refine ps_iald d_X9_writer_114 at_328 a_8_1 (ps_in_of b22) rfl ?_
      refine ps_topI (fun v21 ev21 => ?_)
      replace hK := ps_ltE ev21 hK
      have hQ := ps_so hK
      exact ps_iret rfl d_X9_writer_115 ⟨_, rfl, hQ⟩
    replace hK := ps_ifF c20 hK
    refine pm_tabOut (tgt := 116) d_X9_writer_18 (by decide) (ps_swout (lo := 0) (n := 6) (by decide) (by decide) (fun k hk => match k, hk with | 0, _ => c5 | 1, _ => c8 | 2, _ => c11 | 3, _ => c14 | 4, _ => c17 | 5, _ => c20 | k + 6, hk => absurd hk (by omega))) ?_
    refine pm_ki d_X9_writer_116 ?_
    have hQ := ps_so hK
    exact ps_iret rfl d_X9_writer_118 ⟨_, rfl, hQ⟩
  · replace hK := ps_ifT c4 hK
    refine pm_ki d_X9_writer_14 ?_
    have hQ := ps_so hK
    exact ps_iret rfl d_X9_writer_16 ⟨_, rfl, hQ⟩
def qX9_written_49  (y1 : Int32) (y2 : Int32) (y3 : Int32) : Nat → Int32 → ps_S → Option ((Int32 ⊕ (Int32)) × ps_S)
  | 0, _, _ => none
  | n + 1, x4, σ =>
    if 999 < x4 then
    some (.inr x4, σ)
    else
    ps_bd (qX9_ticksOnce σ) (fun _ σ13 =>
    if ps_in ((45 + y1)) 83 = true then
    ps_let (σ13.1 335 ((45 + y1)).toNatClampNeg) fun v14 =>
    if ((v14 - y3)) < y2 then
    ps_let (x4 + 1) fun v16 =>
    qX9_written_49 y1 y2 y3 n v16 σ13
    else
    some (.inl x4, σ13)
    else none)
set_option maxRecDepth 100000 in
theorem L_X9_written_49 {g : pm_G} (D : Nat) (hD : 6 ≤ D) {P : Int32 → ps_S → Prop}  (y1 : Int32) (y2 : Int32) (y3 : Int32) : ∀ (n : Nat) (x4 : Int32) (σ : ps_S), ps_ok (qX9_written_49 y1 y2 y3 n x4 σ) (fun res σ => match res with | .inl r => P r σ | .inr x4 => pm_W g mX9_written (ps_F g D (ps_qI P)) 0 0 85 [some (.ref (g.2.2.1 + 327)), some (.int y1), some (.int y2), some (.int y3), some (.int x4)] [] 345 (ps_E g σ)) → pm_W g mX9_written (ps_F g D (ps_qI P)) 0 0 49 [some (.ref (g.2.2.1 + 327)), some (.int y1), some (.int y2), some (.int y3), some (.int x4)] [] 345 (ps_E g σ) := by
  intro n
  induction n with
  | zero => intro x4 σ hK; exact (ps_no hK).elim
  | succ n ih =>
    intro x4 σ hK
    rw [qX9_written_49] at hK
    refine pm_ild d_X9_written_49 rfl ?_
    refine pm_ki d_X9_written_51 ?_
    refine pm_icmp_gt d_X9_written_54 (fun c11 => ?_) (fun c11 => ?_)
    · replace hK := ps_ifT c11 hK
      exact ps_so hK
    · replace hK := ps_ifF c11 hK
      refine pm_ald d_X9_written_57 rfl ?_
      refine ps_cVV d_X9_written_58 mv_X9_ticksOnce at_327 ob_8_0 rfl (As := []) rfl rfl (ps_room.of (by omega) (by decide)) (Nat.le_of_ble_eq_true rfl) (C_X9_ticksOnce σ _ (ps_bdE hK)) ?_
      intro σ13 hT
      clear hK
      have hK := hT
      clear hT
      refine pm_ald d_X9_written_61 rfl ?_
      refine ps_getR (q := 335) d_X9_written_62 at_327 f_8_0_19 rfl ?_
      refine pm_ki d_X9_written_65 ?_
      refine pm_ild d_X9_written_67 rfl ?_
      refine pm_iadd d_X9_written_68 ?_
      obtain ⟨b17, hT⟩ := ps_gd hK
      replace hK := hT
      clear hT
      refine ps_iald d_X9_written_69 at_335 a_8_8 (ps_in_of b17) rfl ?_
      refine ps_topI (fun v14 ev14 => ?_)
      replace hK := ps_ltE ev14 hK
      refine pm_ild d_X9_written_70 rfl ?_
      refine pm_isub d_X9_written_71 ?_
      refine pm_ild d_X9_written_72 rfl ?_
      refine pm_icmp_lt d_X9_written_73 (fun c15 => ?_) (fun c15 => ?_)
      · replace hK := ps_ifT c15 hK
        refine pm_inc4 d_X9_written_79 rfl ?_
        obtain ⟨v16, ev16⟩ : ∃ y : Int32, y = x4 + 1 := ⟨_, rfl⟩
        rw [← ev16]
        replace hK := ps_ltE ev16 hK
        refine pm_goto d_X9_written_82 ?_
        exact ih _ _ hK
      · replace hK := ps_ifF c15 hK
        refine pm_ild d_X9_written_76 rfl ?_
        have hQ := ps_so hK
        exact ps_iret rfl d_X9_written_78 ⟨_, rfl, hQ⟩
def qX9_written (p1 : Int32) (p2 : Int32) (σ : ps_S) : Option (Int32 × ps_S) :=
  ps_let (ps_rI σ 327 (upd (σ.1 327) 0 0)) fun σ1 =>
  ps_bd (qX9_isDevice (((p1).toInt64)) σ1) (fun v2 σ3 =>
  if v2 = 0 then
  some ((-2), σ3)
  else
  ps_bd (qX9_within (((p2).toInt64)) 1 9999 σ3) (fun v5 σ6 =>
  if v5 = 0 then
  some ((-3), σ6)
  else
  ps_bd (qX9_begins σ6) (fun _ σ9 =>
  if ps_in ((45 + p1)) 83 = true then
  ps_let (σ9.1 335 ((45 + p1)).toNatClampNeg) fun v10 =>
  ps_bd (qX9_written_49 p1 p2 v10 ps_N 1 σ9) (fun res σ18 => match res with
  | .inl r => some (r, σ18)
  | .inr v19 =>
    some ((-1), σ18))
  else none)))
set_option maxRecDepth 100000 in
theorem C_X9_written {g : pm_G} (p1 : Int32) (p2 : Int32) (σ : ps_S) (P : Int32 → ps_S → Prop) (hK : ps_ok (qX9_written p1 p2 σ) P) : ps_C g mX9_written 6 [.ref (g.2.2.1 + 327), .int p1, .int p2] σ (ps_qI P) := by
  unfold qX9_written at hK
  refine ps_C.of (ls := [some (.ref (g.2.2.1 + 327)), some (.int p1), some (.int p2), none, none]) 2 (by decide) rfl (Nat.le_of_ble_eq_true rfl) rfl ?_
  refine pm_ald d_X9_written_0 rfl ?_
  refine pm_ki d_X9_written_1 ?_
  refine ps_putI d_X9_written_2 at_327 f_8_0_0 rfl rfl ?_
  refine ps_nmS (fun σ1 eσ1 => ?_)
  replace hK := ps_ltE eσ1 hK
  refine pm_ald d_X9_written_5 rfl ?_
  refine pm_ild d_X9_written_6 rfl ?_
  refine pm_i2l d_X9_written_7 ?_
  refine ps_cVI d_X9_written_8 mv_X9_isDevice at_327 ob_8_0 rfl (As := [.long ((p1).toInt64)]) rfl rfl (ps_room.of (by omega) (by decide)) (Nat.le_of_ble_eq_true rfl) (C_X9_isDevice (((p1).toInt64)) σ1 _ (ps_bdE hK)) ?_
  intro v2 σ3 hT
  clear hK
  have hK := hT
  clear hT
  refine pm_if_ne d_X9_written_11 (fun c4 => ?_) (fun c4 => ?_)
  · replace hK := ps_ifF c4 hK
    refine pm_ild d_X9_written_17 rfl ?_
    refine pm_i2l d_X9_written_18 ?_
    refine pm_kl d_X9_written_19 ?_
    refine pm_kl d_X9_written_20 ?_
    refine ps_cSI d_X9_written_23 ms_X9_within (As := [.long ((p2).toInt64), .long 1, .long 9999]) rfl rfl (ps_room.of (by omega) (by decide)) (Nat.le_of_ble_eq_true rfl) (C_X9_within (((p2).toInt64)) 1 9999 σ3 _ (ps_bdE hK)) ?_
    intro v5 σ6 hT
    clear hK
    have hK := hT
    clear hT
    refine pm_if_ne d_X9_written_26 (fun c7 => ?_) (fun c7 => ?_)
    · replace hK := ps_ifF c7 hK
      refine pm_ald d_X9_written_32 rfl ?_
      refine ps_cVV d_X9_written_33 mv_X9_begins at_327 ob_8_0 rfl (As := []) rfl rfl (ps_room.of (by omega) (by decide)) (Nat.le_of_ble_eq_true rfl) (C_X9_begins σ6 _ (ps_bdE hK)) ?_
      intro σ9 hT
      clear hK
      have hK := hT
      clear hT
      refine pm_ald d_X9_written_36 rfl ?_
      refine ps_getR (q := 335) d_X9_written_37 at_327 f_8_0_19 rfl ?_
      refine pm_ki d_X9_written_40 ?_
      refine pm_ild d_X9_written_42 rfl ?_
      refine pm_iadd d_X9_written_43 ?_
      obtain ⟨b20, hT⟩ := ps_gd hK
      replace hK := hT
      clear hT
      refine ps_iald d_X9_written_44 at_335 a_8_8 (ps_in_of b20) rfl ?_
      refine ps_topI (fun v10 ev10 => ?_)
      replace hK := ps_ltE ev10 hK
      refine pm_ist3 d_X9_written_45 rfl (by decide) ?_
      refine pm_ki d_X9_written_46 ?_
      refine pm_ist4 d_X9_written_47 rfl (by decide) ?_
      refine L_X9_written_49 _ (by decide) p1 p2 v10 _ _ _ (ps_ok.mono (ps_bdE hK) ?_)
      intro res σ18 hT
      clear hK
      match res, hT with
      | .inl r, hT => exact ps_so hT
      | .inr v19, hT =>
        have hK := hT
        clear hT
        refine pm_ki d_X9_written_85 ?_
        have hQ := ps_so hK
        exact ps_iret rfl d_X9_written_86 ⟨_, rfl, hQ⟩
    · replace hK := ps_ifT c7 hK
      refine pm_ki d_X9_written_29 ?_
      have hQ := ps_so hK
      exact ps_iret rfl d_X9_written_31 ⟨_, rfl, hQ⟩
  · replace hK := ps_ifT c4 hK
    refine pm_ki d_X9_written_14 ?_
    have hQ := ps_so hK
    exact ps_iret rfl d_X9_written_16 ⟨_, rfl, hQ⟩
