def qX8_layOnTape_3  (y1 : Int32) : Nat → Int32 → ps_S → Option (((Int32)) × ps_S)
  | 0, _, _ => none
  | n + 1, x2, σ =>
    if x2 < 0 then
    some (x2, σ)
    else
    ps_let (σ.1 0 1) fun v2 =>
    if 900 ≤ v2 then
    some (x2, σ)
    else
    ps_let (σ.1 0 1) fun v4 =>
    if ps_in v4 900 = true then
    ps_let (ps_rI σ 1 (upd (σ.1 1) (v4).toNatClampNeg (vp_nar .byte ((((y1 >>> (x2 &&& 31))).toInt8.toInt32))))) fun σ5 =>
    ps_let (σ5.1 0 1) fun v6 =>
    ps_let (ps_rI σ5 0 (upd (σ5.1 0) 1 ((v6 + 1)))) fun σ7 =>
    ps_let (x2 + (-8)) fun v8 =>
    qX8_layOnTape_3 y1 n v8 σ7
    else none
set_option maxRecDepth 100000 in
theorem L_X8_layOnTape_3 {g : pm_G} (D : Nat) (hD : 1 ≤ D) {P : Unit → ps_S → Prop}  (y1 : Int32) : ∀ (n : Nat) (x2 : Int32) (σ : ps_S), ps_ok (qX8_layOnTape_3 y1 n x2 σ) (fun res σ => match res with | x2 => pm_W g mX8_layOnTape (ps_F g D (ps_qV P)) 0 0 46 [some (.ref (g.2.2.1 + 0)), some (.int y1), some (.int x2)] [] 345 (ps_E g σ)) → pm_W g mX8_layOnTape (ps_F g D (ps_qV P)) 0 0 3 [some (.ref (g.2.2.1 + 0)), some (.int y1), some (.int x2)] [] 345 (ps_E g σ) := by
  intro n
  induction n with
  | zero => intro x2 σ hK; exact (ps_no hK).elim
  | succ n ih =>
    intro x2 σ hK
    rw [qX8_layOnTape_3] at hK
    refine pm_ild d_X8_layOnTape_3 rfl ?_
    refine pm_if_lt d_X8_layOnTape_4 (fun c1 => ?_) (fun c1 => ?_)
    · replace hK := ps_ifT c1 hK
      exact ps_so hK
    · replace hK := ps_ifF c1 hK
      refine pm_ald d_X8_layOnTape_7 rfl ?_
      refine ps_getI d_X8_layOnTape_8 at_0 f_0_0_1 rfl ?_
      refine ps_topI (fun v2 ev2 => ?_)
      replace hK := ps_ltE ev2 hK
      refine pm_ki d_X8_layOnTape_11 ?_
      refine pm_icmp_ge d_X8_layOnTape_14 (fun c3 => ?_) (fun c3 => ?_)
      · replace hK := ps_ifT c3 hK
        exact ps_so hK
      · replace hK := ps_ifF c3 hK
        refine pm_ald d_X8_layOnTape_17 rfl ?_
        refine ps_getR (q := 1) d_X8_layOnTape_18 at_0 f_0_0_0 rfl ?_
        refine pm_ald d_X8_layOnTape_21 rfl ?_
        refine ps_getI d_X8_layOnTape_22 at_0 f_0_0_1 rfl ?_
        refine ps_topI (fun v4 ev4 => ?_)
        replace hK := ps_ltE ev4 hK
        refine pm_ild d_X8_layOnTape_25 rfl ?_
        refine pm_ild d_X8_layOnTape_26 rfl ?_
        refine pm_ishr d_X8_layOnTape_27 ?_
        refine pm_i2b d_X8_layOnTape_28 ?_
        obtain ⟨b9, hT⟩ := ps_gd hK
        replace hK := hT
        clear hT
        refine ps_bast d_X8_layOnTape_29 at_1 a_1_0 (ps_in_of b9) ?_
        refine ps_nmS (fun σ5 eσ5 => ?_)
        replace hK := ps_ltE eσ5 hK
        refine pm_ald d_X8_layOnTape_30 rfl ?_
        refine pm_dup d_X8_layOnTape_31 rfl ?_
        refine ps_getI d_X8_layOnTape_32 at_0 f_0_0_1 rfl ?_
        refine ps_topI (fun v6 ev6 => ?_)
        replace hK := ps_ltE ev6 hK
        refine pm_ki d_X8_layOnTape_35 ?_
        refine pm_iadd d_X8_layOnTape_36 ?_
        refine ps_putI d_X8_layOnTape_37 at_0 f_0_0_1 rfl rfl ?_
        refine ps_nmS (fun σ7 eσ7 => ?_)
        replace hK := ps_ltE eσ7 hK
        refine pm_inc2 d_X8_layOnTape_40 rfl ?_
        obtain ⟨v8, ev8⟩ : ∃ y : Int32, y = x2 + (-8) := ⟨_, rfl⟩
        rw [← ev8]
        replace hK := ps_ltE ev8 hK
        refine pm_goto d_X8_layOnTape_43 ?_
        exact ih _ _ hK
def qX8_layOnTape (p1 : Int32) (σ : ps_S) : Option (Unit × ps_S) :=
  ps_bd (qX8_layOnTape_3 p1 ps_N 24 σ) (fun res σ10 => match res with
  | v11 =>
    some ((), σ10))
set_option maxRecDepth 100000 in
theorem C_X8_layOnTape {g : pm_G} (p1 : Int32) (σ : ps_S) (P : Unit → ps_S → Prop) (hK : ps_ok (qX8_layOnTape p1 σ) P) : ps_C g mX8_layOnTape 1 [.ref (g.2.2.1 + 0), .int p1] σ (ps_qV P) := by
  unfold qX8_layOnTape at hK
  refine ps_C.of (ls := [some (.ref (g.2.2.1 + 0)), some (.int p1), none]) 1 (by decide) rfl (Nat.le_of_ble_eq_true rfl) rfl ?_
  refine pm_ki d_X8_layOnTape_0 ?_
  refine pm_ist2 d_X8_layOnTape_2 rfl (by decide) ?_
  refine L_X8_layOnTape_3 _ (by decide) p1 _ _ _ (ps_ok.mono (ps_bdE hK) ?_)
  rintro v11 σ10 hT
  clear hK
  have hK := hT
  clear hT
  have hQ := ps_so hK
  exact ps_vret rfl d_X8_layOnTape_46 ⟨rfl, hQ⟩
def qX8_feed (p1 : Int32) (p2 : Int32) (p3 : Int32) (p4 : Int32) (p5 : Int32) (σ : ps_S) : Option (Int32 × ps_S) :=
  ps_let (σ.1 0 1) fun v1 =>
  if v1 ≤ 880 then
  ps_bd (qX8_layOnTape p1 σ) (fun _ σ4 =>
  ps_bd (qX8_layOnTape p2 σ4) (fun _ σ6 =>
  ps_bd (qX8_layOnTape p3 σ6) (fun _ σ8 =>
  ps_bd (qX8_layOnTape p4 σ8) (fun _ σ10 =>
  ps_bd (qX8_layOnTape p5 σ10) (fun _ σ12 =>
  ps_let (σ12.1 0 1) fun v13 =>
  some (v13, σ12))))))
  else
  some ((-5), σ)
set_option maxRecDepth 100000 in
theorem C_X8_feed {g : pm_G} (p1 : Int32) (p2 : Int32) (p3 : Int32) (p4 : Int32) (p5 : Int32) (σ : ps_S) (P : Int32 → ps_S → Prop) (hK : ps_ok (qX8_feed p1 p2 p3 p4 p5 σ) P) : ps_C g mX8_feed 2 [.ref (g.2.2.1 + 0), .int p1, .int p2, .int p3, .int p4, .int p5] σ (ps_qI P) := by
  unfold qX8_feed at hK
  refine ps_C.of (ls := [some (.ref (g.2.2.1 + 0)), some (.int p1), some (.int p2), some (.int p3), some (.int p4), some (.int p5)]) 0 (by decide) rfl (Nat.le_of_ble_eq_true rfl) rfl ?_
  refine pm_ald d_X8_feed_0 rfl ?_
  refine ps_getI d_X8_feed_1 at_0 f_0_0_1 rfl ?_
  refine ps_topI (fun v1 ev1 => ?_)
  replace hK := ps_ltE ev1 hK
  refine pm_ki d_X8_feed_4 ?_
  refine pm_icmp_le d_X8_feed_7 (fun c2 => ?_) (fun c2 => ?_)
  · replace hK := ps_ifT c2 hK
    refine pm_ald d_X8_feed_13 rfl ?_
    refine pm_ild d_X8_feed_14 rfl ?_
    refine ps_cVV d_X8_feed_15 mv_X8_layOnTape at_0 ob_0_0 rfl (As := [.int p1]) rfl rfl (ps_room.of (by omega) (by decide)) (Nat.le_of_ble_eq_true rfl) (C_X8_layOnTape p1 σ _ (ps_bdE hK)) ?_
    intro σ4 hT
    clear hK
    have hK := hT
    clear hT
    refine pm_ald d_X8_feed_18 rfl ?_
    refine pm_ild d_X8_feed_19 rfl ?_
    refine ps_cVV d_X8_feed_20 mv_X8_layOnTape at_0 ob_0_0 rfl (As := [.int p2]) rfl rfl (ps_room.of (by omega) (by decide)) (Nat.le_of_ble_eq_true rfl) (C_X8_layOnTape p2 σ4 _ (ps_bdE hK)) ?_
    intro σ6 hT
    clear hK
    have hK := hT
    clear hT
    refine pm_ald d_X8_feed_23 rfl ?_
    refine pm_ild d_X8_feed_24 rfl ?_
    refine ps_cVV d_X8_feed_25 mv_X8_layOnTape at_0 ob_0_0 rfl (As := [.int p3]) rfl rfl (ps_room.of (by omega) (by decide)) (Nat.le_of_ble_eq_true rfl) (C_X8_layOnTape p3 σ6 _ (ps_bdE hK)) ?_
    intro σ8 hT
    clear hK
    have hK := hT
    clear hT
    refine pm_ald d_X8_feed_28 rfl ?_
    refine pm_ild d_X8_feed_29 rfl ?_
    refine ps_cVV d_X8_feed_31 mv_X8_layOnTape at_0 ob_0_0 rfl (As := [.int p4]) rfl rfl (ps_room.of (by omega) (by decide)) (Nat.le_of_ble_eq_true rfl) (C_X8_layOnTape p4 σ8 _ (ps_bdE hK)) ?_
    intro σ10 hT
    clear hK
    have hK := hT
    clear hT
    refine pm_ald d_X8_feed_34 rfl ?_
    refine pm_ild d_X8_feed_35 rfl ?_
    refine ps_cVV d_X8_feed_37 mv_X8_layOnTape at_0 ob_0_0 rfl (As := [.int p5]) rfl rfl (ps_room.of (by omega) (by decide)) (Nat.le_of_ble_eq_true rfl) (C_X8_layOnTape p5 σ10 _ (ps_bdE hK)) ?_
    intro σ12 hT
    clear hK
    have hK := hT
    clear hT
    refine pm_ald d_X8_feed_40 rfl ?_
    refine ps_getI d_X8_feed_41 at_0 f_0_0_1 rfl ?_
    refine ps_topI (fun v13 ev13 => ?_)
    replace hK := ps_ltE ev13 hK
    have hQ := ps_so hK
    exact ps_iret rfl d_X8_feed_44 ⟨_, rfl, hQ⟩
  · replace hK := ps_ifF c2 hK
    refine pm_ki d_X8_feed_10 ?_
    have hQ := ps_so hK
    exact ps_iret rfl d_X8_feed_12 ⟨_, rfl, hQ⟩
def qX6_ageOf (B : Nat) (p1 : Int32) (σ : ps_S) : Option (Int32 × ps_S) :=
  if ps_in p1 12 = true then
  ps_let (σ.1 (B + 11) (p1).toNatClampNeg) fun v1 =>
  if v1 ≤ 0 then
  some ((-1), σ)
  else
  ps_let (σ.1 B 8) fun v3 =>
  if ps_in p1 12 = true then
  ps_let (σ.1 (B + 12) (p1).toNatClampNeg) fun v4 =>
  some ((v3 - v4), σ)
  else none
  else none
set_option maxRecDepth 100000 in
theorem C_X6_ageOf {g : pm_G} (B : Nat) (hB : ps_St B) (p1 : Int32) (σ : ps_S) (P : Int32 → ps_S → Prop) (hK : ps_ok (qX6_ageOf B p1 σ) P) : ps_C g mX6_ageOf 1 [.ref (g.2.2.1 + B), .int p1] σ (ps_qI P) := by
  unfold qX6_ageOf at hK
  refine ps_C.of (ls := [some (.ref (g.2.2.1 + B)), some (.int p1)]) 0 (by decide) rfl (Nat.le_of_ble_eq_true rfl) rfl ?_
  refine pm_ald d_X6_ageOf_0 rfl ?_
  refine ps_getR (q := (B + 11)) d_X6_ageOf_1 hB.at0 f_5_0_1 rfl ?_
  refine pm_ild d_X6_ageOf_4 rfl ?_
  obtain ⟨b6, hT⟩ := ps_gd hK
  replace hK := hT
  clear hT
  refine ps_iald d_X6_ageOf_5 (hB.at 11 (by decide)) a_5_11 (ps_in_of b6) rfl ?_
  refine ps_topI (fun v1 ev1 => ?_)
  replace hK := ps_ltE ev1 hK
  refine pm_if_le d_X6_ageOf_6 (fun c2 => ?_) (fun c2 => ?_)
  · replace hK := ps_ifT c2 hK
    refine pm_ki d_X6_ageOf_23 ?_
    have hQ := ps_so hK
    exact ps_iret rfl d_X6_ageOf_24 ⟨_, rfl, hQ⟩
  · replace hK := ps_ifF c2 hK
    refine pm_ald d_X6_ageOf_9 rfl ?_
    refine ps_getI d_X6_ageOf_10 hB.at0 f_5_0_8 rfl ?_
    refine ps_topI (fun v3 ev3 => ?_)
    replace hK := ps_ltE ev3 hK
    refine pm_ald d_X6_ageOf_13 rfl ?_
    refine ps_getR (q := (B + 12)) d_X6_ageOf_14 hB.at0 f_5_0_2 rfl ?_
    refine pm_ild d_X6_ageOf_17 rfl ?_
    obtain ⟨b5, hT⟩ := ps_gd hK
    replace hK := hT
    clear hT
    refine ps_iald d_X6_ageOf_18 (hB.at 12 (by decide)) a_5_12 (ps_in_of b5) rfl ?_
    refine ps_topI (fun v4 ev4 => ?_)
    replace hK := ps_ltE ev4 hK
    refine pm_isub d_X6_ageOf_19 ?_
    refine pm_goto d_X6_ageOf_20 ?_
    have hQ := ps_so hK
    exact ps_iret rfl d_X6_ageOf_24 ⟨_, rfl, hQ⟩
def qX8_file (p1 : Int32) (p2 : Int32) (σ : ps_S) : Option (Int32 × ps_S) :=
  if p1 < 0 then
  some ((-2), σ)
  else
  ps_let (σ.1 12 8) fun v2 =>
  if p1 < v2 then
  if p2 = 0 then
  if ps_in p1 12 = true then
  ps_let (σ.1 (12 + 3) (p1).toNatClampNeg) fun v5 =>
  some (v5, σ)
  else none
  else
  if p2 = 1 then
  if ps_in p1 12 = true then
  ps_let (σ.1 (26 + 11) (p1).toNatClampNeg) fun v8 =>
  some (v8, σ)
  else none
  else
  if p2 = 2 then
  ps_bd (qX6_ageOf 26 p1 σ) (fun v11 σ12 =>
  some (v11, σ12))
  else
  if p2 = 3 then
  ps_bd (qX0_isOld 26 p1 σ) (fun v14 σ15 =>
  if v14 = 0 then
  some (0, σ15)
  else
  some (1, σ15))
  else
  some ((-2), σ)
  else
  some ((-2), σ)
set_option maxRecDepth 100000 in
theorem C_X8_file {g : pm_G} (p1 : Int32) (p2 : Int32) (σ : ps_S) (P : Int32 → ps_S → Prop) (hK : ps_ok (qX8_file p1 p2 σ) P) : ps_C g mX8_file 2 [.ref (g.2.2.1 + 0), .int p1, .int p2] σ (ps_qI P) := by
  unfold qX8_file at hK
  refine ps_C.of (ls := [some (.ref (g.2.2.1 + 0)), some (.int p1), some (.int p2)]) 0 (by decide) rfl (Nat.le_of_ble_eq_true rfl) rfl ?_
  refine pm_ild d_X8_file_0 rfl ?_
  refine pm_if_lt d_X8_file_1 (fun c1 => ?_) (fun c1 => ?_)
  · replace hK := ps_ifT c1 hK
    refine pm_ki d_X8_file_15 ?_
    have hQ := ps_so hK
    exact ps_iret rfl d_X8_file_17 ⟨_, rfl, hQ⟩
  · replace hK := ps_ifF c1 hK
    refine pm_ild d_X8_file_4 rfl ?_
    refine pm_ald d_X8_file_5 rfl ?_
    refine ps_getR (q := 12) d_X8_file_6 at_0 f_0_0_4 rfl ?_
    refine ps_getI d_X8_file_9 ps_Ho12.at0 f_2_0_8 rfl ?_
    refine ps_topI (fun v2 ev2 => ?_)
    replace hK := ps_ltE ev2 hK
    refine pm_icmp_lt d_X8_file_12 (fun c3 => ?_) (fun c3 => ?_)
    · replace hK := ps_ifT c3 hK
      refine pm_ild d_X8_file_18 rfl ?_
      by_cases c4 : p2 = 0
      · replace hK := ps_ifT c4 hK
        refine pm_tabIn (tgt := 48) (off := 29) d_X8_file_19 (by rw [c4]; decide) (by rw [c4]; decide) (by rw [c4]; rfl) (by decide) ?_
        refine pm_ald d_X8_file_48 rfl ?_
        refine ps_getR (q := 12) d_X8_file_49 at_0 f_0_0_4 rfl ?_
        refine ps_getR (q := (12 + 3)) d_X8_file_52 ps_Ho12.at0 f_2_0_13 rfl ?_
        refine pm_ild d_X8_file_55 rfl ?_
        obtain ⟨b6, hT⟩ := ps_gd hK
        replace hK := hT
        clear hT
        refine ps_iald d_X8_file_56 (ps_Ho12.at 3 (by decide)) a_2_3 (ps_in_of b6) rfl ?_
        refine ps_topI (fun v5 ev5 => ?_)
        replace hK := ps_ltE ev5 hK
        have hQ := ps_so hK
        exact ps_iret rfl d_X8_file_57 ⟨_, rfl, hQ⟩
      replace hK := ps_ifF c4 hK
      by_cases c7 : p2 = 1
      · replace hK := ps_ifT c7 hK
        refine pm_tabIn (tgt := 58) (off := 39) d_X8_file_19 (by rw [c7]; decide) (by rw [c7]; decide) (by rw [c7]; rfl) (by decide) ?_
        refine pm_ald d_X8_file_58 rfl ?_
        refine ps_getR (q := 26) d_X8_file_59 at_0 f_0_0_6 rfl ?_
        refine ps_getR (q := (26 + 11)) d_X8_file_62 ps_St26.at0 f_5_0_1 rfl ?_
        refine pm_ild d_X8_file_65 rfl ?_
        obtain ⟨b9, hT⟩ := ps_gd hK
        replace hK := hT
        clear hT
        refine ps_iald d_X8_file_66 (ps_St26.at 11 (by decide)) a_5_11 (ps_in_of b9) rfl ?_
        refine ps_topI (fun v8 ev8 => ?_)
        replace hK := ps_ltE ev8 hK
        have hQ := ps_so hK
        exact ps_iret rfl d_X8_file_67 ⟨_, rfl, hQ⟩
      replace hK := ps_ifF c7 hK
      by_cases c10 : p2 = 2
      · replace hK := ps_ifT c10 hK
        refine pm_tabIn (tgt := 68) (off := 49) d_X8_file_19 (by rw [c10]; decide) (by rw [c10]; decide) (by rw [c10]; rfl) (by decide) ?_
        refine pm_ald d_X8_file_68 rfl ?_
        refine ps_getR (q := 26) d_X8_file_69 at_0 f_0_0_6 rfl ?_
        refine pm_ild d_X8_file_72 rfl ?_
        refine ps_cVI d_X8_file_73 mv_X6_ageOf ps_St26.at0 ob_5_0 rfl (As := [.int p1]) rfl rfl (ps_room.of (by omega) (by decide)) (Nat.le_of_ble_eq_true rfl) (C_X6_ageOf 26 ps_St26 p1 σ _ (ps_bdE hK)) ?_
        intro v11 σ12 hT
        clear hK
        have hK := hT
        clear hT
        have hQ := ps_so hK
        exact ps_iret rfl d_X8_file_76 ⟨_, rfl, hQ⟩
      replace hK := ps_ifF c10 hK
      by_cases c13 : p2 = 3
      · replace hK := ps_ifT c13 hK
        refine pm_tabIn (tgt := 77) (off := 58) d_X8_file_19 (by rw [c13]; decide) (by rw [c13]; decide) (by rw [c13]; rfl) (by decide) ?_
        refine pm_ald d_X8_file_77 rfl ?_
        refine ps_getR (q := 21) d_X8_file_78 at_0 f_0_0_5 rfl ?_
        refine pm_ald d_X8_file_81 rfl ?_
        refine ps_getR (q := 26) d_X8_file_82 at_0 f_0_0_6 rfl ?_
        refine pm_ild d_X8_file_85 rfl ?_
        refine ps_cVI d_X8_file_86 mv_X0_isOld at_21 ob_4_0 rfl (As := [.ref (g.2.2.1 + 26), .int p1]) rfl rfl (ps_room.of (by omega) (by decide)) (Nat.le_of_ble_eq_true rfl) (C_X0_isOld 26 ps_St26 p1 σ _ (ps_bdE hK)) ?_
        intro v14 σ15 hT
        clear hK
        have hK := hT
        clear hT
        refine pm_if_eq d_X8_file_89 (fun c16 => ?_) (fun c16 => ?_)
        · replace hK := ps_ifT c16 hK
          refine pm_ki d_X8_file_96 ?_
          have hQ := ps_so hK
          exact ps_iret rfl d_X8_file_97 ⟨_, rfl, hQ⟩
        · replace hK := ps_ifF c16 hK
          refine pm_ki d_X8_file_92 ?_
          refine pm_goto d_X8_file_93 ?_
          have hQ := ps_so hK
          exact ps_iret rfl d_X8_file_97 ⟨_, rfl, hQ⟩
      replace hK := ps_ifF c13 hK
      refine pm_tabOut (tgt := 98) d_X8_file_19 (by decide) (ps_swout (lo := 0) (n := 4) (by decide) (by decide) (fun k hk => match k, hk with | 0, _ => c4 | 1, _ => c7 | 2, _ => c10 | 3, _ => c13 | k + 4, hk => absurd hk (by omega))) ?_
      refine pm_ki d_X8_file_98 ?_
      have hQ := ps_so hK
      exact ps_iret rfl d_X8_file_100 ⟨_, rfl, hQ⟩
    · replace hK := ps_ifF c3 hK
      refine pm_ki d_X8_file_15 ?_
      have hQ := ps_so hK
      exact ps_iret rfl d_X8_file_17 ⟨_, rfl, hQ⟩
def qX8_held (p1 : Int32) (σ : ps_S) : Option (Int32 × ps_S) :=
  ps_bd (qX8_isWithin p1 1 999 σ) (fun v1 σ2 =>
  if v1 = 0 then
  some ((-3), σ2)
  else
  ps_bd (qX8_goOn p1 σ2) (fun _ σ5 =>
  ps_bd (qX6_heldInAll 44 σ5) (fun v6 σ7 =>
  ps_bd (qX6_heldInAll 26 σ7) (fun v8 σ9 =>
  some ((v6 - v8), σ9)))))
set_option maxRecDepth 100000 in
theorem C_X8_held {g : pm_G} (p1 : Int32) (σ : ps_S) (P : Int32 → ps_S → Prop) (hK : ps_ok (qX8_held p1 σ) P) : ps_C g mX8_held 7 [.ref (g.2.2.1 + 0), .int p1] σ (ps_qI P) := by
  unfold qX8_held at hK
  refine ps_C.of (ls := [some (.ref (g.2.2.1 + 0)), some (.int p1)]) 0 (by decide) rfl (Nat.le_of_ble_eq_true rfl) rfl ?_
  refine pm_ild d_X8_held_0 rfl ?_
  refine pm_ki d_X8_held_1 ?_
  refine pm_ki d_X8_held_2 ?_
  refine ps_cSI d_X8_held_5 ms_X8_isWithin (As := [.int p1, .int 1, .int 999]) rfl rfl (ps_room.of (by omega) (by decide)) (Nat.le_of_ble_eq_true rfl) (C_X8_isWithin p1 1 999 σ _ (ps_bdE hK)) ?_
  intro v1 σ2 hT
  clear hK
  have hK := hT
  clear hT
  refine pm_if_ne d_X8_held_8 (fun c3 => ?_) (fun c3 => ?_)
  · replace hK := ps_ifF c3 hK
    refine pm_ald d_X8_held_14 rfl ?_
    refine pm_ild d_X8_held_15 rfl ?_
    refine ps_cVV d_X8_held_16 mv_X8_goOn at_0 ob_0_0 rfl (As := [.int p1]) rfl rfl (ps_room.of (by omega) (by decide)) (Nat.le_of_ble_eq_true rfl) (C_X8_goOn p1 σ2 _ (ps_bdE hK)) ?_
    intro σ5 hT
    clear hK
    have hK := hT
    clear hT
    refine pm_ald d_X8_held_19 rfl ?_
    refine ps_getR (q := 44) d_X8_held_20 at_0 f_0_0_7 rfl ?_
    refine ps_cVI d_X8_held_23 mv_X6_heldInAll ps_St44.at0 ob_5_0 rfl (As := []) rfl rfl (ps_room.of (by omega) (by decide)) (Nat.le_of_ble_eq_true rfl) (C_X6_heldInAll 44 ps_St44 σ5 _ (ps_bdE hK)) ?_
    intro v6 σ7 hT
    clear hK
    have hK := hT
    clear hT
    refine pm_ald d_X8_held_26 rfl ?_
    refine ps_getR (q := 26) d_X8_held_27 at_0 f_0_0_6 rfl ?_
    refine ps_cVI d_X8_held_30 mv_X6_heldInAll ps_St26.at0 ob_5_0 rfl (As := []) rfl rfl (ps_room.of (by omega) (by decide)) (Nat.le_of_ble_eq_true rfl) (C_X6_heldInAll 26 ps_St26 σ7 _ (ps_bdE hK)) ?_
    intro v8 σ9 hT
    clear hK
    have hK := hT
    clear hT
    refine pm_isub d_X8_held_33 ?_
    have hQ := ps_so hK
    exact ps_iret rfl d_X8_held_34 ⟨_, rfl, hQ⟩
  · replace hK := ps_ifT c3 hK
    refine pm_ki d_X8_held_11 ?_
    have hQ := ps_so hK
    exact ps_iret rfl d_X8_held_13 ⟨_, rfl, hQ⟩
def qJ7_fill_53178_5 (k1 n1 : Nat) (y1 : Int32) (y3 : Int32) : Nat → Int32 → ps_S → Option (((Int32)) × ps_S)
  | 0, _, _ => none
  | n + 1, x2, σ =>
    if y3 ≤ x2 then
    some (x2, σ)
    else
    if ps_in x2 n1 = true then
    ps_let (ps_rI σ k1 (upd (σ.1 k1) (x2).toNatClampNeg y1)) fun σ3 =>
    ps_let (x2 + 1) fun v4 =>
    qJ7_fill_53178_5 k1 n1 y1 y3 n v4 σ3
    else none
set_option maxRecDepth 100000 in
theorem L_J7_fill_53178_5 {g : pm_G} (D : Nat) (hD : 1 ≤ D) {P : Unit → ps_S → Prop} (k1 n1 kd1 b1 o1 : Nat) (ha1 : ps_at k1 kd1 b1 o1) (hf1 : ps_aI kd1 o1 n1 0) (y1 : Int32) (y3 : Int32) : ∀ (n : Nat) (x2 : Int32) (σ : ps_S), ps_ok (qJ7_fill_53178_5 k1 n1 y1 y3 n x2 σ) (fun res σ => match res with | x2 => pm_W g mJ7_fill_53178 (ps_F g D (ps_qV P)) 0 0 20 [some (.ref (g.2.2.1 + k1)), some (.int y1), some (.int x2), some (.int y3)] [] 345 (ps_E g σ)) → pm_W g mJ7_fill_53178 (ps_F g D (ps_qV P)) 0 0 5 [some (.ref (g.2.2.1 + k1)), some (.int y1), some (.int x2), some (.int y3)] [] 345 (ps_E g σ) := by
  intro n
  induction n with
  | zero => intro x2 σ hK; exact (ps_no hK).elim
  | succ n ih =>
    intro x2 σ hK
    rw [qJ7_fill_53178_5] at hK
    refine pm_ild d_J7_fill_53178_5 rfl ?_
    refine pm_ild d_J7_fill_53178_6 rfl ?_
    refine pm_icmp_ge d_J7_fill_53178_7 (fun c2 => ?_) (fun c2 => ?_)
    · replace hK := ps_ifT c2 hK
      exact ps_so hK
    · replace hK := ps_ifF c2 hK
      refine pm_ald d_J7_fill_53178_10 rfl ?_
      refine pm_ild d_J7_fill_53178_11 rfl ?_
      refine pm_ild d_J7_fill_53178_12 rfl ?_
      obtain ⟨b5, hT⟩ := ps_gd hK
      replace hK := hT
      clear hT
      refine ps_iast d_J7_fill_53178_13 ha1 hf1 (ps_in_of b5) ?_
      refine ps_nmS (fun σ3 eσ3 => ?_)
      replace hK := ps_ltE eσ3 hK
      refine pm_inc2 d_J7_fill_53178_14 rfl ?_
      obtain ⟨v4, ev4⟩ : ∃ y : Int32, y = x2 + 1 := ⟨_, rfl⟩
      rw [← ev4]
      replace hK := ps_ltE ev4 hK
      refine pm_goto d_J7_fill_53178_17 ?_
      exact ih _ _ hK
def qJ7_fill_53178 (k1 n1 : Nat) (p2 : Int32) (σ : ps_S) : Option (Unit × ps_S) :=
  ps_let ((Int32.ofNat n1)) fun v1 =>
  ps_bd (qJ7_fill_53178_5 k1 n1 p2 v1 ps_N 0 σ) (fun res σ6 => match res with
  | v7 =>
    some ((), σ6))
set_option maxRecDepth 100000 in
theorem C_J7_fill_53178 {g : pm_G} (k1 n1 kd1 b1 o1 : Nat) (ha1 : ps_at k1 kd1 b1 o1) (hf1 : ps_aI kd1 o1 n1 0) (p2 : Int32) (σ : ps_S) (P : Unit → ps_S → Prop) (hK : ps_ok (qJ7_fill_53178 k1 n1 p2 σ) P) : ps_C g mJ7_fill_53178 1 [.ref (g.2.2.1 + k1), .int p2] σ (ps_qV P) := by
  unfold qJ7_fill_53178 at hK
  refine ps_C.of (ls := [some (.ref (g.2.2.1 + k1)), some (.int p2), none, none]) 2 (by decide) rfl (Nat.le_of_ble_eq_true rfl) rfl ?_
  refine pm_ki d_J7_fill_53178_0 ?_
  refine pm_ist2 d_J7_fill_53178_1 rfl (by decide) ?_
  refine pm_ald d_J7_fill_53178_2 rfl ?_
  refine ps_alenI d_J7_fill_53178_3 ha1 hf1 (by decide) rfl ?_
  refine ps_topI (fun v1 ev1 => ?_)
  replace hK := ps_ltE ev1 hK
  refine pm_ist3 d_J7_fill_53178_4 rfl (by decide) ?_
  refine L_J7_fill_53178_5 _ (by decide) k1 n1 kd1 b1 o1 ha1 hf1 p2 v1 _ _ _ (ps_ok.mono (ps_bdE hK) ?_)
  rintro v7 σ6 hT
  clear hK
  have hK := hT
  clear hT
  have hQ := ps_so hK
  exact ps_vret rfl d_J7_fill_53178_20 ⟨rfl, hQ⟩
def qX4_forget  (σ : ps_S) : Option (Unit × ps_S) :=
  ps_bd (qJ7_fill_53178 23 1000 ((-1)) σ) (fun _ σ2 =>
  some ((), σ2))
set_option maxRecDepth 100000 in
theorem C_X4_forget {g : pm_G}  (σ : ps_S) (P : Unit → ps_S → Prop) (hK : ps_ok (qX4_forget  σ) P) : ps_C g mX4_forget 2 [.ref (g.2.2.1 + 22)] σ (ps_qV P) := by
  unfold qX4_forget at hK
  refine ps_C.of (ls := [some (.ref (g.2.2.1 + 22))]) 0 (by decide) rfl (Nat.le_of_ble_eq_true rfl) rfl ?_
  refine pm_ald d_X4_forget_0 rfl ?_
  refine ps_getR (q := 23) d_X4_forget_1 at_22 f_4_1_1 rfl ?_
  refine pm_ki d_X4_forget_4 ?_
  refine ps_cSV d_X4_forget_5 ms_J7_fill_53178 (As := [.ref (g.2.2.1 + 23), .int (-1)]) rfl rfl (ps_room.of (by omega) (by decide)) (Nat.le_of_ble_eq_true rfl) (C_J7_fill_53178 23 1000 4 21 2 at_23 a_4_2 ((-1)) σ _ (ps_bdE hK)) ?_
  intro σ2 hT
  clear hK
  have hK := hT
  clear hT
  have hQ := ps_so hK
  exact ps_vret rfl d_X4_forget_8 ⟨rfl, hQ⟩
def qX0_forgetLaws  (σ : ps_S) : Option (Unit × ps_S) :=
  ps_bd (qX4_forget σ) (fun _ σ2 =>
  some ((), σ2))
set_option maxRecDepth 100000 in
theorem C_X0_forgetLaws {g : pm_G}  (σ : ps_S) (P : Unit → ps_S → Prop) (hK : ps_ok (qX0_forgetLaws  σ) P) : ps_C g mX0_forgetLaws 3 [.ref (g.2.2.1 + 21)] σ (ps_qV P) := by
  unfold qX0_forgetLaws at hK
  refine ps_C.of (ls := [some (.ref (g.2.2.1 + 21))]) 0 (by decide) rfl (Nat.le_of_ble_eq_true rfl) rfl ?_
  refine pm_ald d_X0_forgetLaws_0 rfl ?_
  refine ps_getR (q := 22) d_X0_forgetLaws_1 at_21 f_4_0_1 rfl ?_
  refine ps_cVV d_X0_forgetLaws_4 mv_X4_forget at_22 ob_4_1 rfl (As := []) rfl rfl (ps_room.of (by omega) (by decide)) (Nat.le_of_ble_eq_true rfl) (C_X4_forget σ _ (ps_bdE hK)) ?_
  intro σ2 hT
  clear hK
  have hK := hT
  clear hT
  have hQ := ps_so hK
  exact ps_vret rfl d_X0_forgetLaws_7 ⟨rfl, hQ⟩
def qX3_copyFrom (B : Nat) (B1 : Nat) (σ : ps_S) : Option (Unit × ps_S) :=
  ps_let (ps_rI σ (B + 8) (va_cpy (σ.1 (B1 + 8)) (σ.1 (B + 8)) 0 0 900)) fun σ1 =>
  ps_let (σ1.1 (B1 + 7) 1) fun v2 =>
  ps_let (ps_rI σ1 (B + 7) (upd (σ1.1 (B + 7)) 1 v2)) fun σ3 =>
  ps_let (σ3.1 (B1 + 7) 2) fun v4 =>
  ps_let (ps_rI σ3 (B + 7) (upd (σ3.1 (B + 7)) 2 v4)) fun σ5 =>
  ps_let (σ5.1 (B1 + 7) 3) fun v6 =>
  ps_let (ps_rI σ5 (B + 7) (upd (σ5.1 (B + 7)) 3 v6)) fun σ7 =>
  ps_let (σ7.1 (B1 + 7) 4) fun v8 =>
  ps_let (ps_rI σ7 (B + 7) (upd (σ7.1 (B + 7)) 4 v8)) fun σ9 =>
  ps_let (σ9.1 (B1 + 7) 5) fun v10 =>
  ps_let (ps_rI σ9 (B + 7) (upd (σ9.1 (B + 7)) 5 v10)) fun σ11 =>
  some ((), σ11)
set_option maxRecDepth 100000 in
theorem C_X3_copyFrom {g : pm_G} (B : Nat) (hB : ps_Ho B) (B1 : Nat) (hB1 : ps_Ho B1) (σ : ps_S) (P : Unit → ps_S → Prop) (hK : ps_ok (qX3_copyFrom B B1 σ) P) : ps_C g mX3_copyFrom 1 [.ref (g.2.2.1 + (B + 7)), .ref (g.2.2.1 + (B1 + 7))] σ (ps_qV P) := by
  unfold qX3_copyFrom at hK
  refine ps_C.of (ls := [some (.ref (g.2.2.1 + (B + 7))), some (.ref (g.2.2.1 + (B1 + 7)))]) 0 (by decide) rfl (Nat.le_of_ble_eq_true rfl) rfl ?_
  refine pm_ald d_X3_copyFrom_0 rfl ?_
  refine ps_getR (q := (B1 + 8)) d_X3_copyFrom_1 (hB1.at 7 (by decide)) f_2_7_0 rfl ?_
  refine pm_ki d_X3_copyFrom_4 ?_
  refine pm_ald d_X3_copyFrom_5 rfl ?_
  refine ps_getR (q := (B + 8)) d_X3_copyFrom_6 (hB.at 7 (by decide)) f_2_7_0 rfl ?_
  refine pm_ki d_X3_copyFrom_9 ?_
  refine pm_ki d_X3_copyFrom_10 ?_
  refine ps_copyi d_X3_copyFrom_13 (hB1.at 8 (by decide)) (hB.at 8 (by decide)) a_2_8 a_2_8 (by decide) (by decide) (by decide) (by decide) (by decide) (ps_roomC (by omega)) (Nat.le_of_ble_eq_true rfl) ?_
  refine ps_nmS (fun σ1 eσ1 => ?_)
  replace hK := ps_ltE eσ1 hK
  refine pm_ald d_X3_copyFrom_16 rfl ?_
  refine pm_ald d_X3_copyFrom_17 rfl ?_
  refine ps_getI d_X3_copyFrom_18 (hB1.at 7 (by decide)) f_2_7_1 rfl ?_
  refine ps_topI (fun v2 ev2 => ?_)
  replace hK := ps_ltE ev2 hK
  refine ps_putI d_X3_copyFrom_21 (hB.at 7 (by decide)) f_2_7_1 rfl rfl ?_
  refine ps_nmS (fun σ3 eσ3 => ?_)
  replace hK := ps_ltE eσ3 hK
  refine pm_ald d_X3_copyFrom_24 rfl ?_
  refine pm_ald d_X3_copyFrom_25 rfl ?_
  refine ps_getI d_X3_copyFrom_26 (hB1.at 7 (by decide)) f_2_7_2 rfl ?_
  refine ps_topI (fun v4 ev4 => ?_)
  replace hK := ps_ltE ev4 hK
  refine ps_putI d_X3_copyFrom_29 (hB.at 7 (by decide)) f_2_7_2 rfl rfl ?_
  refine ps_nmS (fun σ5 eσ5 => ?_)
  replace hK := ps_ltE eσ5 hK
  refine pm_ald d_X3_copyFrom_32 rfl ?_
  refine pm_ald d_X3_copyFrom_33 rfl ?_
  refine ps_getI d_X3_copyFrom_34 (hB1.at 7 (by decide)) f_2_7_3 rfl ?_
  refine ps_topI (fun v6 ev6 => ?_)
  replace hK := ps_ltE ev6 hK
  refine ps_putI d_X3_copyFrom_37 (hB.at 7 (by decide)) f_2_7_3 rfl rfl ?_
  refine ps_nmS (fun σ7 eσ7 => ?_)
  replace hK := ps_ltE eσ7 hK
  refine pm_ald d_X3_copyFrom_40 rfl ?_
  refine pm_ald d_X3_copyFrom_41 rfl ?_
  refine ps_getI d_X3_copyFrom_42 (hB1.at 7 (by decide)) f_2_7_4 rfl ?_
  refine ps_topI (fun v8 ev8 => ?_)
  replace hK := ps_ltE ev8 hK
  refine ps_putI d_X3_copyFrom_45 (hB.at 7 (by decide)) f_2_7_4 rfl rfl ?_
  refine ps_nmS (fun σ9 eσ9 => ?_)
  replace hK := ps_ltE eσ9 hK
  refine pm_ald d_X3_copyFrom_48 rfl ?_
  refine pm_ald d_X3_copyFrom_49 rfl ?_
  refine ps_getI d_X3_copyFrom_50 (hB1.at 7 (by decide)) f_2_7_5 rfl ?_
  refine ps_topI (fun v10 ev10 => ?_)
  replace hK := ps_ltE ev10 hK
  refine ps_putI d_X3_copyFrom_53 (hB.at 7 (by decide)) f_2_7_5 rfl rfl ?_
  refine ps_nmS (fun σ11 eσ11 => ?_)
  replace hK := ps_ltE eσ11 hK
  have hQ := ps_so hK
  exact ps_vret rfl d_X3_copyFrom_56 ⟨rfl, hQ⟩
def qX2_copyFrom (B : Nat) (B1 : Nat) (σ : ps_S) : Option (Unit × ps_S) :=
  ps_let (σ.1 B1 0) fun v1 =>
  ps_let (ps_rI σ B (upd (σ.1 B) 0 v1)) fun σ2 =>
  ps_let (σ2.1 B1 1) fun v3 =>
  ps_let (ps_rI σ2 B (upd (σ2.1 B) 1 v3)) fun σ4 =>
  ps_let (σ4.1 B1 2) fun v5 =>
  ps_let (ps_rI σ4 B (upd (σ4.1 B) 2 v5)) fun σ6 =>
  ps_let (σ6.1 B1 3) fun v7 =>
  ps_let (ps_rI σ6 B (upd (σ6.1 B) 3 v7)) fun σ8 =>
  ps_let (σ8.1 B1 4) fun v9 =>
  ps_let (ps_rI σ8 B (upd (σ8.1 B) 4 v9)) fun σ10 =>
  ps_let (σ10.1 B1 5) fun v11 =>
  ps_let (ps_rI σ10 B (upd (σ10.1 B) 5 v11)) fun σ12 =>
  ps_let (σ12.1 B1 6) fun v13 =>
  ps_let (ps_rI σ12 B (upd (σ12.1 B) 6 v13)) fun σ14 =>
  ps_let (σ14.1 B1 7) fun v15 =>
  ps_let (ps_rI σ14 B (upd (σ14.1 B) 7 v15)) fun σ16 =>
  ps_let (σ16.1 B1 8) fun v17 =>
  ps_let (ps_rI σ16 B (upd (σ16.1 B) 8 v17)) fun σ18 =>
  ps_let (σ18.1 B1 9) fun v19 =>
  ps_let (ps_rI σ18 B (upd (σ18.1 B) 9 v19)) fun σ20 =>
  ps_let (σ20.1 B1 10) fun v21 =>
  ps_let (ps_rI σ20 B (upd (σ20.1 B) 10 v21)) fun σ22 =>
  ps_let (ps_rI σ22 (B + 1) (va_cpy (σ22.1 (B1 + 1)) (σ22.1 (B + 1)) 0 0 4)) fun σ23 =>
  ps_let (ps_rI σ23 (B + 2) (va_cpy (σ23.1 (B1 + 2)) (σ23.1 (B + 2)) 0 0 4)) fun σ24 =>
  ps_let (ps_rI σ24 (B + 3) (va_cpy (σ24.1 (B1 + 3)) (σ24.1 (B + 3)) 0 0 12)) fun σ25 =>
  ps_let (ps_rI σ25 (B + 4) (va_cpy (σ25.1 (B1 + 4)) (σ25.1 (B + 4)) 0 0 6)) fun σ26 =>
  ps_let (ps_rI σ26 (B + 5) (va_cpy (σ26.1 (B1 + 5)) (σ26.1 (B + 5)) 0 0 6)) fun σ27 =>
  ps_let (ps_rI σ27 (B + 6) (va_cpy (σ27.1 (B1 + 6)) (σ27.1 (B + 6)) 0 0 6)) fun σ28 =>
  ps_bd (qX3_copyFrom B B1 σ28) (fun _ σ30 =>
  some ((), σ30))
set_option maxRecDepth 100000 in
theorem C_X2_copyFrom {g : pm_G} (B : Nat) (hB : ps_Ho B) (B1 : Nat) (hB1 : ps_Ho B1) (σ : ps_S) (P : Unit → ps_S → Prop) (hK : ps_ok (qX2_copyFrom B B1 σ) P) : ps_C g mX2_copyFrom 2 [.ref (g.2.2.1 + B), .ref (g.2.2.1 + B1)] σ (ps_qV P) := by
  unfold qX2_copyFrom at hK
  refine ps_C.of (ls := [some (.ref (g.2.2.1 + B)), some (.ref (g.2.2.1 + B1))]) 0 (by decide) rfl (Nat.le_of_ble_eq_true rfl) rfl ?_
  refine pm_ald d_X2_copyFrom_0 rfl ?_
  refine pm_ald d_X2_copyFrom_1 rfl ?_
  refine ps_getI d_X2_copyFrom_2 hB1.at0 f_2_0_0 rfl ?_
  refine ps_topI (fun v1 ev1 => ?_)
  replace hK := ps_ltE ev1 hK
  refine ps_putI d_X2_copyFrom_5 hB.at0 f_2_0_0 rfl rfl ?_
  refine ps_nmS (fun σ2 eσ2 => ?_)
  replace hK := ps_ltE eσ2 hK
  refine pm_ald d_X2_copyFrom_8 rfl ?_
  refine pm_ald d_X2_copyFrom_9 rfl ?_
  refine ps_getI d_X2_copyFrom_10 hB1.at0 f_2_0_1 rfl ?_
  refine ps_topI (fun v3 ev3 => ?_)
  replace hK := ps_ltE ev3 hK
  refine ps_putI d_X2_copyFrom_13 hB.at0 f_2_0_1 rfl rfl ?_
  refine ps_nmS (fun σ4 eσ4 => ?_)
  replace hK := ps_ltE eσ4 hK
  refine pm_ald d_X2_copyFrom_16 rfl ?_
  refine pm_ald d_X2_copyFrom_17 rfl ?_
  refine ps_getI d_X2_copyFrom_18 hB1.at0 f_2_0_2 rfl ?_
  refine ps_topI (fun v5 ev5 => ?_)
  replace hK := ps_ltE ev5 hK
  refine ps_putI d_X2_copyFrom_21 hB.at0 f_2_0_2 rfl rfl ?_
  refine ps_nmS (fun σ6 eσ6 => ?_)
  replace hK := ps_ltE eσ6 hK
  refine pm_ald d_X2_copyFrom_24 rfl ?_
  refine pm_ald d_X2_copyFrom_25 rfl ?_
  refine ps_getI d_X2_copyFrom_26 hB1.at0 f_2_0_3 rfl ?_
  refine ps_topI (fun v7 ev7 => ?_)
  replace hK := ps_ltE ev7 hK
  refine ps_putI d_X2_copyFrom_29 hB.at0 f_2_0_3 rfl rfl ?_
  refine ps_nmS (fun σ8 eσ8 => ?_)
  replace hK := ps_ltE eσ8 hK
  refine pm_ald d_X2_copyFrom_32 rfl ?_
  refine pm_ald d_X2_copyFrom_33 rfl ?_
  refine ps_getI d_X2_copyFrom_34 hB1.at0 f_2_0_4 rfl ?_
  refine ps_topI (fun v9 ev9 => ?_)
  replace hK := ps_ltE ev9 hK
  refine ps_putI d_X2_copyFrom_37 hB.at0 f_2_0_4 rfl rfl ?_
  refine ps_nmS (fun σ10 eσ10 => ?_)
  replace hK := ps_ltE eσ10 hK
  refine pm_ald d_X2_copyFrom_40 rfl ?_
  refine pm_ald d_X2_copyFrom_41 rfl ?_
  refine ps_getI d_X2_copyFrom_42 hB1.at0 f_2_0_5 rfl ?_
  refine ps_topI (fun v11 ev11 => ?_)
  replace hK := ps_ltE ev11 hK
  refine ps_putI d_X2_copyFrom_45 hB.at0 f_2_0_5 rfl rfl ?_
  refine ps_nmS (fun σ12 eσ12 => ?_)
  replace hK := ps_ltE eσ12 hK
  refine pm_ald d_X2_copyFrom_48 rfl ?_
  refine pm_ald d_X2_copyFrom_49 rfl ?_
  refine ps_getI d_X2_copyFrom_50 hB1.at0 f_2_0_6 rfl ?_
  refine ps_topI (fun v13 ev13 => ?_)
  replace hK := ps_ltE ev13 hK
  refine ps_putI d_X2_copyFrom_53 hB.at0 f_2_0_6 rfl rfl ?_
  refine ps_nmS (fun σ14 eσ14 => ?_)
  replace hK := ps_ltE eσ14 hK
  refine pm_ald d_X2_copyFrom_56 rfl ?_
  refine pm_ald d_X2_copyFrom_57 rfl ?_
  refine ps_getI d_X2_copyFrom_58 hB1.at0 f_2_0_7 rfl ?_
  refine ps_topI (fun v15 ev15 => ?_)
  replace hK := ps_ltE ev15 hK
  refine ps_putI d_X2_copyFrom_61 hB.at0 f_2_0_7 rfl rfl ?_
  refine ps_nmS (fun σ16 eσ16 => ?_)
  replace hK := ps_ltE eσ16 hK
  refine pm_ald d_X2_copyFrom_64 rfl ?_
  refine pm_ald d_X2_copyFrom_65 rfl ?_
  refine ps_getI d_X2_copyFrom_66 hB1.at0 f_2_0_8 rfl ?_
  refine ps_topI (fun v17 ev17 => ?_)
  replace hK := ps_ltE ev17 hK
  refine ps_putI d_X2_copyFrom_69 hB.at0 f_2_0_8 rfl rfl ?_
  refine ps_nmS (fun σ18 eσ18 => ?_)
  replace hK := ps_ltE eσ18 hK
  refine pm_ald d_X2_copyFrom_72 rfl ?_
  refine pm_ald d_X2_copyFrom_73 rfl ?_
  refine ps_getI d_X2_copyFrom_74 hB1.at0 f_2_0_9 rfl ?_
  refine ps_topI (fun v19 ev19 => ?_)
  replace hK := ps_ltE ev19 hK
  refine ps_putI d_X2_copyFrom_77 hB.at0 f_2_0_9 rfl rfl ?_
  refine ps_nmS (fun σ20 eσ20 => ?_)
  replace hK := ps_ltE eσ20 hK
  refine pm_ald d_X2_copyFrom_80 rfl ?_
  refine pm_ald d_X2_copyFrom_81 rfl ?_
  refine ps_getI d_X2_copyFrom_82 hB1.at0 f_2_0_10 rfl ?_
  refine ps_topI (fun v21 ev21 => ?_)
  replace hK := ps_ltE ev21 hK
  refine ps_putI d_X2_copyFrom_85 hB.at0 f_2_0_10 rfl rfl ?_
  refine ps_nmS (fun σ22 eσ22 => ?_)
  replace hK := ps_ltE eσ22 hK
  refine pm_ald d_X2_copyFrom_88 rfl ?_
  refine ps_getR (q := (B1 + 1)) d_X2_copyFrom_89 hB1.at0 f_2_0_11 rfl ?_
  refine pm_ki d_X2_copyFrom_92 ?_
  refine pm_ald d_X2_copyFrom_93 rfl ?_
  refine ps_getR (q := (B + 1)) d_X2_copyFrom_94 hB.at0 f_2_0_11 rfl ?_
  refine pm_ki d_X2_copyFrom_97 ?_
  refine pm_ki d_X2_copyFrom_98 ?_
  refine ps_copyi d_X2_copyFrom_99 (hB1.at 1 (by decide)) (hB.at 1 (by decide)) a_2_1 a_2_1 (by decide) (by decide) (by decide) (by decide) (by decide) (ps_roomC (by omega)) (Nat.le_of_ble_eq_true rfl) ?_
  refine ps_nmS (fun σ23 eσ23 => ?_)
  replace hK := ps_ltE eσ23 hK
  refine pm_ald d_X2_copyFrom_102 rfl ?_
  refine ps_getR (q := (B1 + 2)) d_X2_copyFrom_103 hB1.at0 f_2_0_12 rfl ?_
  refine pm_ki d_X2_copyFrom_106 ?_
  refine pm_ald d_X2_copyFrom_107 rfl ?_
  refine ps_getR (q := (B + 2)) d_X2_copyFrom_108 hB.at0 f_2_0_12 rfl ?_
  refine pm_ki d_X2_copyFrom_111 ?_
  refine pm_ki d_X2_copyFrom_112 ?_
  refine ps_copyi d_X2_copyFrom_113 (hB1.at 2 (by decide)) (hB.at 2 (by decide)) a_2_2 a_2_2 (by decide) (by decide) (by decide) (by decide) (by decide) (ps_roomC (by omega)) (Nat.le_of_ble_eq_true rfl) ?_
  refine ps_nmS (fun σ24 eσ24 => ?_)
  replace hK := ps_ltE eσ24 hK
  refine pm_ald d_X2_copyFrom_116 rfl ?_
  refine ps_getR (q := (B1 + 3)) d_X2_copyFrom_117 hB1.at0 f_2_0_13 rfl ?_
  refine pm_ki d_X2_copyFrom_120 ?_
  refine pm_ald d_X2_copyFrom_121 rfl ?_
  refine ps_getR (q := (B + 3)) d_X2_copyFrom_122 hB.at0 f_2_0_13 rfl ?_
  refine pm_ki d_X2_copyFrom_125 ?_
  refine pm_ki d_X2_copyFrom_126 ?_
  refine ps_copyi d_X2_copyFrom_128 (hB1.at 3 (by decide)) (hB.at 3 (by decide)) a_2_3 a_2_3 (by decide) (by decide) (by decide) (by decide) (by decide) (ps_roomC (by omega)) (Nat.le_of_ble_eq_true rfl) ?_
  refine ps_nmS (fun σ25 eσ25 => ?_)
  replace hK := ps_ltE eσ25 hK
  refine pm_ald d_X2_copyFrom_131 rfl ?_
  refine ps_getR (q := (B1 + 4)) d_X2_copyFrom_132 hB1.at0 f_2_0_14 rfl ?_
  refine pm_ki d_X2_copyFrom_135 ?_
  refine pm_ald d_X2_copyFrom_136 rfl ?_
  refine ps_getR (q := (B + 4)) d_X2_copyFrom_137 hB.at0 f_2_0_14 rfl ?_
  refine pm_ki d_X2_copyFrom_140 ?_
  refine pm_ki d_X2_copyFrom_141 ?_
  refine ps_copyi d_X2_copyFrom_143 (hB1.at 4 (by decide)) (hB.at 4 (by decide)) a_2_4 a_2_4 (by decide) (by decide) (by decide) (by decide) (by decide) (ps_roomC (by omega)) (Nat.le_of_ble_eq_true rfl) ?_
  refine ps_nmS (fun σ26 eσ26 => ?_)
  replace hK := ps_ltE eσ26 hK
  refine pm_ald d_X2_copyFrom_146 rfl ?_
  refine ps_getR (q := (B1 + 5)) d_X2_copyFrom_147 hB1.at0 f_2_0_15 rfl ?_
  refine pm_ki d_X2_copyFrom_150 ?_
  refine pm_ald d_X2_copyFrom_151 rfl ?_
  refine ps_getR (q := (B + 5)) d_X2_copyFrom_152 hB.at0 f_2_0_15 rfl ?_
  refine pm_ki d_X2_copyFrom_155 ?_
  refine pm_ki d_X2_copyFrom_156 ?_
  refine ps_copyi d_X2_copyFrom_158 (hB1.at 5 (by decide)) (hB.at 5 (by decide)) a_2_5 a_2_5 (by decide) (by decide) (by decide) (by decide) (by decide) (ps_roomC (by omega)) (Nat.le_of_ble_eq_true rfl) ?_
  refine ps_nmS (fun σ27 eσ27 => ?_)
  replace hK := ps_ltE eσ27 hK
  refine pm_ald d_X2_copyFrom_161 rfl ?_
  refine ps_getR (q := (B1 + 6)) d_X2_copyFrom_162 hB1.at0 f_2_0_16 rfl ?_
  refine pm_ki d_X2_copyFrom_165 ?_
  refine pm_ald d_X2_copyFrom_166 rfl ?_
  refine ps_getR (q := (B + 6)) d_X2_copyFrom_167 hB.at0 f_2_0_16 rfl ?_
  refine pm_ki d_X2_copyFrom_170 ?_
  refine pm_ki d_X2_copyFrom_171 ?_
  refine ps_copyi d_X2_copyFrom_173 (hB1.at 6 (by decide)) (hB.at 6 (by decide)) a_2_6 a_2_6 (by decide) (by decide) (by decide) (by decide) (by decide) (ps_roomC (by omega)) (Nat.le_of_ble_eq_true rfl) ?_
  refine ps_nmS (fun σ28 eσ28 => ?_)
  replace hK := ps_ltE eσ28 hK
  refine pm_ald d_X2_copyFrom_176 rfl ?_
  refine ps_getR (q := (B + 7)) d_X2_copyFrom_177 hB.at0 f_2_0_17 rfl ?_
  refine pm_ald d_X2_copyFrom_180 rfl ?_
  refine ps_getR (q := (B1 + 7)) d_X2_copyFrom_181 hB1.at0 f_2_0_17 rfl ?_
  refine ps_cVV d_X2_copyFrom_184 mv_X3_copyFrom (hB.at 7 (by decide)) ob_2_7 rfl (As := [.ref (g.2.2.1 + (B1 + 7))]) rfl rfl (ps_room.of (by omega) (by decide)) (Nat.le_of_ble_eq_true rfl) (C_X3_copyFrom B hB B1 hB1 σ28 _ (ps_bdE hK)) ?_
  intro σ30 hT
  clear hK
  have hK := hT
  clear hT
  have hQ := ps_so hK
  exact ps_vret rfl d_X2_copyFrom_187 ⟨rfl, hQ⟩
def qX3_clear (B : Nat) (σ : ps_S) : Option (Unit × ps_S) :=
  ps_let (ps_rI σ (B + 7) (upd (σ.1 (B + 7)) 1 0)) fun σ1 =>
  ps_let (ps_rI σ1 (B + 7) (upd (σ1.1 (B + 7)) 2 0)) fun σ2 =>
  ps_let (ps_rI σ2 (B + 7) (upd (σ2.1 (B + 7)) 3 0)) fun σ3 =>
  ps_let (ps_rI σ3 (B + 7) (upd (σ3.1 (B + 7)) 4 0)) fun σ4 =>
  ps_let (ps_rI σ4 (B + 7) (upd (σ4.1 (B + 7)) 5 0)) fun σ5 =>
  some ((), σ5)
set_option maxRecDepth 100000 in
theorem C_X3_clear {g : pm_G} (B : Nat) (hB : ps_Ho B) (σ : ps_S) (P : Unit → ps_S → Prop) (hK : ps_ok (qX3_clear B σ) P) : ps_C g mX3_clear 1 [.ref (g.2.2.1 + (B + 7))] σ (ps_qV P) := by
  unfold qX3_clear at hK
  refine ps_C.of (ls := [some (.ref (g.2.2.1 + (B + 7)))]) 0 (by decide) rfl (Nat.le_of_ble_eq_true rfl) rfl ?_
  refine pm_ald d_X3_clear_0 rfl ?_
  refine pm_ki d_X3_clear_1 ?_
  refine ps_putI d_X3_clear_2 (hB.at 7 (by decide)) f_2_7_1 rfl rfl ?_
  refine ps_nmS (fun σ1 eσ1 => ?_)
  replace hK := ps_ltE eσ1 hK
  refine pm_ald d_X3_clear_5 rfl ?_
  refine pm_ki d_X3_clear_6 ?_
  refine ps_putI d_X3_clear_7 (hB.at 7 (by decide)) f_2_7_2 rfl rfl ?_
  refine ps_nmS (fun σ2 eσ2 => ?_)
  replace hK := ps_ltE eσ2 hK
  refine pm_ald d_X3_clear_10 rfl ?_
  refine pm_ki d_X3_clear_11 ?_
  refine ps_putI d_X3_clear_12 (hB.at 7 (by decide)) f_2_7_3 rfl rfl ?_
  refine ps_nmS (fun σ3 eσ3 => ?_)
  replace hK := ps_ltE eσ3 hK
  refine pm_ald d_X3_clear_15 rfl ?_
  refine pm_ki d_X3_clear_16 ?_
  refine ps_putI d_X3_clear_17 (hB.at 7 (by decide)) f_2_7_4 rfl rfl ?_
  refine ps_nmS (fun σ4 eσ4 => ?_)
  replace hK := ps_ltE eσ4 hK
  refine pm_ald d_X3_clear_20 rfl ?_
  refine pm_ki d_X3_clear_21 ?_
  refine ps_putI d_X3_clear_22 (hB.at 7 (by decide)) f_2_7_5 rfl rfl ?_
  refine ps_nmS (fun σ5 eσ5 => ?_)
  replace hK := ps_ltE eσ5 hK
  have hQ := ps_so hK
  exact ps_vret rfl d_X3_clear_25 ⟨rfl, hQ⟩
def qX2_clear (B : Nat) (σ : ps_S) : Option (Unit × ps_S) :=
  ps_let (ps_rI σ B (upd (σ.1 B) 7 0)) fun σ1 =>
  ps_let (ps_rI σ1 B (upd (σ1.1 B) 8 0)) fun σ2 =>
  ps_let (ps_rI σ2 B (upd (σ2.1 B) 9 0)) fun σ3 =>
  ps_let (ps_rI σ3 B (upd (σ3.1 B) 10 0)) fun σ4 =>
  ps_bd (qJ7_fill_53178 (B + 2) 4 0 σ4) (fun _ σ6 =>
  ps_bd (qX3_clear B σ6) (fun _ σ8 =>
  some ((), σ8)))
set_option maxRecDepth 100000 in
theorem C_X2_clear {g : pm_G} (B : Nat) (hB : ps_Ho B) (σ : ps_S) (P : Unit → ps_S → Prop) (hK : ps_ok (qX2_clear B σ) P) : ps_C g mX2_clear 2 [.ref (g.2.2.1 + B)] σ (ps_qV P) := by
  unfold qX2_clear at hK
  refine ps_C.of (ls := [some (.ref (g.2.2.1 + B))]) 0 (by decide) rfl (Nat.le_of_ble_eq_true rfl) rfl ?_
  refine pm_ald d_X2_clear_0 rfl ?_
  refine pm_ki d_X2_clear_1 ?_
  refine ps_putI d_X2_clear_2 hB.at0 f_2_0_7 rfl rfl ?_
  refine ps_nmS (fun σ1 eσ1 => ?_)
  replace hK := ps_ltE eσ1 hK
  refine pm_ald d_X2_clear_5 rfl ?_
  refine pm_ki d_X2_clear_6 ?_
  refine ps_putI d_X2_clear_7 hB.at0 f_2_0_8 rfl rfl ?_
  refine ps_nmS (fun σ2 eσ2 => ?_)
  replace hK := ps_ltE eσ2 hK
  refine pm_ald d_X2_clear_10 rfl ?_
  refine pm_ki d_X2_clear_11 ?_
  refine ps_putI d_X2_clear_12 hB.at0 f_2_0_9 rfl rfl ?_
  refine ps_nmS (fun σ3 eσ3 => ?_)
  replace hK := ps_ltE eσ3 hK
  refine pm_ald d_X2_clear_15 rfl ?_
  refine pm_ki d_X2_clear_16 ?_
  refine ps_putI d_X2_clear_17 hB.at0 f_2_0_10 rfl rfl ?_
  refine ps_nmS (fun σ4 eσ4 => ?_)
  replace hK := ps_ltE eσ4 hK
  refine pm_ald d_X2_clear_20 rfl ?_
  refine ps_getR (q := (B + 2)) d_X2_clear_21 hB.at0 f_2_0_12 rfl ?_
  refine pm_ki d_X2_clear_24 ?_
  refine ps_cSV d_X2_clear_25 ms_J7_fill_53178 (As := [.ref (g.2.2.1 + (B + 2)), .int 0]) rfl rfl (ps_room.of (by omega) (by decide)) (Nat.le_of_ble_eq_true rfl) (C_J7_fill_53178 (B + 2) 4 2 B 2 (hB.at 2 (by decide)) a_2_2 0 σ4 _ (ps_bdE hK)) ?_
  intro σ6 hT
  clear hK
  have hK := hT
  clear hT
  refine pm_ald d_X2_clear_28 rfl ?_
  refine ps_getR (q := (B + 7)) d_X2_clear_29 hB.at0 f_2_0_17 rfl ?_
  refine ps_cVV d_X2_clear_32 mv_X3_clear (hB.at 7 (by decide)) ob_2_7 rfl (As := []) rfl rfl (ps_room.of (by omega) (by decide)) (Nat.le_of_ble_eq_true rfl) (C_X3_clear B hB σ6 _ (ps_bdE hK)) ?_
  intro σ8 hT
  clear hK
  have hK := hT
  clear hT
  have hQ := ps_so hK
  exact ps_vret rfl d_X2_clear_35 ⟨rfl, hQ⟩
def qJ0_isLatin1_aae02 (i : Nat) (σ : ps_S) : Option (Int32 × ps_S) :=
  some (1, σ)
set_option maxRecDepth 100000 in
theorem C_J0_isLatin1_aae02 {g : pm_G} (i : Nat) (hi : i < 26) (σ : ps_S) (P : Int32 → ps_S → Prop) (hK : ps_ok (qJ0_isLatin1_aae02 i σ) P) : ps_C g mJ0_isLatin1_aae02 1 [.ref (g.2.2.2.1 i)] σ (ps_qI P) := by
  unfold qJ0_isLatin1_aae02 at hK
  refine ps_C.of (ls := [some (.ref (g.2.2.2.1 i))]) 0 (by decide) rfl (Nat.le_of_ble_eq_true rfl) rfl ?_
  refine pm_compact d_J0_isLatin1_aae02_0 ?_
  refine pm_if_eq d_J0_isLatin1_aae02_3 (fun c1 => absurd c1 (by decide)) (fun _ => ?_)
  refine pm_ald d_J0_isLatin1_aae02_6 rfl ?_
  refine pm_scoder hi d_J0_isLatin1_aae02_7 ?_
  refine pm_if_ne d_J0_isLatin1_aae02_10 (fun c2 => (c2 (by decide)).elim) (fun _ => ?_)
  refine pm_ki d_J0_isLatin1_aae02_13 ?_
  refine pm_goto d_J0_isLatin1_aae02_14 ?_
  have hQ := ps_so hK
  exact ps_zret rfl rfl d_J0_isLatin1_aae02_18 ⟨_, rfl, hQ⟩
def qJ0_coder_7d493 (i : Nat) (σ : ps_S) : Option (Int32 × ps_S) :=
  some (0, σ)
set_option maxRecDepth 100000 in
theorem C_J0_coder_7d493 {g : pm_G} (i : Nat) (hi : i < 26) (σ : ps_S) (P : Int32 → ps_S → Prop) (hK : ps_ok (qJ0_coder_7d493 i σ) P) : ps_C g mJ0_coder_7d493 1 [.ref (g.2.2.2.1 i)] σ (ps_qI P) := by
  unfold qJ0_coder_7d493 at hK
  refine ps_C.of (ls := [some (.ref (g.2.2.2.1 i))]) 0 (by decide) rfl (Nat.le_of_ble_eq_true rfl) rfl ?_
  refine pm_compact d_J0_coder_7d493_0 ?_
  refine pm_if_eq d_J0_coder_7d493_3 (fun c1 => absurd c1 (by decide)) (fun _ => ?_)
  refine pm_ald d_J0_coder_7d493_6 rfl ?_
  refine pm_scoder hi d_J0_coder_7d493_7 ?_
  refine pm_goto d_J0_coder_7d493_10 ?_
  have hQ := ps_so hK
  exact ps_zret rfl rfl d_J0_coder_7d493_14 ⟨_, rfl, hQ⟩
def qJ0_length_8abf5 (i : Nat) (σ : ps_S) : Option (Int32 × ps_S) :=
  ps_bd (qJ0_coder_7d493 i σ) (fun v1 σ2 =>
  some ((((Int32.ofNat (pm_len.getD i 0))) >>> (v1 &&& 31)), σ2))
set_option maxRecDepth 100000 in
theorem C_J0_length_8abf5 {g : pm_G} (i : Nat) (hi : i < 26) (σ : ps_S) (P : Int32 → ps_S → Prop) (hK : ps_ok (qJ0_length_8abf5 i σ) P) : ps_C g mJ0_length_8abf5 2 [.ref (g.2.2.2.1 i)] σ (ps_qI P) := by
  unfold qJ0_length_8abf5 at hK
  refine ps_C.of (ls := [some (.ref (g.2.2.2.1 i))]) 0 (by decide) rfl (Nat.le_of_ble_eq_true rfl) rfl ?_
  refine pm_ald d_J0_length_8abf5_0 rfl ?_
  refine pm_svalue hi d_J0_length_8abf5_1 ?_
  refine pm_salen hi d_J0_length_8abf5_4 rfl ?_
  refine pm_ald d_J0_length_8abf5_5 rfl ?_
  refine ps_cTI hi d_J0_length_8abf5_6 mv_J0_coder_7d493 rfl (As := []) rfl rfl (ps_room.of (by omega) (by decide)) (Nat.le_of_ble_eq_true rfl) (C_J0_coder_7d493 i hi σ _ (ps_bdE hK)) ?_
  intro v1 σ2 hT
  clear hK
  have hK := hT
  clear hT
  refine pm_ishr d_J0_length_8abf5_9 ?_
  have hQ := ps_so hK
  exact ps_iret rfl d_J0_length_8abf5_10 ⟨_, rfl, hQ⟩
def qJ1_canEncode_9a6ad (p1 : Int32) (σ : ps_S) : Option (Int32 × ps_S) :=
  if p1 < 0 then
  some (0, σ)
  else
  if 255 < p1 then
  some (0, σ)
  else
  some (1, σ)
set_option maxRecDepth 100000 in
theorem C_J1_canEncode_9a6ad {g : pm_G} (p1 : Int32) (σ : ps_S) (P : Int32 → ps_S → Prop) (hK : ps_ok (qJ1_canEncode_9a6ad p1 σ) P) : ps_C g mJ1_canEncode_9a6ad 1 [.int p1] σ (ps_qI P) := by
  unfold qJ1_canEncode_9a6ad at hK
  refine ps_C.of (ls := [some (.int p1)]) 0 (by decide) rfl (Nat.le_of_ble_eq_true rfl) rfl ?_
  refine pm_ild d_J1_canEncode_9a6ad_0 rfl ?_
  refine pm_if_lt d_J1_canEncode_9a6ad_1 (fun c1 => ?_) (fun c1 => ?_)
  · replace hK := ps_ifT c1 hK
    refine pm_ki d_J1_canEncode_9a6ad_15 ?_
    have hQ := ps_so hK
    exact ps_zret rfl rfl d_J1_canEncode_9a6ad_16 ⟨_, rfl, hQ⟩
  · replace hK := ps_ifF c1 hK
    refine pm_ild d_J1_canEncode_9a6ad_4 rfl ?_
    refine pm_ki d_J1_canEncode_9a6ad_5 ?_
    refine pm_icmp_gt d_J1_canEncode_9a6ad_8 (fun c2 => ?_) (fun c2 => ?_)
    · replace hK := ps_ifT c2 hK
      refine pm_ki d_J1_canEncode_9a6ad_15 ?_
      have hQ := ps_so hK
      exact ps_zret rfl rfl d_J1_canEncode_9a6ad_16 ⟨_, rfl, hQ⟩
    · replace hK := ps_ifF c2 hK
      refine pm_ki d_J1_canEncode_9a6ad_11 ?_
      refine pm_goto d_J1_canEncode_9a6ad_12 ?_
      have hQ := ps_so hK
      exact ps_zret rfl rfl d_J1_canEncode_9a6ad_16 ⟨_, rfl, hQ⟩
def qJ1_indexOfChar_4cfef_7 (i1 : Nat) (y1 : Int32) (y2 : Int32) (y3 : Int32) (y4 : Int32) : Nat → Int32 → ps_S → Option ((Int32 ⊕ (Int32)) × ps_S)
  | 0, _, _ => none
  | n + 1, x5, σ =>
    if y3 ≤ x5 then
    some (.inr x5, σ)
    else
    if ps_in x5 (pm_len.getD i1 0) = true then
    ps_let ((pm_byt.getD i1 []).getD (x5).toNatClampNeg 0) fun v3 =>
    if v3 = y4 then
    some (.inl x5, σ)
    else
    ps_let (x5 + 1) fun v6 =>
    qJ1_indexOfChar_4cfef_7 i1 y1 y2 y3 y4 n v6 σ
    else none
set_option maxRecDepth 100000 in
theorem L_J1_indexOfChar_4cfef_7 {g : pm_G} (D : Nat) (hD : 1 ≤ D) {P : Int32 → ps_S → Prop} (i1 : Nat) (hi1 : i1 < 26) (y1 : Int32) (y2 : Int32) (y3 : Int32) (y4 : Int32) : ∀ (n : Nat) (x5 : Int32) (σ : ps_S), ps_ok (qJ1_indexOfChar_4cfef_7 i1 y1 y2 y3 y4 n x5 σ) (fun res σ => match res with | .inl r => P r σ | .inr x5 => pm_W g mJ1_indexOfChar_4cfef (ps_F g D (ps_qI P)) 0 0 31 [some (.ref (g.2.2.2.2 i1)), some (.int y1), some (.int y2), some (.int y3), some (.int y4), some (.int x5)] [] 345 (ps_E g σ)) → pm_W g mJ1_indexOfChar_4cfef (ps_F g D (ps_qI P)) 0 0 7 [some (.ref (g.2.2.2.2 i1)), some (.int y1), some (.int y2), some (.int y3), some (.int y4), some (.int x5)] [] 345 (ps_E g σ) := by
  intro n
  induction n with
  | zero => intro x5 σ hK; exact (ps_no hK).elim
  | succ n ih =>
    intro x5 σ hK
    rw [qJ1_indexOfChar_4cfef_7] at hK
    refine pm_ild d_J1_indexOfChar_4cfef_7 rfl ?_
    refine pm_ild d_J1_indexOfChar_4cfef_9 rfl ?_
    refine pm_icmp_ge d_J1_indexOfChar_4cfef_10 (fun c2 => ?_) (fun c2 => ?_)
    · replace hK := ps_ifT c2 hK
      exact ps_so hK
    · replace hK := ps_ifF c2 hK
      refine pm_ald d_J1_indexOfChar_4cfef_13 rfl ?_
      refine pm_ild d_J1_indexOfChar_4cfef_14 rfl ?_
      obtain ⟨b4, hT⟩ := ps_gd hK
      replace hK := hT
      clear hT
      refine pm_sbald hi1 d_J1_indexOfChar_4cfef_16 (ps_in_of b4) ?_
      refine ps_topI (fun v3 ev3 => ?_)
      replace hK := ps_ltE ev3 hK
      refine pm_ild d_J1_indexOfChar_4cfef_17 rfl ?_
      refine pm_icmp_ne d_J1_indexOfChar_4cfef_19 (fun c5 => ?_) (fun c5 => ?_)
      · replace hK := ps_ifF c5 hK
        refine pm_inc5 d_J1_indexOfChar_4cfef_25 rfl ?_
        obtain ⟨v6, ev6⟩ : ∃ y : Int32, y = x5 + 1 := ⟨_, rfl⟩
        rw [← ev6]
        replace hK := ps_ltE ev6 hK
        refine pm_goto d_J1_indexOfChar_4cfef_28 ?_
        exact ih _ _ hK
      · replace hK := ps_ifT c5 hK
        refine pm_ild d_J1_indexOfChar_4cfef_22 rfl ?_
        have hQ := ps_so hK
        exact ps_iret rfl d_J1_indexOfChar_4cfef_24 ⟨_, rfl, hQ⟩
def qJ1_indexOfChar_4cfef (i1 : Nat) (p2 : Int32) (p3 : Int32) (p4 : Int32) (σ : ps_S) : Option (Int32 × ps_S) :=
  ps_let (((p2).toInt8.toInt32)) fun v1 =>
  ps_bd (qJ1_indexOfChar_4cfef_7 i1 p2 p3 p4 v1 ps_N p3 σ) (fun res σ7 => match res with
  | .inl r => some (r, σ7)
  | .inr v8 =>
    some ((-1), σ7))
set_option maxRecDepth 100000 in
theorem C_J1_indexOfChar_4cfef {g : pm_G} (i1 : Nat) (hi1 : i1 < 26) (p2 : Int32) (p3 : Int32) (p4 : Int32) (σ : ps_S) (P : Int32 → ps_S → Prop) (hK : ps_ok (qJ1_indexOfChar_4cfef i1 p2 p3 p4 σ) P) : ps_C g mJ1_indexOfChar_4cfef 1 [.ref (g.2.2.2.2 i1), .int p2, .int p3, .int p4] σ (ps_qI P) := by
  unfold qJ1_indexOfChar_4cfef at hK
  refine ps_C.of (ls := [some (.ref (g.2.2.2.2 i1)), some (.int p2), some (.int p3), some (.int p4), none, none]) 2 (by decide) rfl (Nat.le_of_ble_eq_true rfl) rfl ?_
  refine pm_ild d_J1_indexOfChar_4cfef_0 rfl ?_
  refine pm_i2b d_J1_indexOfChar_4cfef_1 ?_
  refine ps_topI (fun v1 ev1 => ?_)
  replace hK := ps_ltE ev1 hK
  refine pm_ist4 d_J1_indexOfChar_4cfef_2 rfl (by decide) ?_
  refine pm_ild d_J1_indexOfChar_4cfef_4 rfl ?_
  refine pm_ist5 d_J1_indexOfChar_4cfef_5 rfl (by decide) ?_
  refine L_J1_indexOfChar_4cfef_7 _ (by decide) i1 hi1 p2 p3 p4 v1 _ _ _ (ps_ok.mono (ps_bdE hK) ?_)
  intro res σ7 hT
  clear hK
  match res, hT with
  | .inl r, hT => exact ps_so hT
  | .inr v8, hT =>
    have hK := hT
    clear hT
    refine pm_ki d_J1_indexOfChar_4cfef_31 ?_
    have hQ := ps_so hK
    exact ps_iret rfl d_J1_indexOfChar_4cfef_32 ⟨_, rfl, hQ⟩
def qJ1_indexOf_4cfef (i1 : Nat) (p2 : Int32) (p3 : Int32) (p4 : Int32) (σ : ps_S) : Option (Int32 × ps_S) :=
  ps_bd (qJ1_canEncode_9a6ad p2 σ) (fun v1 σ2 =>
  if v1 = 0 then
  some ((-1), σ2)
  else
  ps_let (if p3 < 0 then 0 else p3) fun v4 =>
  ps_let (if ((Int32.ofNat (pm_len.getD i1 0))) < p4 then ((Int32.ofNat (pm_len.getD i1 0))) else p4) fun v5 =>
  if v4 < v5 then
  ps_bd (qJ1_indexOfChar_4cfef i1 p2 v4 v5 σ2) (fun v7 σ8 =>
  some (v7, σ8))
  else
  some ((-1), σ2))
set_option maxRecDepth 100000 in
theorem C_J1_indexOf_4cfef {g : pm_G} (i1 : Nat) (hi1 : i1 < 26) (p2 : Int32) (p3 : Int32) (p4 : Int32) (σ : ps_S) (P : Int32 → ps_S → Prop) (hK : ps_ok (qJ1_indexOf_4cfef i1 p2 p3 p4 σ) P) : ps_C g mJ1_indexOf_4cfef 2 [.ref (g.2.2.2.2 i1), .int p2, .int p3, .int p4] σ (ps_qI P) := by
  unfold qJ1_indexOf_4cfef at hK
  refine ps_C.of (ls := [some (.ref (g.2.2.2.2 i1)), some (.int p2), some (.int p3), some (.int p4)]) 0 (by decide) rfl (Nat.le_of_ble_eq_true rfl) rfl ?_
  refine pm_ild d_J1_indexOf_4cfef_0 rfl ?_
  refine ps_cSI d_J1_indexOf_4cfef_1 ms_J1_canEncode_9a6ad (As := [.int p2]) rfl rfl (ps_room.of (by omega) (by decide)) (Nat.le_of_ble_eq_true rfl) (C_J1_canEncode_9a6ad p2 σ _ (ps_bdE hK)) ?_
  intro v1 σ2 hT
  clear hK
  have hK := hT
  clear hT
  refine pm_if_ne d_J1_indexOf_4cfef_4 (fun c3 => ?_) (fun c3 => ?_)
  · replace hK := ps_ifF c3 hK
    refine pm_ild d_J1_indexOf_4cfef_9 rfl ?_
    refine pm_ki d_J1_indexOf_4cfef_10 ?_
    refine pm_mmax d_J1_indexOf_4cfef_11 (ps_roomM (by omega)) (Nat.le_of_ble_eq_true rfl) ?_
    refine ps_topI (fun v4 ev4 => ?_)
    replace hK := ps_ltE ev4 hK
    refine pm_ist2 d_J1_indexOf_4cfef_14 rfl (by decide) ?_
    refine pm_ild d_J1_indexOf_4cfef_15 rfl ?_
    refine pm_ald d_J1_indexOf_4cfef_16 rfl ?_
    refine pm_salen hi1 d_J1_indexOf_4cfef_17 rfl ?_
    refine pm_mmin d_J1_indexOf_4cfef_18 (ps_roomM (by omega)) (Nat.le_of_ble_eq_true rfl) ?_
    refine ps_topI (fun v5 ev5 => ?_)
    replace hK := ps_ltE ev5 hK
    refine pm_ist3 d_J1_indexOf_4cfef_21 rfl (by decide) ?_
    refine pm_ild d_J1_indexOf_4cfef_22 rfl ?_
    refine pm_ild d_J1_indexOf_4cfef_23 rfl ?_
    refine pm_icmp_lt d_J1_indexOf_4cfef_24 (fun c6 => ?_) (fun c6 => ?_)
    · replace hK := ps_ifT c6 hK
      refine pm_ald d_J1_indexOf_4cfef_29 rfl ?_
      refine pm_ild d_J1_indexOf_4cfef_30 rfl ?_
      refine pm_ild d_J1_indexOf_4cfef_31 rfl ?_
      refine pm_ild d_J1_indexOf_4cfef_32 rfl ?_
      refine ps_cSI d_J1_indexOf_4cfef_33 ms_J1_indexOfChar_4cfef (As := [.ref (g.2.2.2.2 i1), .int p2, .int v4, .int v5]) rfl rfl (ps_room.of (by omega) (by decide)) (Nat.le_of_ble_eq_true rfl) (C_J1_indexOfChar_4cfef i1 hi1 p2 v4 v5 σ2 _ (ps_bdE hK)) ?_
      intro v7 σ8 hT
      clear hK
      have hK := hT
      clear hT
      have hQ := ps_so hK
      exact ps_iret rfl d_J1_indexOf_4cfef_36 ⟨_, rfl, hQ⟩
    · replace hK := ps_ifF c6 hK
      refine pm_ki d_J1_indexOf_4cfef_27 ?_
      have hQ := ps_so hK
      exact ps_iret rfl d_J1_indexOf_4cfef_28 ⟨_, rfl, hQ⟩
  · replace hK := ps_ifT c3 hK
    refine pm_ki d_J1_indexOf_4cfef_7 ?_
    have hQ := ps_so hK
    exact ps_iret rfl d_J1_indexOf_4cfef_8 ⟨_, rfl, hQ⟩
def qJ3_checkFromToIndex_8c36e (p1 : Int32) (p2 : Int32) (p3 : Int32) (σ : ps_S) : Option (Int32 × ps_S) :=
  if p1 < 0 then
  none
  else
  if p2 < p1 then
  none
  else
  if p2 ≤ p3 then
  some (p1, σ)
  else
  none
set_option maxRecDepth 100000 in
theorem C_J3_checkFromToIndex_8c36e {g : pm_G} (p1 : Int32) (p2 : Int32) (p3 : Int32) (v4 : Value) (hv4 : v4 = .null ∨ ∃ t : Nat, v4 = .ref t) (σ : ps_S) (P : Int32 → ps_S → Prop) (hK : ps_ok (qJ3_checkFromToIndex_8c36e p1 p2 p3 σ) P) : ps_C g mJ3_checkFromToIndex_8c36e 1 [.int p1, .int p2, .int p3, v4] σ (ps_qI P) := by
  unfold qJ3_checkFromToIndex_8c36e at hK
  rcases hv4 with rfl | ⟨t, rfl⟩
  · refine ps_C.of (ls := [some (.int p1), some (.int p2), some (.int p3), some (.null)]) 0 (by decide) rfl (Nat.le_of_ble_eq_true rfl) rfl ?_
    refine pm_ild d_J3_checkFromToIndex_8c36e_0 rfl ?_
    refine pm_if_lt d_J3_checkFromToIndex_8c36e_1 (fun c1 => ?_) (fun c1 => ?_)
    · replace hK := ps_ifT c1 hK
      exact (ps_no hK).elim
    · replace hK := ps_ifF c1 hK
      refine pm_ild d_J3_checkFromToIndex_8c36e_4 rfl ?_
      refine pm_ild d_J3_checkFromToIndex_8c36e_5 rfl ?_
      refine pm_icmp_gt d_J3_checkFromToIndex_8c36e_6 (fun c2 => ?_) (fun c2 => ?_)
      · replace hK := ps_ifT c2 hK
        exact (ps_no hK).elim
      · replace hK := ps_ifF c2 hK
        refine pm_ild d_J3_checkFromToIndex_8c36e_9 rfl ?_
        refine pm_ild d_J3_checkFromToIndex_8c36e_10 rfl ?_
        refine pm_icmp_le d_J3_checkFromToIndex_8c36e_11 (fun c3 => ?_) (fun c3 => ?_)
        · replace hK := ps_ifT c3 hK
          refine pm_ild d_J3_checkFromToIndex_8c36e_22 rfl ?_
          have hQ := ps_so hK
          exact ps_iret rfl d_J3_checkFromToIndex_8c36e_23 ⟨_, rfl, hQ⟩
        · replace hK := ps_ifF c3 hK
          exact (ps_no hK).elim
  · refine ps_C.of (ls := [some (.int p1), some (.int p2), some (.int p3), some ((.ref t))]) 0 (by decide) rfl (Nat.le_of_ble_eq_true rfl) rfl ?_
    refine pm_ild d_J3_checkFromToIndex_8c36e_0 rfl ?_
    refine pm_if_lt d_J3_checkFromToIndex_8c36e_1 (fun c1 => ?_) (fun c1 => ?_)
    · replace hK := ps_ifT c1 hK
      exact (ps_no hK).elim
    · replace hK := ps_ifF c1 hK
      refine pm_ild d_J3_checkFromToIndex_8c36e_4 rfl ?_
      refine pm_ild d_J3_checkFromToIndex_8c36e_5 rfl ?_
      refine pm_icmp_gt d_J3_checkFromToIndex_8c36e_6 (fun c2 => ?_) (fun c2 => ?_)
      · replace hK := ps_ifT c2 hK
        exact (ps_no hK).elim
      · replace hK := ps_ifF c2 hK
        refine pm_ild d_J3_checkFromToIndex_8c36e_9 rfl ?_
        refine pm_ild d_J3_checkFromToIndex_8c36e_10 rfl ?_
        refine pm_icmp_le d_J3_checkFromToIndex_8c36e_11 (fun c3 => ?_) (fun c3 => ?_)
        · replace hK := ps_ifT c3 hK
          refine pm_ild d_J3_checkFromToIndex_8c36e_22 rfl ?_
          have hQ := ps_so hK
          exact ps_iret rfl d_J3_checkFromToIndex_8c36e_23 ⟨_, rfl, hQ⟩
        · replace hK := ps_ifF c3 hK
          exact (ps_no hK).elim
def qJ0_checkBoundsBeginEnd_23922 (p1 : Int32) (p2 : Int32) (p3 : Int32) (σ : ps_S) : Option (Unit × ps_S) :=
  ps_bd (qJ3_checkFromToIndex_8c36e p1 p2 p3 σ) (fun v2 σ3 =>
  some ((), σ3))
set_option maxRecDepth 100000 in
theorem C_J0_checkBoundsBeginEnd_23922 {g : pm_G} (p1 : Int32) (p2 : Int32) (p3 : Int32) (σ : ps_S) (P : Unit → ps_S → Prop) (hK : ps_ok (qJ0_checkBoundsBeginEnd_23922 p1 p2 p3 σ) P) : ps_C g mJ0_checkBoundsBeginEnd_23922 2 [.int p1, .int p2, .int p3] σ (ps_qV P) := by
  unfold qJ0_checkBoundsBeginEnd_23922 at hK
  refine ps_C.of (ls := [some (.int p1), some (.int p2), some (.int p3)]) 0 (by decide) rfl (Nat.le_of_ble_eq_true rfl) rfl ?_
  refine pm_ild d_J0_checkBoundsBeginEnd_23922_0 rfl ?_
  refine pm_ild d_J0_checkBoundsBeginEnd_23922_1 rfl ?_
  refine pm_ild d_J0_checkBoundsBeginEnd_23922_2 rfl ?_
  refine pm_format d_J0_checkBoundsBeginEnd_23922_3 (fun f1 hf1 => ?_)
  refine ps_cSI d_J0_checkBoundsBeginEnd_23922_6 ms_J3_checkFromToIndex_8c36e (As := [.int p1, .int p2, .int p3, f1]) rfl rfl (ps_room.of (by omega) (by decide)) (Nat.le_of_ble_eq_true rfl) (C_J3_checkFromToIndex_8c36e p1 p2 p3 f1 hf1 σ _ (ps_bdE hK)) ?_
  intro v2 σ3 hT
  clear hK
  have hK := hT
  clear hT
  refine pm_pop d_J0_checkBoundsBeginEnd_23922_9 rfl ?_
  have hQ := ps_so hK
  exact ps_vret rfl d_J0_checkBoundsBeginEnd_23922_10 ⟨rfl, hQ⟩
def qJ11_highSurrogate_5068e (p1 : Int32) (σ : ps_S) : Option (Int32 × ps_S) :=
  if ps_c16 (((((((((p1).toUInt32 >>> ((10).toUInt32 &&& Int32.toUInt32 31)).toInt32)) + 55232)).toUInt32 % 65536).toInt32)) = true then some (((((((((p1).toUInt32 >>> ((10).toUInt32 &&& Int32.toUInt32 31)).toInt32)) + 55232)).toUInt32 % 65536).toInt32), σ) else none
set_option maxRecDepth 100000 in
theorem C_J11_highSurrogate_5068e {g : pm_G} (p1 : Int32) (σ : ps_S) (P : Int32 → ps_S → Prop) (hK : ps_ok (qJ11_highSurrogate_5068e p1 σ) P) : ps_C g mJ11_highSurrogate_5068e 1 [.int p1] σ (ps_qI P) := by
  unfold qJ11_highSurrogate_5068e at hK
  refine ps_C.of (ls := [some (.int p1)]) 0 (by decide) rfl (Nat.le_of_ble_eq_true rfl) rfl ?_
  refine pm_ild d_J11_highSurrogate_5068e_0 rfl ?_
  refine pm_ki d_J11_highSurrogate_5068e_1 ?_
  refine pm_iushr d_J11_highSurrogate_5068e_3 ?_
  refine pm_ki d_J11_highSurrogate_5068e_4 ?_
  refine pm_iadd d_J11_highSurrogate_5068e_6 ?_
  refine pm_i2c d_J11_highSurrogate_5068e_7 ?_
  obtain ⟨b1, hT⟩ := ps_gd hK
  have hQ := ps_so hT
  exact ps_zret rfl (ps_nc b1) d_J11_highSurrogate_5068e_8 ⟨_, rfl, hQ⟩
def qJ11_isValidCodePoint_9a6ad (p1 : Int32) (σ : ps_S) : Option (Int32 × ps_S) :=
  ps_let ((((p1).toUInt32 >>> ((16).toUInt32 &&& Int32.toUInt32 31)).toInt32)) fun v1 =>
  if 17 ≤ v1 then
  some (0, σ)
  else
  some (1, σ)
set_option maxRecDepth 100000 in
theorem C_J11_isValidCodePoint_9a6ad {g : pm_G} (p1 : Int32) (σ : ps_S) (P : Int32 → ps_S → Prop) (hK : ps_ok (qJ11_isValidCodePoint_9a6ad p1 σ) P) : ps_C g mJ11_isValidCodePoint_9a6ad 1 [.int p1] σ (ps_qI P) := by
  unfold qJ11_isValidCodePoint_9a6ad at hK
  refine ps_C.of (ls := [some (.int p1), none]) 1 (by decide) rfl (Nat.le_of_ble_eq_true rfl) rfl ?_
  refine pm_ild d_J11_isValidCodePoint_9a6ad_0 rfl ?_
  refine pm_ki d_J11_isValidCodePoint_9a6ad_1 ?_
  refine pm_iushr d_J11_isValidCodePoint_9a6ad_3 ?_
  refine ps_topI (fun v1 ev1 => ?_)
  replace hK := ps_ltE ev1 hK
  refine pm_ist1 d_J11_isValidCodePoint_9a6ad_4 rfl (by decide) ?_
  refine pm_ild d_J11_isValidCodePoint_9a6ad_5 rfl ?_
  refine pm_ki d_J11_isValidCodePoint_9a6ad_6 ?_
  refine pm_icmp_ge d_J11_isValidCodePoint_9a6ad_8 (fun c2 => ?_) (fun c2 => ?_)
  · replace hK := ps_ifT c2 hK
    refine pm_ki d_J11_isValidCodePoint_9a6ad_15 ?_
    have hQ := ps_so hK
    exact ps_zret rfl rfl d_J11_isValidCodePoint_9a6ad_16 ⟨_, rfl, hQ⟩
  · replace hK := ps_ifF c2 hK
    refine pm_ki d_J11_isValidCodePoint_9a6ad_11 ?_
    refine pm_goto d_J11_isValidCodePoint_9a6ad_12 ?_
    have hQ := ps_so hK
    exact ps_zret rfl rfl d_J11_isValidCodePoint_9a6ad_16 ⟨_, rfl, hQ⟩
def qJ11_lowSurrogate_5068e (p1 : Int32) (σ : ps_S) : Option (Int32 × ps_S) :=
  if ps_c16 (((((((p1 &&& 1023)) + 56320)).toUInt32 % 65536).toInt32)) = true then some (((((((p1 &&& 1023)) + 56320)).toUInt32 % 65536).toInt32), σ) else none
set_option maxRecDepth 100000 in
theorem C_J11_lowSurrogate_5068e {g : pm_G} (p1 : Int32) (σ : ps_S) (P : Int32 → ps_S → Prop) (hK : ps_ok (qJ11_lowSurrogate_5068e p1 σ) P) : ps_C g mJ11_lowSurrogate_5068e 1 [.int p1] σ (ps_qI P) := by
  unfold qJ11_lowSurrogate_5068e at hK
  refine ps_C.of (ls := [some (.int p1)]) 0 (by decide) rfl (Nat.le_of_ble_eq_true rfl) rfl ?_
  refine pm_ild d_J11_lowSurrogate_5068e_0 rfl ?_
  refine pm_ki d_J11_lowSurrogate_5068e_1 ?_
  refine pm_iand d_J11_lowSurrogate_5068e_4 ?_
  refine pm_ki d_J11_lowSurrogate_5068e_5 ?_
  refine pm_iadd d_J11_lowSurrogate_5068e_7 ?_
  refine pm_i2c d_J11_lowSurrogate_5068e_8 ?_
  obtain ⟨b1, hT⟩ := ps_gd hK
  have hQ := ps_so hT
  exact ps_zret rfl (ps_nc b1) d_J11_lowSurrogate_5068e_9 ⟨_, rfl, hQ⟩
def qJ0_indexOf_7cf53 (i : Nat) (p1 : Int32) (p2 : Int32) (σ : ps_S) : Option (Int32 × ps_S) :=
  ps_bd (qJ0_isLatin1_aae02 i σ) (fun v1 σ2 =>
  if v1 = 0 then
  ps_bd (qJ0_length_8abf5 i σ2) (fun v4 σ5 =>
  none)
  else
  ps_bd (qJ0_length_8abf5 i σ2) (fun v6 σ7 =>
  ps_bd (qJ1_indexOf_4cfef i p1 p2 v6 σ7) (fun v8 σ9 =>
  some (v8, σ9))))
set_option maxRecDepth 100000 in
theorem C_J0_indexOf_7cf53 {g : pm_G} (i : Nat) (hi : i < 26) (p1 : Int32) (p2 : Int32) (σ : ps_S) (P : Int32 → ps_S → Prop) (hK : ps_ok (qJ0_indexOf_7cf53 i p1 p2 σ) P) : ps_C g mJ0_indexOf_7cf53 3 [.ref (g.2.2.2.1 i), .int p1, .int p2] σ (ps_qI P) := by
  unfold qJ0_indexOf_7cf53 at hK
  refine ps_C.of (ls := [some (.ref (g.2.2.2.1 i)), some (.int p1), some (.int p2)]) 0 (by decide) rfl (Nat.le_of_ble_eq_true rfl) rfl ?_
  refine pm_ald d_J0_indexOf_7cf53_0 rfl ?_
  refine ps_cTI hi d_J0_indexOf_7cf53_1 mv_J0_isLatin1_aae02 rfl (As := []) rfl rfl (ps_room.of (by omega) (by decide)) (Nat.le_of_ble_eq_true rfl) (C_J0_isLatin1_aae02 i hi σ _ (ps_bdE hK)) ?_
  intro v1 σ2 hT
  clear hK
  have hK := hT
  clear hT
  refine pm_if_eq d_J0_indexOf_7cf53_4 (fun c3 => ?_) (fun c3 => ?_)
  · replace hK := ps_ifT c3 hK
    refine pm_ald d_J0_indexOf_7cf53_23 rfl ?_
    refine pm_svalue hi d_J0_indexOf_7cf53_24 ?_
    refine pm_ild d_J0_indexOf_7cf53_27 rfl ?_
    refine pm_ild d_J0_indexOf_7cf53_28 rfl ?_
    refine pm_ald d_J0_indexOf_7cf53_29 rfl ?_
    refine ps_cTI hi d_J0_indexOf_7cf53_30 mv_J0_length_8abf5 rfl (As := []) rfl rfl (ps_room.of (by omega) (by decide)) (Nat.le_of_ble_eq_true rfl) (C_J0_length_8abf5 i hi σ2 _ (ps_bdE hK)) ?_
    intro v4 σ5 hT
    clear hK
    have hK := hT
    clear hT
    exact (ps_no hK).elim
  · replace hK := ps_ifF c3 hK
    refine pm_ald d_J0_indexOf_7cf53_7 rfl ?_
    refine pm_svalue hi d_J0_indexOf_7cf53_8 ?_
    refine pm_ild d_J0_indexOf_7cf53_11 rfl ?_
    refine pm_ild d_J0_indexOf_7cf53_12 rfl ?_
    refine pm_ald d_J0_indexOf_7cf53_13 rfl ?_
    refine ps_cTI hi d_J0_indexOf_7cf53_14 mv_J0_length_8abf5 rfl (As := []) rfl rfl (ps_room.of (by omega) (by decide)) (Nat.le_of_ble_eq_true rfl) (C_J0_length_8abf5 i hi σ2 _ (ps_bdE hK)) ?_
    intro v6 σ7 hT
    clear hK
    have hK := hT
    clear hT
    refine ps_cSI d_J0_indexOf_7cf53_17 ms_J1_indexOf_4cfef (As := [.ref (g.2.2.2.2 i), .int p1, .int p2, .int v6]) rfl rfl (ps_room.of (by omega) (by decide)) (Nat.le_of_ble_eq_true rfl) (C_J1_indexOf_4cfef i hi p1 p2 v6 σ7 _ (ps_bdE hK)) ?_
    intro v8 σ9 hT
    clear hK
    have hK := hT
    clear hT
    refine pm_goto d_J0_indexOf_7cf53_20 ?_
    have hQ := ps_so hK
    exact ps_iret rfl d_J0_indexOf_7cf53_36 ⟨_, rfl, hQ⟩
def qJ0_indexOf_0f7a4 (i : Nat) (p1 : Int32) (σ : ps_S) : Option (Int32 × ps_S) :=
  ps_bd (qJ0_indexOf_7cf53 i p1 0 σ) (fun v1 σ2 =>
  some (v1, σ2))
set_option maxRecDepth 100000 in
theorem C_J0_indexOf_0f7a4 {g : pm_G} (i : Nat) (hi : i < 26) (p1 : Int32) (σ : ps_S) (P : Int32 → ps_S → Prop) (hK : ps_ok (qJ0_indexOf_0f7a4 i p1 σ) P) : ps_C g mJ0_indexOf_0f7a4 4 [.ref (g.2.2.2.1 i), .int p1] σ (ps_qI P) := by
  unfold qJ0_indexOf_0f7a4 at hK
  refine ps_C.of (ls := [some (.ref (g.2.2.2.1 i)), some (.int p1)]) 0 (by decide) rfl (Nat.le_of_ble_eq_true rfl) rfl ?_
  refine pm_ald d_J0_indexOf_0f7a4_0 rfl ?_
  refine pm_ild d_J0_indexOf_0f7a4_1 rfl ?_
  refine pm_ki d_J0_indexOf_0f7a4_2 ?_
  refine ps_cTI hi d_J0_indexOf_0f7a4_3 mv_J0_indexOf_7cf53 rfl (As := [.int p1, .int 0]) rfl rfl (ps_room.of (by omega) (by decide)) (Nat.le_of_ble_eq_true rfl) (C_J0_indexOf_7cf53 i hi p1 0 σ _ (ps_bdE hK)) ?_
  intro v1 σ2 hT
  clear hK
  have hK := hT
  clear hT
  have hQ := ps_so hK
  exact ps_iret rfl d_J0_indexOf_0f7a4_6 ⟨_, rfl, hQ⟩
def qX5_isBlank (p1 : Int32) (σ : ps_S) : Option (Int32 × ps_S) :=
  if p1 = 10 then
  some (1, σ)
  else
  if p1 = 32 then
  some (1, σ)
  else
  some (0, σ)
set_option maxRecDepth 100000 in
theorem C_X5_isBlank {g : pm_G} (p1 : Int32) (σ : ps_S) (P : Int32 → ps_S → Prop) (hK : ps_ok (qX5_isBlank p1 σ) P) : ps_C g mX5_isBlank 1 [.int p1] σ (ps_qI P) := by
  unfold qX5_isBlank at hK
  refine ps_C.of (ls := [some (.int p1)]) 0 (by decide) rfl (Nat.le_of_ble_eq_true rfl) rfl ?_
  refine pm_ild d_X5_isBlank_0 rfl ?_
  refine pm_ki d_X5_isBlank_1 ?_
  refine pm_icmp_eq d_X5_isBlank_3 (fun c1 => ?_) (fun c1 => ?_)
  · replace hK := ps_ifT c1 hK
    refine pm_ki d_X5_isBlank_12 ?_
    refine pm_goto d_X5_isBlank_13 ?_
    have hQ := ps_so hK
    exact ps_zret rfl rfl d_X5_isBlank_17 ⟨_, rfl, hQ⟩
  · replace hK := ps_ifF c1 hK
    refine pm_ild d_X5_isBlank_6 rfl ?_
    refine pm_ki d_X5_isBlank_7 ?_
    refine pm_icmp_ne d_X5_isBlank_9 (fun c2 => ?_) (fun c2 => ?_)
    · replace hK := ps_ifF c2 hK
      refine pm_ki d_X5_isBlank_16 ?_
      have hQ := ps_so hK
      exact ps_zret rfl rfl d_X5_isBlank_17 ⟨_, rfl, hQ⟩
    · replace hK := ps_ifT c2 hK
      refine pm_ki d_X5_isBlank_12 ?_
      refine pm_goto d_X5_isBlank_13 ?_
      have hQ := ps_so hK
      exact ps_zret rfl rfl d_X5_isBlank_17 ⟨_, rfl, hQ⟩
def qX5_isDigit (p1 : Int32) (σ : ps_S) : Option (Int32 × ps_S) :=
  if p1 < 48 then
  some (0, σ)
  else
  if 57 < p1 then
  some (0, σ)
  else
  some (1, σ)
set_option maxRecDepth 100000 in
theorem C_X5_isDigit {g : pm_G} (p1 : Int32) (σ : ps_S) (P : Int32 → ps_S → Prop) (hK : ps_ok (qX5_isDigit p1 σ) P) : ps_C g mX5_isDigit 1 [.int p1] σ (ps_qI P) := by
  unfold qX5_isDigit at hK
  refine ps_C.of (ls := [some (.int p1)]) 0 (by decide) rfl (Nat.le_of_ble_eq_true rfl) rfl ?_
  refine pm_ild d_X5_isDigit_0 rfl ?_
  refine pm_ki d_X5_isDigit_1 ?_
  refine pm_icmp_lt d_X5_isDigit_3 (fun c1 => ?_) (fun c1 => ?_)
  · replace hK := ps_ifT c1 hK
    refine pm_ki d_X5_isDigit_16 ?_
    have hQ := ps_so hK
    exact ps_zret rfl rfl d_X5_isDigit_17 ⟨_, rfl, hQ⟩
  · replace hK := ps_ifF c1 hK
    refine pm_ild d_X5_isDigit_6 rfl ?_
    refine pm_ki d_X5_isDigit_7 ?_
    refine pm_icmp_gt d_X5_isDigit_9 (fun c2 => ?_) (fun c2 => ?_)
    · replace hK := ps_ifT c2 hK
      refine pm_ki d_X5_isDigit_16 ?_
      have hQ := ps_so hK
      exact ps_zret rfl rfl d_X5_isDigit_17 ⟨_, rfl, hQ⟩
    · replace hK := ps_ifF c2 hK
      refine pm_ki d_X5_isDigit_12 ?_
      refine pm_goto d_X5_isDigit_13 ?_
      have hQ := ps_so hK
      exact ps_zret rfl rfl d_X5_isDigit_17 ⟨_, rfl, hQ⟩
def qX5_isLetter (p1 : Int32) (σ : ps_S) : Option (Int32 × ps_S) :=
  if p1 < 97 then
  some (0, σ)
  else
  if 122 < p1 then
  some (0, σ)
  else
  some (1, σ)
set_option maxRecDepth 100000 in
theorem C_X5_isLetter {g : pm_G} (p1 : Int32) (σ : ps_S) (P : Int32 → ps_S → Prop) (hK : ps_ok (qX5_isLetter p1 σ) P) : ps_C g mX5_isLetter 1 [.int p1] σ (ps_qI P) := by
  unfold qX5_isLetter at hK
  refine ps_C.of (ls := [some (.int p1)]) 0 (by decide) rfl (Nat.le_of_ble_eq_true rfl) rfl ?_
  refine pm_ild d_X5_isLetter_0 rfl ?_
  refine pm_ki d_X5_isLetter_1 ?_
  refine pm_icmp_lt d_X5_isLetter_3 (fun c1 => ?_) (fun c1 => ?_)
  · replace hK := ps_ifT c1 hK
    refine pm_ki d_X5_isLetter_16 ?_
    have hQ := ps_so hK
    exact ps_zret rfl rfl d_X5_isLetter_17 ⟨_, rfl, hQ⟩
  · replace hK := ps_ifF c1 hK
    refine pm_ild d_X5_isLetter_6 rfl ?_
    refine pm_ki d_X5_isLetter_7 ?_
    refine pm_icmp_gt d_X5_isLetter_9 (fun c2 => ?_) (fun c2 => ?_)
    · replace hK := ps_ifT c2 hK
      refine pm_ki d_X5_isLetter_16 ?_
      have hQ := ps_so hK
      exact ps_zret rfl rfl d_X5_isLetter_17 ⟨_, rfl, hQ⟩
    · replace hK := ps_ifF c2 hK
      refine pm_ki d_X5_isLetter_12 ?_
      refine pm_goto d_X5_isLetter_13 ?_
      have hQ := ps_so hK
      exact ps_zret rfl rfl d_X5_isLetter_17 ⟨_, rfl, hQ⟩
def qX5_advance_10  : Nat → Int32 → ps_S → Option (((Int32)) × ps_S)
  | 0, _, _ => none
  | n + 1, x1, σ =>
    if 900 ≤ x1 then
    some (x1, σ)
    else
    ps_let (σ.1 11 6) fun v4 =>
    ps_let (σ.1 11 4) fun v5 =>
    if v5 ≤ v4 then
    some (x1, σ)
    else
    ps_let (σ.1 11 6) fun v7 =>
    if ps_in v7 900 = true then
    ps_let (σ.1 1 (v7).toNatClampNeg) fun v8 =>
    ps_bd (qX5_isBlank v8 σ) (fun v9 σ10 =>
    if v9 = 0 then
    some (x1, σ10)
    else
    ps_let (σ10.1 11 6) fun v12 =>
    ps_let (ps_rI σ10 11 (upd (σ10.1 11) 6 ((v12 + 1)))) fun σ13 =>
    ps_let (x1 + 1) fun v14 =>
    qX5_advance_10 n v14 σ13)
    else none
set_option maxRecDepth 100000 in
theorem L_X5_advance_10 {g : pm_G} (D : Nat) (hD : 5 ≤ D) {P : Unit → ps_S → Prop}  : ∀ (n : Nat) (x1 : Int32) (σ : ps_S), ps_ok (qX5_advance_10 n x1 σ) (fun res σ => match res with | x1 => pm_W g mX5_advance (ps_F g D (ps_qV P)) 0 0 59 [some (.ref (g.2.2.1 + 11)), some (.int x1)] [] 345 (ps_E g σ)) → pm_W g mX5_advance (ps_F g D (ps_qV P)) 0 0 10 [some (.ref (g.2.2.1 + 11)), some (.int x1)] [] 345 (ps_E g σ) := by
  intro n
  induction n with
  | zero => intro x1 σ hK; exact (ps_no hK).elim
  | succ n ih =>
    intro x1 σ hK
    rw [qX5_advance_10] at hK
    refine pm_ild d_X5_advance_10 rfl ?_
    refine pm_ki d_X5_advance_11 ?_
    refine pm_icmp_ge d_X5_advance_14 (fun c3 => ?_) (fun c3 => ?_)
    · replace hK := ps_ifT c3 hK
      exact ps_so hK
    · replace hK := ps_ifF c3 hK
      refine pm_ald d_X5_advance_17 rfl ?_
      refine ps_getI d_X5_advance_18 at_11 f_3_0_6 rfl ?_
      refine ps_topI (fun v4 ev4 => ?_)
      replace hK := ps_ltE ev4 hK
      refine pm_ald d_X5_advance_21 rfl ?_
      refine ps_getI d_X5_advance_22 at_11 f_3_0_4 rfl ?_
      refine ps_topI (fun v5 ev5 => ?_)
      replace hK := ps_ltE ev5 hK
      refine pm_icmp_ge d_X5_advance_25 (fun c6 => ?_) (fun c6 => ?_)
      · replace hK := ps_ifT c6 hK
        exact ps_so hK
      · replace hK := ps_ifF c6 hK
        refine pm_ald d_X5_advance_28 rfl ?_
        refine ps_getR (q := 1) d_X5_advance_29 at_11 f_3_0_2 rfl ?_
        refine pm_ald d_X5_advance_32 rfl ?_
        refine ps_getI d_X5_advance_33 at_11 f_3_0_6 rfl ?_
        refine ps_topI (fun v7 ev7 => ?_)
        replace hK := ps_ltE ev7 hK
        obtain ⟨b15, hT⟩ := ps_gd hK
        replace hK := hT
        clear hT
        refine ps_bald d_X5_advance_36 at_1 a_1_0 (ps_in_of b15) rfl ?_
        refine ps_topI (fun v8 ev8 => ?_)
        replace hK := ps_ltE ev8 hK
        refine ps_cSI d_X5_advance_37 ms_X5_isBlank (As := [.int v8]) rfl rfl (ps_room.of (by omega) (by decide)) (Nat.le_of_ble_eq_true rfl) (C_X5_isBlank v8 σ _ (ps_bdE hK)) ?_
        intro v9 σ10 hT
        clear hK
        have hK := hT
        clear hT
        refine pm_if_eq d_X5_advance_40 (fun c11 => ?_) (fun c11 => ?_)
        · replace hK := ps_ifT c11 hK
          exact ps_so hK
        · replace hK := ps_ifF c11 hK
          refine pm_ald d_X5_advance_43 rfl ?_
          refine pm_dup d_X5_advance_44 rfl ?_
          refine ps_getI d_X5_advance_45 at_11 f_3_0_6 rfl ?_
          refine ps_topI (fun v12 ev12 => ?_)
          replace hK := ps_ltE ev12 hK
          refine pm_ki d_X5_advance_48 ?_
          refine pm_iadd d_X5_advance_49 ?_
          refine ps_putI d_X5_advance_50 at_11 f_3_0_6 rfl rfl ?_
          refine ps_nmS (fun σ13 eσ13 => ?_)
          replace hK := ps_ltE eσ13 hK
          refine pm_inc1 d_X5_advance_53 rfl ?_
          obtain ⟨v14, ev14⟩ : ∃ y : Int32, y = x1 + 1 := ⟨_, rfl⟩
          rw [← ev14]
          replace hK := ps_ltE ev14 hK
          refine pm_goto d_X5_advance_56 ?_
          exact ih _ _ hK
def qX5_advance_172  : Nat → Int32 → ps_S → Option (((Int32)) × ps_S)
  | 0, _, _ => none
  | n + 1, x1, σ =>
    ps_let (σ.1 11 4) fun v50 =>
    if v50 ≤ x1 then
    some (x1, σ)
    else
    if ps_in x1 900 = true then
    ps_let (σ.1 1 (x1).toNatClampNeg) fun v52 =>
    ps_bd (qX5_isDigit v52 σ) (fun v53 σ54 =>
    if v53 = 0 then
    some (x1, σ54)
    else
    ps_let (σ54.1 11 8) fun v56 =>
    if ps_in x1 900 = true then
    ps_let (σ54.1 1 (x1).toNatClampNeg) fun v57 =>
    ps_let (ps_rI σ54 11 (upd (σ54.1 11) 8 ((((((v56 * 10)) + v57)) - 48)))) fun σ58 =>
    ps_let (ps_rI σ58 11 (upd (σ58.1 11) 7 ((x1 + 1)))) fun σ59 =>
    ps_let (x1 + 1) fun v60 =>
    qX5_advance_172 n v60 σ59
    else none)
    else none
set_option maxRecDepth 100000 in
theorem L_X5_advance_172 {g : pm_G} (D : Nat) (hD : 5 ≤ D) {P : Unit → ps_S → Prop}  : ∀ (n : Nat) (x1 : Int32) (σ : ps_S), ps_ok (qX5_advance_172 n x1 σ) (fun res σ => match res with | x1 => pm_W g mX5_advance (ps_F g D (ps_qV P)) 0 0 226 [some (.ref (g.2.2.1 + 11)), some (.int x1)] [] 345 (ps_E g σ)) → pm_W g mX5_advance (ps_F g D (ps_qV P)) 0 0 172 [some (.ref (g.2.2.1 + 11)), some (.int x1)] [] 345 (ps_E g σ) := by
  intro n
  induction n with
  | zero => intro x1 σ hK; exact (ps_no hK).elim
  | succ n ih =>
    intro x1 σ hK
    rw [qX5_advance_172] at hK
    refine pm_ild d_X5_advance_172 rfl ?_
    refine pm_ald d_X5_advance_173 rfl ?_
    refine ps_getI d_X5_advance_174 at_11 f_3_0_4 rfl ?_
    refine ps_topI (fun v50 ev50 => ?_)
    replace hK := ps_ltE ev50 hK
    refine pm_icmp_ge d_X5_advance_177 (fun c51 => ?_) (fun c51 => ?_)
    · replace hK := ps_ifT c51 hK
      exact ps_so hK
    · replace hK := ps_ifF c51 hK
      refine pm_ald d_X5_advance_180 rfl ?_
      refine ps_getR (q := 1) d_X5_advance_181 at_11 f_3_0_2 rfl ?_
      refine pm_ild d_X5_advance_184 rfl ?_
      obtain ⟨b62, hT⟩ := ps_gd hK
      replace hK := hT
      clear hT
      refine ps_bald d_X5_advance_185 at_1 a_1_0 (ps_in_of b62) rfl ?_
      refine ps_topI (fun v52 ev52 => ?_)
      replace hK := ps_ltE ev52 hK
      refine ps_cSI d_X5_advance_186 ms_X5_isDigit (As := [.int v52]) rfl rfl (ps_room.of (by omega) (by decide)) (Nat.le_of_ble_eq_true rfl) (C_X5_isDigit v52 σ _ (ps_bdE hK)) ?_
      intro v53 σ54 hT
      clear hK
      have hK := hT
      clear hT
      refine pm_if_eq d_X5_advance_189 (fun c55 => ?_) (fun c55 => ?_)
      · replace hK := ps_ifT c55 hK
        exact ps_so hK
      · replace hK := ps_ifF c55 hK
        refine pm_ald d_X5_advance_192 rfl ?_
        refine pm_ald d_X5_advance_193 rfl ?_
        refine ps_getI d_X5_advance_194 at_11 f_3_0_8 rfl ?_
        refine ps_topI (fun v56 ev56 => ?_)
        replace hK := ps_ltE ev56 hK
        refine pm_ki d_X5_advance_197 ?_
        refine pm_imul d_X5_advance_199 ?_
        refine pm_ald d_X5_advance_200 rfl ?_
        refine ps_getR (q := 1) d_X5_advance_201 at_11 f_3_0_2 rfl ?_
        refine pm_ild d_X5_advance_204 rfl ?_
        obtain ⟨b61, hT⟩ := ps_gd hK
        replace hK := hT
        clear hT
        refine ps_bald d_X5_advance_205 at_1 a_1_0 (ps_in_of b61) rfl ?_
        refine ps_topI (fun v57 ev57 => ?_)
        replace hK := ps_ltE ev57 hK
        refine pm_iadd d_X5_advance_206 ?_
        refine pm_ki d_X5_advance_207 ?_
        refine pm_isub d_X5_advance_209 ?_
        refine ps_putI d_X5_advance_210 at_11 f_3_0_8 rfl rfl ?_
        refine ps_nmS (fun σ58 eσ58 => ?_)
        replace hK := ps_ltE eσ58 hK
        refine pm_ald d_X5_advance_213 rfl ?_
        refine pm_ild d_X5_advance_214 rfl ?_
        refine pm_ki d_X5_advance_215 ?_
        refine pm_iadd d_X5_advance_216 ?_
        refine ps_putI d_X5_advance_217 at_11 f_3_0_7 rfl rfl ?_
        refine ps_nmS (fun σ59 eσ59 => ?_)
        replace hK := ps_ltE eσ59 hK
        refine pm_inc1 d_X5_advance_220 rfl ?_
        obtain ⟨v60, ev60⟩ : ∃ y : Int32, y = x1 + 1 := ⟨_, rfl⟩
        rw [← ev60]
        replace hK := ps_ltE ev60 hK
        refine pm_goto d_X5_advance_223 ?_
        exact ih _ _ hK
def qX5_advance_111  : Nat → Int32 → ps_S → Option (((Int32)) × ps_S)
  | 0, _, _ => none
  | n + 1, x1, σ =>
    ps_let (σ.1 11 4) fun v72 =>
    if v72 ≤ x1 then
    some (x1, σ)
    else
    if ps_in x1 900 = true then
    ps_let (σ.1 1 (x1).toNatClampNeg) fun v74 =>
    ps_bd (qX5_isLetter v74 σ) (fun v75 σ76 =>
    if v75 = 0 then
    some (x1, σ76)
    else
    ps_let (ps_rI σ76 11 (upd (σ76.1 11) 7 ((x1 + 1)))) fun σ78 =>
    ps_let (x1 + 1) fun v79 =>
    qX5_advance_111 n v79 σ78)
    else none
set_option maxRecDepth 100000 in
theorem L_X5_advance_111 {g : pm_G} (D : Nat) (hD : 5 ≤ D) {P : Unit → ps_S → Prop}  : ∀ (n : Nat) (x1 : Int32) (σ : ps_S), ps_ok (qX5_advance_111 n x1 σ) (fun res σ => match res with | x1 => pm_W g mX5_advance (ps_F g D (ps_qV P)) 0 0 144 [some (.ref (g.2.2.1 + 11)), some (.int x1)] [] 345 (ps_E g σ)) → pm_W g mX5_advance (ps_F g D (ps_qV P)) 0 0 111 [some (.ref (g.2.2.1 + 11)), some (.int x1)] [] 345 (ps_E g σ) := by
  intro n
  induction n with
  | zero => intro x1 σ hK; exact (ps_no hK).elim
  | succ n ih =>
    intro x1 σ hK
    rw [qX5_advance_111] at hK
    refine pm_ild d_X5_advance_111 rfl ?_
    refine pm_ald d_X5_advance_112 rfl ?_
    refine ps_getI d_X5_advance_113 at_11 f_3_0_4 rfl ?_
    refine ps_topI (fun v72 ev72 => ?_)
    replace hK := ps_ltE ev72 hK
    refine pm_icmp_ge d_X5_advance_116 (fun c73 => ?_) (fun c73 => ?_)
    · replace hK := ps_ifT c73 hK
      exact ps_so hK
    · replace hK := ps_ifF c73 hK
      refine pm_ald d_X5_advance_119 rfl ?_
      refine ps_getR (q := 1) d_X5_advance_120 at_11 f_3_0_2 rfl ?_
      refine pm_ild d_X5_advance_123 rfl ?_
      obtain ⟨b80, hT⟩ := ps_gd hK
      replace hK := hT
      clear hT
      refine ps_bald d_X5_advance_124 at_1 a_1_0 (ps_in_of b80) rfl ?_
      refine ps_topI (fun v74 ev74 => ?_)
      replace hK := ps_ltE ev74 hK
      refine ps_cSI d_X5_advance_125 ms_X5_isLetter (As := [.int v74]) rfl rfl (ps_room.of (by omega) (by decide)) (Nat.le_of_ble_eq_true rfl) (C_X5_isLetter v74 σ _ (ps_bdE hK)) ?_
      intro v75 σ76 hT
      clear hK
      have hK := hT
      clear hT
      refine pm_if_eq d_X5_advance_128 (fun c77 => ?_) (fun c77 => ?_)
      · replace hK := ps_ifT c77 hK
        exact ps_so hK
      · replace hK := ps_ifF c77 hK
        refine pm_ald d_X5_advance_131 rfl ?_
        refine pm_ild d_X5_advance_132 rfl ?_
        refine pm_ki d_X5_advance_133 ?_
        refine pm_iadd d_X5_advance_134 ?_
        refine ps_putI d_X5_advance_135 at_11 f_3_0_7 rfl rfl ?_
        refine ps_nmS (fun σ78 eσ78 => ?_)
        replace hK := ps_ltE eσ78 hK
        refine pm_inc1 d_X5_advance_138 rfl ?_
        obtain ⟨v79, ev79⟩ : ∃ y : Int32, y = x1 + 1 := ⟨_, rfl⟩
        rw [← ev79]
        replace hK := ps_ltE ev79 hK
        refine pm_goto d_X5_advance_141 ?_
        exact ih _ _ hK
def qX5_advance  (σ : ps_S) : Option (Unit × ps_S) :=
  ps_let (σ.1 11 7) fun v1 =>
  ps_let (ps_rI σ 11 (upd (σ.1 11) 6 v1)) fun σ2 =>
  ps_bd (qX5_advance_10 ps_N 0 σ2) (fun res σ16 => match res with
  | v17 =>
    ps_let (σ16.1 11 6) fun v18 =>
    ps_let (ps_rI σ16 11 (upd (σ16.1 11) 7 v18)) fun σ19 =>
    ps_let (ps_rI σ19 11 (upd (σ19.1 11) 8 0)) fun σ20 =>
    ps_let (σ20.1 11 6) fun v21 =>
    ps_let (σ20.1 11 4) fun v22 =>
    if v21 < v22 then
    ps_let (σ20.1 11 6) fun v24 =>
    if ps_in v24 900 = true then
    ps_let (σ20.1 1 (v24).toNatClampNeg) fun v25 =>
    ps_bd (qX5_isLetter v25 σ20) (fun v26 σ27 =>
    if v26 = 0 then
    ps_let (σ27.1 11 6) fun v29 =>
    if ps_in v29 900 = true then
    ps_let (σ27.1 1 (v29).toNatClampNeg) fun v30 =>
    ps_bd (qX5_isDigit v30 σ27) (fun v31 σ32 =>
    if v31 = 0 then
    ps_let (σ32.1 11 6) fun v34 =>
    ps_let (ps_rI σ32 11 (upd (σ32.1 11) 7 ((v34 + 1)))) fun σ35 =>
    ps_let (σ35.1 11 6) fun v36 =>
    if ps_in v36 900 = true then
    ps_let (σ35.1 1 (v36).toNatClampNeg) fun v37 =>
    if v37 ≤ 0 then
    ps_let (ps_rI σ35 11 (upd (σ35.1 11) 5 4)) fun σ39 =>
    some ((), σ39)
    else
    ps_let (σ35.1 11 6) fun v40 =>
    if ps_in v40 900 = true then
    ps_let (σ35.1 1 (v40).toNatClampNeg) fun v41 =>
    ps_bd (qJ0_indexOf_0f7a4 0 ((((v41).toUInt32 % 65536).toInt32)) σ35) (fun v42 σ43 =>
    if v42 < 0 then
    ps_let (ps_rI σ43 11 (upd (σ43.1 11) 5 4)) fun σ45 =>
    some ((), σ45)
    else
    ps_let (ps_rI σ43 11 (upd (σ43.1 11) 5 3)) fun σ46 =>
    some ((), σ46))
    else none
    else none
    else
    ps_let (σ32.1 11 6) fun v49 =>
    ps_bd (qX5_advance_172 ps_N v49 σ32) (fun res σ63 => match res with
    | v64 =>
      ps_let (σ63.1 11 7) fun v65 =>
      ps_let (σ63.1 11 6) fun v66 =>
      if ((v65 - v66)) ≤ 3 then
      ps_let (ps_rI σ63 11 (upd (σ63.1 11) 5 2)) fun σ68 =>
      some ((), σ68)
      else
      ps_let (ps_rI σ63 11 (upd (σ63.1 11) 5 4)) fun σ69 =>
      some ((), σ69)))
    else none
    else
    ps_let (σ27.1 11 6) fun v71 =>
    ps_bd (qX5_advance_111 ps_N v71 σ27) (fun res σ81 => match res with
    | v82 =>
      ps_let (ps_rI σ81 11 (upd (σ81.1 11) 5 1)) fun σ83 =>
      some ((), σ83)))
    else none
    else
    ps_let (ps_rI σ20 11 (upd (σ20.1 11) 5 0)) fun σ85 =>
    some ((), σ85))
set_option maxRecDepth 100000 in
theorem C_X5_advance {g : pm_G}  (σ : ps_S) (P : Unit → ps_S → Prop) (hK : ps_ok (qX5_advance  σ) P) : ps_C g mX5_advance 5 [.ref (g.2.2.1 + 11)] σ (ps_qV P) := by
  unfold qX5_advance at hK
  refine ps_C.of (ls := [some (.ref (g.2.2.1 + 11)), none]) 1 (by decide) rfl (Nat.le_of_ble_eq_true rfl) rfl ?_
  refine pm_ald d_X5_advance_0 rfl ?_
  refine pm_ald d_X5_advance_1 rfl ?_
  refine ps_getI d_X5_advance_2 at_11 f_3_0_7 rfl ?_
  refine ps_topI (fun v1 ev1 => ?_)
  replace hK := ps_ltE ev1 hK
  refine ps_putI d_X5_advance_5 at_11 f_3_0_6 rfl rfl ?_
  refine ps_nmS (fun σ2 eσ2 => ?_)
  replace hK := ps_ltE eσ2 hK
  refine pm_ki d_X5_advance_8 ?_
  refine pm_ist1 d_X5_advance_9 rfl (by decide) ?_
  refine L_X5_advance_10 _ (by decide) _ _ _ (ps_ok.mono (ps_bdE hK) ?_)
  rintro v17 σ16 hT
  clear hK
  have hK := hT
  clear hT
  refine pm_ald d_X5_advance_59 rfl ?_
  refine pm_ald d_X5_advance_60 rfl ?_
  refine ps_getI d_X5_advance_61 at_11 f_3_0_6 rfl ?_
  refine ps_topI (fun v18 ev18 => ?_)
  replace hK := ps_ltE ev18 hK
  refine ps_putI d_X5_advance_64 at_11 f_3_0_7 rfl rfl ?_
  refine ps_nmS (fun σ19 eσ19 => ?_)
  replace hK := ps_ltE eσ19 hK
  refine pm_ald d_X5_advance_67 rfl ?_
  refine pm_ki d_X5_advance_68 ?_
  refine ps_putI d_X5_advance_69 at_11 f_3_0_8 rfl rfl ?_
  refine ps_nmS (fun σ20 eσ20 => ?_)
  replace hK := ps_ltE eσ20 hK
  refine pm_ald d_X5_advance_72 rfl ?_
  refine ps_getI d_X5_advance_73 at_11 f_3_0_6 rfl ?_
  refine ps_topI (fun v21 ev21 => ?_)
  replace hK := ps_ltE ev21 hK
  refine pm_ald d_X5_advance_76 rfl ?_
  refine ps_getI d_X5_advance_77 at_11 f_3_0_4 rfl ?_
  refine ps_topI (fun v22 ev22 => ?_)
  replace hK := ps_ltE ev22 hK
  refine pm_icmp_lt d_X5_advance_80 (fun c23 => ?_) (fun c23 => ?_)
  · replace hK := ps_ifT c23 hK
    refine pm_ald d_X5_advance_91 rfl ?_
    refine ps_getR (q := 1) d_X5_advance_92 at_11 f_3_0_2 rfl ?_
    refine pm_ald d_X5_advance_95 rfl ?_
    refine ps_getI d_X5_advance_96 at_11 f_3_0_6 rfl ?_
    refine ps_topI (fun v24 ev24 => ?_)
    replace hK := ps_ltE ev24 hK
    obtain ⟨b84, hT⟩ := ps_gd hK
    replace hK := hT
    clear hT
    refine ps_bald d_X5_advance_99 at_1 a_1_0 (ps_in_of b84) rfl ?_
    refine ps_topI (fun v25 ev25 => ?_)
    replace hK := ps_ltE ev25 hK
    refine ps_cSI d_X5_advance_100 ms_X5_isLetter (As := [.int v25]) rfl rfl (ps_room.of (by omega) (by decide)) (Nat.le_of_ble_eq_true rfl) (C_X5_isLetter v25 σ20 _ (ps_bdE hK)) ?_
    intro v26 σ27 hT
    clear hK
    have hK := hT
    clear hT
    refine pm_if_eq d_X5_advance_103 (fun c28 => ?_) (fun c28 => ?_)
    · replace hK := ps_ifT c28 hK
      refine pm_ald d_X5_advance_152 rfl ?_
      refine ps_getR (q := 1) d_X5_advance_153 at_11 f_3_0_2 rfl ?_
      refine pm_ald d_X5_advance_156 rfl ?_
      refine ps_getI d_X5_advance_157 at_11 f_3_0_6 rfl ?_
      refine ps_topI (fun v29 ev29 => ?_)
      replace hK := ps_ltE ev29 hK
      obtain ⟨b70, hT⟩ := ps_gd hK
      replace hK := hT
      clear hT
      refine ps_bald d_X5_advance_160 at_1 a_1_0 (ps_in_of b70) rfl ?_
      refine ps_topI (fun v30 ev30 => ?_)
      replace hK := ps_ltE ev30 hK
      refine ps_cSI d_X5_advance_161 ms_X5_isDigit (As := [.int v30]) rfl rfl (ps_room.of (by omega) (by decide)) (Nat.le_of_ble_eq_true rfl) (C_X5_isDigit v30 σ27 _ (ps_bdE hK)) ?_
      intro v31 σ32 hT
      clear hK
      have hK := hT
      clear hT
      refine pm_if_eq d_X5_advance_164 (fun c33 => ?_) (fun c33 => ?_)
      · replace hK := ps_ifT c33 hK
        refine pm_ald d_X5_advance_251 rfl ?_
        refine pm_ald d_X5_advance_252 rfl ?_
        refine ps_getI d_X5_advance_253 at_11 f_3_0_6 rfl ?_
        refine ps_topI (fun v34 ev34 => ?_)
        replace hK := ps_ltE ev34 hK
        refine pm_ki d_X5_advance_256 ?_
        refine pm_iadd d_X5_advance_257 ?_
        refine ps_putI d_X5_advance_258 at_11 f_3_0_7 rfl rfl ?_
        refine ps_nmS (fun σ35 eσ35 => ?_)
        replace hK := ps_ltE eσ35 hK
        refine pm_ald d_X5_advance_261 rfl ?_
        refine pm_ald d_X5_advance_262 rfl ?_
        refine ps_getR (q := 1) d_X5_advance_263 at_11 f_3_0_2 rfl ?_
        refine pm_ald d_X5_advance_266 rfl ?_
        refine ps_getI d_X5_advance_267 at_11 f_3_0_6 rfl ?_
        refine ps_topI (fun v36 ev36 => ?_)
        replace hK := ps_ltE ev36 hK
        obtain ⟨b48, hT⟩ := ps_gd hK
        replace hK := hT
        clear hT
        refine ps_bald d_X5_advance_270 at_1 a_1_0 (ps_in_of b48) rfl ?_
        refine ps_topI (fun v37 ev37 => ?_)
        replace hK := ps_ltE ev37 hK
        refine pm_if_le d_X5_advance_271 (fun c38 => ?_) (fun c38 => ?_)
        · replace hK := ps_ifT c38 hK
          refine pm_ki d_X5_advance_297 ?_
          refine ps_putI d_X5_advance_298 at_11 f_3_0_5 rfl rfl ?_
          refine ps_nmS (fun σ39 eσ39 => ?_)
          replace hK := ps_ltE eσ39 hK
          have hQ := ps_so hK
          exact ps_vret rfl d_X5_advance_301 ⟨rfl, hQ⟩
        · replace hK := ps_ifF c38 hK
          refine pm_ksw d_X5_advance_274 ?_
          refine pm_ald d_X5_advance_277 rfl ?_
          refine ps_getR (q := 1) d_X5_advance_278 at_11 f_3_0_2 rfl ?_
          refine pm_ald d_X5_advance_281 rfl ?_
          refine ps_getI d_X5_advance_282 at_11 f_3_0_6 rfl ?_
          refine ps_topI (fun v40 ev40 => ?_)
          replace hK := ps_ltE ev40 hK
          obtain ⟨b47, hT⟩ := ps_gd hK
          replace hK := hT
          clear hT
          refine ps_bald d_X5_advance_285 at_1 a_1_0 (ps_in_of b47) rfl ?_
          refine ps_topI (fun v41 ev41 => ?_)
          replace hK := ps_ltE ev41 hK
          refine pm_i2c d_X5_advance_286 ?_
          refine ps_cTI (by decide) d_X5_advance_287 mv_J0_indexOf_0f7a4 rfl (As := [.int (((v41).toUInt32 % 65536).toInt32)]) rfl rfl (ps_room.of (by omega) (by decide)) (Nat.le_of_ble_eq_true rfl) (C_J0_indexOf_0f7a4 0 (by decide) ((((v41).toUInt32 % 65536).toInt32)) σ35 _ (ps_bdE hK)) ?_
          intro v42 σ43 hT
          clear hK
          have hK := hT
          clear hT
          refine pm_if_lt d_X5_advance_290 (fun c44 => ?_) (fun c44 => ?_)
          · replace hK := ps_ifT c44 hK
            refine pm_ki d_X5_advance_297 ?_
            refine ps_putI d_X5_advance_298 at_11 f_3_0_5 rfl rfl ?_
            refine ps_nmS (fun σ45 eσ45 => ?_)
            replace hK := ps_ltE eσ45 hK
            have hQ := ps_so hK
            exact ps_vret rfl d_X5_advance_301 ⟨rfl, hQ⟩
          · replace hK := ps_ifF c44 hK
            refine pm_ki d_X5_advance_293 ?_
            refine pm_goto d_X5_advance_294 ?_
            refine ps_putI d_X5_advance_298 at_11 f_3_0_5 rfl rfl ?_
            refine ps_nmS (fun σ46 eσ46 => ?_)
            replace hK := ps_ltE eσ46 hK
            have hQ := ps_so hK
            exact ps_vret rfl d_X5_advance_301 ⟨rfl, hQ⟩
      · replace hK := ps_ifF c33 hK
        refine pm_ald d_X5_advance_167 rfl ?_
        refine ps_getI d_X5_advance_168 at_11 f_3_0_6 rfl ?_
        refine ps_topI (fun v49 ev49 => ?_)
        replace hK := ps_ltE ev49 hK
        refine pm_ist1 d_X5_advance_171 rfl (by decide) ?_
        refine L_X5_advance_172 _ (by decide) _ _ _ (ps_ok.mono (ps_bdE hK) ?_)
        rintro v64 σ63 hT
        clear hK
        have hK := hT
        clear hT
        refine pm_ald d_X5_advance_226 rfl ?_
        refine pm_ald d_X5_advance_227 rfl ?_
        refine ps_getI d_X5_advance_228 at_11 f_3_0_7 rfl ?_
        refine ps_topI (fun v65 ev65 => ?_)
        replace hK := ps_ltE ev65 hK
        refine pm_ald d_X5_advance_231 rfl ?_
        refine ps_getI d_X5_advance_232 at_11 f_3_0_6 rfl ?_
        refine ps_topI (fun v66 ev66 => ?_)
        replace hK := ps_ltE ev66 hK
        refine pm_isub d_X5_advance_235 ?_
        refine pm_ki d_X5_advance_236 ?_
        refine pm_icmp_le d_X5_advance_237 (fun c67 => ?_) (fun c67 => ?_)
        · replace hK := ps_ifT c67 hK
          refine pm_ki d_X5_advance_244 ?_
          refine ps_putI d_X5_advance_245 at_11 f_3_0_5 rfl rfl ?_
          refine ps_nmS (fun σ68 eσ68 => ?_)
          replace hK := ps_ltE eσ68 hK
          refine pm_goto d_X5_advance_248 ?_
          have hQ := ps_so hK
          exact ps_vret rfl d_X5_advance_301 ⟨rfl, hQ⟩
        · replace hK := ps_ifF c67 hK
          refine pm_ki d_X5_advance_240 ?_
          refine pm_goto d_X5_advance_241 ?_
          refine ps_putI d_X5_advance_245 at_11 f_3_0_5 rfl rfl ?_
          refine ps_nmS (fun σ69 eσ69 => ?_)
          replace hK := ps_ltE eσ69 hK
          refine pm_goto d_X5_advance_248 ?_
          have hQ := ps_so hK
          exact ps_vret rfl d_X5_advance_301 ⟨rfl, hQ⟩
    · replace hK := ps_ifF c28 hK
      refine pm_ald d_X5_advance_106 rfl ?_
      refine ps_getI d_X5_advance_107 at_11 f_3_0_6 rfl ?_
      refine ps_topI (fun v71 ev71 => ?_)
      replace hK := ps_ltE ev71 hK
      refine pm_ist1 d_X5_advance_110 rfl (by decide) ?_
      refine L_X5_advance_111 _ (by decide) _ _ _ (ps_ok.mono (ps_bdE hK) ?_)
      rintro v82 σ81 hT
      clear hK
      have hK := hT
      clear hT
      refine pm_ald d_X5_advance_144 rfl ?_
      refine pm_ki d_X5_advance_145 ?_
      refine ps_putI d_X5_advance_146 at_11 f_3_0_5 rfl rfl ?_
      refine ps_nmS (fun σ83 eσ83 => ?_)
      replace hK := ps_ltE eσ83 hK
      refine pm_goto d_X5_advance_149 ?_
      have hQ := ps_so hK
      exact ps_vret rfl d_X5_advance_301 ⟨rfl, hQ⟩
  · replace hK := ps_ifF c23 hK
    refine pm_ald d_X5_advance_83 rfl ?_
    refine pm_ki d_X5_advance_84 ?_
    refine ps_putI d_X5_advance_85 at_11 f_3_0_5 rfl rfl ?_
    refine ps_nmS (fun σ85 eσ85 => ?_)
    replace hK := ps_ltE eσ85 hK
    refine pm_goto d_X5_advance_88 ?_
    have hQ := ps_so hK
    exact ps_vret rfl d_X5_advance_301 ⟨rfl, hQ⟩
def qX5_refuse (p1 : Int32) (σ : ps_S) : Option (Int32 × ps_S) :=
  ps_let (σ.1 11 5) fun v1 =>
  if v1 = 4 then
  ps_let (ps_rI σ 11 (upd (σ.1 11) 0 1)) fun σ6 =>
  ps_let (σ6.1 11 6) fun v7 =>
  ps_let (ps_rI σ6 11 (upd (σ6.1 11) 1 v7)) fun σ8 =>
  some (0, σ8)
  else
  ps_let (ps_rI σ 11 (upd (σ.1 11) 0 p1)) fun σ3 =>
  ps_let (σ3.1 11 6) fun v4 =>
  ps_let (ps_rI σ3 11 (upd (σ3.1 11) 1 v4)) fun σ5 =>
  some (0, σ5)
set_option maxRecDepth 100000 in
theorem C_X5_refuse {g : pm_G} (p1 : Int32) (σ : ps_S) (P : Int32 → ps_S → Prop) (hK : ps_ok (qX5_refuse p1 σ) P) : ps_C g mX5_refuse 1 [.ref (g.2.2.1 + 11), .int p1] σ (ps_qI P) := by
  unfold qX5_refuse at hK
  refine ps_C.of (ls := [some (.ref (g.2.2.1 + 11)), some (.int p1)]) 0 (by decide) rfl (Nat.le_of_ble_eq_true rfl) rfl ?_
  refine pm_ald d_X5_refuse_0 rfl ?_
  refine pm_ald d_X5_refuse_1 rfl ?_
  refine ps_getI d_X5_refuse_2 at_11 f_3_0_5 rfl ?_
  refine ps_topI (fun v1 ev1 => ?_)
  replace hK := ps_ltE ev1 hK
  refine pm_ki d_X5_refuse_5 ?_
  refine pm_icmp_ne d_X5_refuse_6 (fun c2 => ?_) (fun c2 => ?_)
  · replace hK := ps_ifF c2 hK
    refine pm_ild d_X5_refuse_13 rfl ?_
    refine ps_putI d_X5_refuse_14 at_11 f_3_0_0 rfl rfl ?_
    refine ps_nmS (fun σ3 eσ3 => ?_)
    replace hK := ps_ltE eσ3 hK
    refine pm_ald d_X5_refuse_17 rfl ?_
    refine pm_ald d_X5_refuse_18 rfl ?_
    refine ps_getI d_X5_refuse_19 at_11 f_3_0_6 rfl ?_
    refine ps_topI (fun v4 ev4 => ?_)
    replace hK := ps_ltE ev4 hK
    refine ps_putI d_X5_refuse_22 at_11 f_3_0_1 rfl rfl ?_
    refine ps_nmS (fun σ5 eσ5 => ?_)
    replace hK := ps_ltE eσ5 hK
    refine pm_ki d_X5_refuse_25 ?_
    have hQ := ps_so hK
    exact ps_zret rfl rfl d_X5_refuse_26 ⟨_, rfl, hQ⟩
  · replace hK := ps_ifT c2 hK
    refine pm_ki d_X5_refuse_9 ?_
    refine pm_goto d_X5_refuse_10 ?_
    refine ps_putI d_X5_refuse_14 at_11 f_3_0_0 rfl rfl ?_
    refine ps_nmS (fun σ6 eσ6 => ?_)
    replace hK := ps_ltE eσ6 hK
    refine pm_ald d_X5_refuse_17 rfl ?_
    refine pm_ald d_X5_refuse_18 rfl ?_
    refine ps_getI d_X5_refuse_19 at_11 f_3_0_6 rfl ?_
    refine ps_topI (fun v7 ev7 => ?_)
    replace hK := ps_ltE ev7 hK
    refine ps_putI d_X5_refuse_22 at_11 f_3_0_1 rfl rfl ?_
    refine ps_nmS (fun σ8 eσ8 => ?_)
    replace hK := ps_ltE eσ8 hK
    refine pm_ki d_X5_refuse_25 ?_
    have hQ := ps_so hK
    exact ps_zret rfl rfl d_X5_refuse_26 ⟨_, rfl, hQ⟩
def qX5_takeNumber (p1 : Int32) (p2 : Int32) (σ : ps_S) : Option (Int32 × ps_S) :=
  ps_let (σ.1 11 5) fun v1 =>
  if v1 = 2 then
  ps_let (σ.1 11 8) fun v3 =>
  if v3 < p1 then
  ps_bd (qX5_refuse 3 σ) (fun v5 σ6 =>
  if ps_b01 v5 = true then some (v5, σ6) else none)
  else
  ps_let (σ.1 11 8) fun v8 =>
  if v8 ≤ p2 then
  ps_let (σ.1 11 8) fun v10 =>
  ps_let (ps_rI σ 11 (upd (σ.1 11) 9 v10)) fun σ11 =>
  ps_bd (qX5_advance σ11) (fun _ σ13 =>
  some (1, σ13))
  else
  ps_bd (qX5_refuse 3 σ) (fun v14 σ15 =>
  if ps_b01 v14 = true then some (v14, σ15) else none)
  else
  ps_bd (qX5_refuse 2 σ) (fun v17 σ18 =>
  if ps_b01 v17 = true then some (v17, σ18) else none)
set_option maxRecDepth 100000 in
theorem C_X5_takeNumber {g : pm_G} (p1 : Int32) (p2 : Int32) (σ : ps_S) (P : Int32 → ps_S → Prop) (hK : ps_ok (qX5_takeNumber p1 p2 σ) P) : ps_C g mX5_takeNumber 6 [.ref (g.2.2.1 + 11), .int p1, .int p2] σ (ps_qI P) := by
  unfold qX5_takeNumber at hK
  refine ps_C.of (ls := [some (.ref (g.2.2.1 + 11)), some (.int p1), some (.int p2)]) 0 (by decide) rfl (Nat.le_of_ble_eq_true rfl) rfl ?_
  refine pm_ald d_X5_takeNumber_0 rfl ?_
  refine ps_getI d_X5_takeNumber_1 at_11 f_3_0_5 rfl ?_
  refine ps_topI (fun v1 ev1 => ?_)
  replace hK := ps_ltE ev1 hK
  refine pm_ki d_X5_takeNumber_4 ?_
  refine pm_icmp_eq d_X5_takeNumber_5 (fun c2 => ?_) (fun c2 => ?_)
  · replace hK := ps_ifT c2 hK
    refine pm_ald d_X5_takeNumber_14 rfl ?_
    refine ps_getI d_X5_takeNumber_15 at_11 f_3_0_8 rfl ?_
    refine ps_topI (fun v3 ev3 => ?_)
    replace hK := ps_ltE ev3 hK
    refine pm_ild d_X5_takeNumber_18 rfl ?_
    refine pm_icmp_lt d_X5_takeNumber_19 (fun c4 => ?_) (fun c4 => ?_)
    · replace hK := ps_ifT c4 hK
      refine pm_ald d_X5_takeNumber_30 rfl ?_
      refine pm_ki d_X5_takeNumber_31 ?_
      refine ps_cVI d_X5_takeNumber_32 mv_X5_refuse at_11 ob_3_0 rfl (As := [.int 3]) rfl rfl (ps_room.of (by omega) (by decide)) (Nat.le_of_ble_eq_true rfl) (C_X5_refuse 3 σ _ (ps_bdE hK)) ?_
      intro v5 σ6 hT
      clear hK
      have hK := hT
      clear hT
      obtain ⟨b7, hT⟩ := ps_gd hK
      have hQ := ps_so hT
      exact ps_zret rfl (ps_nb b7) d_X5_takeNumber_35 ⟨_, rfl, hQ⟩
    · replace hK := ps_ifF c4 hK
      refine pm_ald d_X5_takeNumber_22 rfl ?_
      refine ps_getI d_X5_takeNumber_23 at_11 f_3_0_8 rfl ?_
      refine ps_topI (fun v8 ev8 => ?_)
      replace hK := ps_ltE ev8 hK
      refine pm_ild d_X5_takeNumber_26 rfl ?_
      refine pm_icmp_le d_X5_takeNumber_27 (fun c9 => ?_) (fun c9 => ?_)
      · replace hK := ps_ifT c9 hK
        refine pm_ald d_X5_takeNumber_36 rfl ?_
        refine pm_ald d_X5_takeNumber_37 rfl ?_
        refine ps_getI d_X5_takeNumber_38 at_11 f_3_0_8 rfl ?_
        refine ps_topI (fun v10 ev10 => ?_)
        replace hK := ps_ltE ev10 hK
        refine ps_putI d_X5_takeNumber_41 at_11 f_3_0_9 rfl rfl ?_
        refine ps_nmS (fun σ11 eσ11 => ?_)
        replace hK := ps_ltE eσ11 hK
        refine pm_ald d_X5_takeNumber_44 rfl ?_
        refine ps_cVV d_X5_takeNumber_45 mv_X5_advance at_11 ob_3_0 rfl (As := []) rfl rfl (ps_room.of (by omega) (by decide)) (Nat.le_of_ble_eq_true rfl) (C_X5_advance σ11 _ (ps_bdE hK)) ?_
        intro σ13 hT
        clear hK
        have hK := hT
        clear hT
        refine pm_ki d_X5_takeNumber_48 ?_
        have hQ := ps_so hK
        exact ps_zret rfl rfl d_X5_takeNumber_49 ⟨_, rfl, hQ⟩
      · replace hK := ps_ifF c9 hK
        refine pm_ald d_X5_takeNumber_30 rfl ?_
        refine pm_ki d_X5_takeNumber_31 ?_
        refine ps_cVI d_X5_takeNumber_32 mv_X5_refuse at_11 ob_3_0 rfl (As := [.int 3]) rfl rfl (ps_room.of (by omega) (by decide)) (Nat.le_of_ble_eq_true rfl) (C_X5_refuse 3 σ _ (ps_bdE hK)) ?_
        intro v14 σ15 hT
        clear hK
        have hK := hT
        clear hT
        obtain ⟨b16, hT⟩ := ps_gd hK
        have hQ := ps_so hT
        exact ps_zret rfl (ps_nb b16) d_X5_takeNumber_35 ⟨_, rfl, hQ⟩
  · replace hK := ps_ifF c2 hK
    refine pm_ald d_X5_takeNumber_8 rfl ?_
    refine pm_ki d_X5_takeNumber_9 ?_
    refine ps_cVI d_X5_takeNumber_10 mv_X5_refuse at_11 ob_3_0 rfl (As := [.int 2]) rfl rfl (ps_room.of (by omega) (by decide)) (Nat.le_of_ble_eq_true rfl) (C_X5_refuse 2 σ _ (ps_bdE hK)) ?_
    intro v17 σ18 hT
    clear hK
    have hK := hT
    clear hT
    obtain ⟨b19, hT⟩ := ps_gd hK
    have hQ := ps_so hT
    exact ps_zret rfl (ps_nb b19) d_X5_takeNumber_13 ⟨_, rfl, hQ⟩
def qX5_isSign (p1 : Int32) (σ : ps_S) : Option (Int32 × ps_S) :=
  ps_let (σ.1 11 5) fun v1 =>
  if v1 = 3 then
  ps_let (σ.1 11 6) fun v3 =>
  if ps_in v3 900 = true then
  ps_let (σ.1 1 (v3).toNatClampNeg) fun v4 =>
  if v4 = p1 then
  some (1, σ)
  else
  some (0, σ)
  else none
  else
  some (0, σ)
set_option maxRecDepth 100000 in
theorem C_X5_isSign {g : pm_G} (p1 : Int32) (σ : ps_S) (P : Int32 → ps_S → Prop) (hK : ps_ok (qX5_isSign p1 σ) P) : ps_C g mX5_isSign 1 [.ref (g.2.2.1 + 11), .int p1] σ (ps_qI P) := by
  unfold qX5_isSign at hK
  refine ps_C.of (ls := [some (.ref (g.2.2.1 + 11)), some (.int p1)]) 0 (by decide) rfl (Nat.le_of_ble_eq_true rfl) rfl ?_
  refine pm_ald d_X5_isSign_0 rfl ?_
  refine ps_getI d_X5_isSign_1 at_11 f_3_0_5 rfl ?_
  refine ps_topI (fun v1 ev1 => ?_)
  replace hK := ps_ltE ev1 hK
  refine pm_ki d_X5_isSign_4 ?_
  refine pm_icmp_ne d_X5_isSign_5 (fun c2 => ?_) (fun c2 => ?_)
  · replace hK := ps_ifF c2 hK
    refine pm_ki d_X5_isSign_25 ?_
    have hQ := ps_so hK
    exact ps_zret rfl rfl d_X5_isSign_26 ⟨_, rfl, hQ⟩
  · replace hK := ps_ifT c2 hK
    refine pm_ald d_X5_isSign_8 rfl ?_
    refine ps_getR (q := 1) d_X5_isSign_9 at_11 f_3_0_2 rfl ?_
    refine pm_ald d_X5_isSign_12 rfl ?_
    refine ps_getI d_X5_isSign_13 at_11 f_3_0_6 rfl ?_
    refine ps_topI (fun v3 ev3 => ?_)
    replace hK := ps_ltE ev3 hK
    obtain ⟨b6, hT⟩ := ps_gd hK
    replace hK := hT
    clear hT
    refine ps_bald d_X5_isSign_16 at_1 a_1_0 (ps_in_of b6) rfl ?_
    refine ps_topI (fun v4 ev4 => ?_)
    replace hK := ps_ltE ev4 hK
    refine pm_ild d_X5_isSign_17 rfl ?_
    refine pm_icmp_ne d_X5_isSign_18 (fun c5 => ?_) (fun c5 => ?_)
    · replace hK := ps_ifF c5 hK
      refine pm_ki d_X5_isSign_25 ?_
      have hQ := ps_so hK
      exact ps_zret rfl rfl d_X5_isSign_26 ⟨_, rfl, hQ⟩
    · replace hK := ps_ifT c5 hK
      refine pm_ki d_X5_isSign_21 ?_
      refine pm_goto d_X5_isSign_22 ?_
      have hQ := ps_so hK
      exact ps_zret rfl rfl d_X5_isSign_26 ⟨_, rfl, hQ⟩
def qX5_takeSign (p1 : Int32) (σ : ps_S) : Option (Int32 × ps_S) :=
  ps_bd (qX5_isSign p1 σ) (fun v1 σ2 =>
  if v1 = 0 then
  ps_bd (qX5_refuse 2 σ2) (fun v6 σ7 =>
  if ps_b01 v6 = true then some (v6, σ7) else none)
  else
  ps_bd (qX5_advance σ2) (fun _ σ5 =>
  some (1, σ5)))
set_option maxRecDepth 100000 in
theorem C_X5_takeSign {g : pm_G} (p1 : Int32) (σ : ps_S) (P : Int32 → ps_S → Prop) (hK : ps_ok (qX5_takeSign p1 σ) P) : ps_C g mX5_takeSign 6 [.ref (g.2.2.1 + 11), .int p1] σ (ps_qI P) := by
  unfold qX5_takeSign at hK
  refine ps_C.of (ls := [some (.ref (g.2.2.1 + 11)), some (.int p1)]) 0 (by decide) rfl (Nat.le_of_ble_eq_true rfl) rfl ?_
  refine pm_ald d_X5_takeSign_0 rfl ?_
  refine pm_ild d_X5_takeSign_1 rfl ?_
  refine ps_cVI d_X5_takeSign_2 mv_X5_isSign at_11 ob_3_0 rfl (As := [.int p1]) rfl rfl (ps_room.of (by omega) (by decide)) (Nat.le_of_ble_eq_true rfl) (C_X5_isSign p1 σ _ (ps_bdE hK)) ?_
  intro v1 σ2 hT
  clear hK
  have hK := hT
  clear hT
  refine pm_if_ne d_X5_takeSign_5 (fun c3 => ?_) (fun c3 => ?_)
  · replace hK := ps_ifF c3 hK
    refine pm_ald d_X5_takeSign_14 rfl ?_
    refine ps_cVV d_X5_takeSign_15 mv_X5_advance at_11 ob_3_0 rfl (As := []) rfl rfl (ps_room.of (by omega) (by decide)) (Nat.le_of_ble_eq_true rfl) (C_X5_advance σ2 _ (ps_bdE hK)) ?_
    intro σ5 hT
    clear hK
    have hK := hT
    clear hT
    refine pm_ki d_X5_takeSign_18 ?_
    have hQ := ps_so hK
    exact ps_zret rfl rfl d_X5_takeSign_19 ⟨_, rfl, hQ⟩
  · replace hK := ps_ifT c3 hK
    refine pm_ald d_X5_takeSign_8 rfl ?_
    refine pm_ki d_X5_takeSign_9 ?_
    refine ps_cVI d_X5_takeSign_10 mv_X5_refuse at_11 ob_3_0 rfl (As := [.int 2]) rfl rfl (ps_room.of (by omega) (by decide)) (Nat.le_of_ble_eq_true rfl) (C_X5_refuse 2 σ2 _ (ps_bdE hK)) ?_
    intro v6 σ7 hT
    clear hK
    have hK := hT
    clear hT
    obtain ⟨b8, hT⟩ := ps_gd hK
    have hQ := ps_so hT
    exact ps_zret rfl (ps_nb b8) d_X5_takeSign_13 ⟨_, rfl, hQ⟩
def qJ3_checkIndex_8e157 (p1 : Int32) (p2 : Int32) (σ : ps_S) : Option (Int32 × ps_S) :=
  if p1 < 0 then
  none
  else
  if p1 < p2 then
  some (p1, σ)
  else
  none
set_option maxRecDepth 100000 in
theorem C_J3_checkIndex_8e157 {g : pm_G} (p1 : Int32) (p2 : Int32) (v3 : Value) (hv3 : v3 = .null ∨ ∃ t : Nat, v3 = .ref t) (σ : ps_S) (P : Int32 → ps_S → Prop) (hK : ps_ok (qJ3_checkIndex_8e157 p1 p2 σ) P) : ps_C g mJ3_checkIndex_8e157 1 [.int p1, .int p2, v3] σ (ps_qI P) := by
  unfold qJ3_checkIndex_8e157 at hK
  rcases hv3 with rfl | ⟨t, rfl⟩
  · refine ps_C.of (ls := [some (.int p1), some (.int p2), some (.null)]) 0 (by decide) rfl (Nat.le_of_ble_eq_true rfl) rfl ?_
    refine pm_ild d_J3_checkIndex_8e157_0 rfl ?_
    refine pm_if_lt d_J3_checkIndex_8e157_1 (fun c1 => ?_) (fun c1 => ?_)
    · replace hK := ps_ifT c1 hK
      exact (ps_no hK).elim
    · replace hK := ps_ifF c1 hK
      refine pm_ild d_J3_checkIndex_8e157_4 rfl ?_
      refine pm_ild d_J3_checkIndex_8e157_5 rfl ?_
      refine pm_icmp_lt d_J3_checkIndex_8e157_6 (fun c2 => ?_) (fun c2 => ?_)
      · replace hK := ps_ifT c2 hK
        refine pm_ild d_J3_checkIndex_8e157_16 rfl ?_
        have hQ := ps_so hK
        exact ps_iret rfl d_J3_checkIndex_8e157_17 ⟨_, rfl, hQ⟩
      · replace hK := ps_ifF c2 hK
        exact (ps_no hK).elim
  · refine ps_C.of (ls := [some (.int p1), some (.int p2), some ((.ref t))]) 0 (by decide) rfl (Nat.le_of_ble_eq_true rfl) rfl ?_
    refine pm_ild d_J3_checkIndex_8e157_0 rfl ?_
    refine pm_if_lt d_J3_checkIndex_8e157_1 (fun c1 => ?_) (fun c1 => ?_)
    · replace hK := ps_ifT c1 hK
      exact (ps_no hK).elim
    · replace hK := ps_ifF c1 hK
      refine pm_ild d_J3_checkIndex_8e157_4 rfl ?_
      refine pm_ild d_J3_checkIndex_8e157_5 rfl ?_
      refine pm_icmp_lt d_J3_checkIndex_8e157_6 (fun c2 => ?_) (fun c2 => ?_)
      · replace hK := ps_ifT c2 hK
        refine pm_ild d_J3_checkIndex_8e157_16 rfl ?_
        have hQ := ps_so hK
        exact ps_iret rfl d_J3_checkIndex_8e157_17 ⟨_, rfl, hQ⟩
      · replace hK := ps_ifF c2 hK
        exact (ps_no hK).elim
def qJ0_checkIndex_df160 (p1 : Int32) (p2 : Int32) (σ : ps_S) : Option (Unit × ps_S) :=
  ps_bd (qJ3_checkIndex_8e157 p1 p2 σ) (fun v2 σ3 =>
  some ((), σ3))
set_option maxRecDepth 100000 in
theorem C_J0_checkIndex_df160 {g : pm_G} (p1 : Int32) (p2 : Int32) (σ : ps_S) (P : Unit → ps_S → Prop) (hK : ps_ok (qJ0_checkIndex_df160 p1 p2 σ) P) : ps_C g mJ0_checkIndex_df160 2 [.int p1, .int p2] σ (ps_qV P) := by
  unfold qJ0_checkIndex_df160 at hK
  refine ps_C.of (ls := [some (.int p1), some (.int p2)]) 0 (by decide) rfl (Nat.le_of_ble_eq_true rfl) rfl ?_
  refine pm_ild d_J0_checkIndex_df160_0 rfl ?_
  refine pm_ild d_J0_checkIndex_df160_1 rfl ?_
  refine pm_format d_J0_checkIndex_df160_2 (fun f1 hf1 => ?_)
  refine ps_cSI d_J0_checkIndex_df160_5 ms_J3_checkIndex_8e157 (As := [.int p1, .int p2, f1]) rfl rfl (ps_room.of (by omega) (by decide)) (Nat.le_of_ble_eq_true rfl) (C_J3_checkIndex_8e157 p1 p2 f1 hf1 σ _ (ps_bdE hK)) ?_
  intro v2 σ3 hT
  clear hK
  have hK := hT
  clear hT
  refine pm_pop d_J0_checkIndex_df160_8 rfl ?_
  have hQ := ps_so hK
  exact ps_vret rfl d_J0_checkIndex_df160_9 ⟨rfl, hQ⟩
def qJ1_charAt_3b067 (i1 : Nat) (p2 : Int32) (σ : ps_S) : Option (Int32 × ps_S) :=
  ps_bd (qJ0_checkIndex_df160 p2 ((Int32.ofNat (pm_len.getD i1 0))) σ) (fun _ σ2 =>
  if ps_in p2 (pm_len.getD i1 0) = true then
  ps_let ((pm_byt.getD i1 []).getD (p2).toNatClampNeg 0) fun v3 =>
  if ps_c16 (((((v3 &&& 255)).toUInt32 % 65536).toInt32)) = true then some (((((v3 &&& 255)).toUInt32 % 65536).toInt32), σ2) else none
  else none)
set_option maxRecDepth 100000 in
theorem C_J1_charAt_3b067 {g : pm_G} (i1 : Nat) (hi1 : i1 < 26) (p2 : Int32) (σ : ps_S) (P : Int32 → ps_S → Prop) (hK : ps_ok (qJ1_charAt_3b067 i1 p2 σ) P) : ps_C g mJ1_charAt_3b067 3 [.ref (g.2.2.2.2 i1), .int p2] σ (ps_qI P) := by
  unfold qJ1_charAt_3b067 at hK
  refine ps_C.of (ls := [some (.ref (g.2.2.2.2 i1)), some (.int p2)]) 0 (by decide) rfl (Nat.le_of_ble_eq_true rfl) rfl ?_
  refine pm_ild d_J1_charAt_3b067_0 rfl ?_
  refine pm_ald d_J1_charAt_3b067_1 rfl ?_
  refine pm_salen hi1 d_J1_charAt_3b067_2 rfl ?_
  refine ps_cSV d_J1_charAt_3b067_3 ms_J0_checkIndex_df160 (As := [.int p2, .int (Int32.ofNat (pm_len.getD i1 0))]) rfl rfl (ps_room.of (by omega) (by decide)) (Nat.le_of_ble_eq_true rfl) (C_J0_checkIndex_df160 p2 ((Int32.ofNat (pm_len.getD i1 0))) σ _ (ps_bdE hK)) ?_
  intro σ2 hT
  clear hK
  have hK := hT
  clear hT
  refine pm_ald d_J1_charAt_3b067_6 rfl ?_
  refine pm_ild d_J1_charAt_3b067_7 rfl ?_
  obtain ⟨b4, hT⟩ := ps_gd hK
  replace hK := hT
  clear hT
  refine pm_sbald hi1 d_J1_charAt_3b067_8 (ps_in_of b4) ?_
  refine ps_topI (fun v3 ev3 => ?_)
  replace hK := ps_ltE ev3 hK
  refine pm_ki d_J1_charAt_3b067_9 ?_
  refine pm_iand d_J1_charAt_3b067_12 ?_
  refine pm_i2c d_J1_charAt_3b067_13 ?_
  obtain ⟨b5, hT⟩ := ps_gd hK
  have hQ := ps_so hT
  exact ps_zret rfl (ps_nc b5) d_J1_charAt_3b067_14 ⟨_, rfl, hQ⟩
def qJ0_charAt_5068e (i : Nat) (p1 : Int32) (σ : ps_S) : Option (Int32 × ps_S) :=
  ps_bd (qJ0_isLatin1_aae02 i σ) (fun v1 σ2 =>
  if v1 = 0 then
  none
  else
  ps_bd (qJ1_charAt_3b067 i p1 σ2) (fun v4 σ5 =>
  if ps_c16 v4 = true then some (v4, σ5) else none))
set_option maxRecDepth 100000 in
theorem C_J0_charAt_5068e {g : pm_G} (i : Nat) (hi : i < 26) (p1 : Int32) (σ : ps_S) (P : Int32 → ps_S → Prop) (hK : ps_ok (qJ0_charAt_5068e i p1 σ) P) : ps_C g mJ0_charAt_5068e 4 [.ref (g.2.2.2.1 i), .int p1] σ (ps_qI P) := by
  unfold qJ0_charAt_5068e at hK
  refine ps_C.of (ls := [some (.ref (g.2.2.2.1 i)), some (.int p1)]) 0 (by decide) rfl (Nat.le_of_ble_eq_true rfl) rfl ?_
  refine pm_ald d_J0_charAt_5068e_0 rfl ?_
  refine ps_cTI hi d_J0_charAt_5068e_1 mv_J0_isLatin1_aae02 rfl (As := []) rfl rfl (ps_room.of (by omega) (by decide)) (Nat.le_of_ble_eq_true rfl) (C_J0_isLatin1_aae02 i hi σ _ (ps_bdE hK)) ?_
  intro v1 σ2 hT
  clear hK
  have hK := hT
  clear hT
  refine pm_if_eq d_J0_charAt_5068e_4 (fun c3 => ?_) (fun c3 => ?_)
  · replace hK := ps_ifT c3 hK
    refine pm_ald d_J0_charAt_5068e_16 rfl ?_
    refine pm_svalue hi d_J0_charAt_5068e_17 ?_
    refine pm_ild d_J0_charAt_5068e_20 rfl ?_
    exact (ps_no hK).elim
  · replace hK := ps_ifF c3 hK
    refine pm_ald d_J0_charAt_5068e_7 rfl ?_
    refine pm_svalue hi d_J0_charAt_5068e_8 ?_
    refine pm_ild d_J0_charAt_5068e_11 rfl ?_
    refine ps_cSI d_J0_charAt_5068e_12 ms_J1_charAt_3b067 (As := [.ref (g.2.2.2.2 i), .int p1]) rfl rfl (ps_room.of (by omega) (by decide)) (Nat.le_of_ble_eq_true rfl) (C_J1_charAt_3b067 i hi p1 σ2 _ (ps_bdE hK)) ?_
    intro v4 σ5 hT
    clear hK
    have hK := hT
    clear hT
    obtain ⟨b6, hT⟩ := ps_gd hK
    have hQ := ps_so hT
    exact ps_zret rfl (ps_nc b6) d_J0_charAt_5068e_15 ⟨_, rfl, hQ⟩
def qX5_isWord_28 (i1 : Nat) : Nat → Int32 → ps_S → Option ((Int32 ⊕ (Int32)) × ps_S)
  | 0, _, _ => none
  | n + 1, x2, σ =>
    ps_bd (qJ0_length_8abf5 i1 σ) (fun v8 σ9 =>
    if v8 ≤ x2 then
    some (.inr x2, σ9)
    else
    ps_let (σ9.1 11 6) fun v11 =>
    if ps_in ((v11 + x2)) 900 = true then
    ps_let (σ9.1 1 ((v11 + x2)).toNatClampNeg) fun v12 =>
    ps_bd (qJ0_charAt_5068e i1 x2 σ9) (fun v13 σ14 =>
    if v12 = v13 then
    ps_let (x2 + 1) fun v16 =>
    qX5_isWord_28 i1 n v16 σ14
    else
    some (.inl 0, σ14))
    else none)
set_option maxRecDepth 100000 in
theorem L_X5_isWord_28 {g : pm_G} (D : Nat) (hD : 5 ≤ D) {P : Int32 → ps_S → Prop} (i1 : Nat) (hi1 : i1 < 26) : ∀ (n : Nat) (x2 : Int32) (σ : ps_S), ps_ok (qX5_isWord_28 i1 n x2 σ) (fun res σ => match res with | .inl r => P r σ | .inr x2 => pm_W g mX5_isWord (ps_F g D (ps_qI P)) 0 0 63 [some (.ref (g.2.2.1 + 11)), some (.ref (g.2.2.2.1 i1)), some (.int x2)] [] 345 (ps_E g σ)) → pm_W g mX5_isWord (ps_F g D (ps_qI P)) 0 0 28 [some (.ref (g.2.2.1 + 11)), some (.ref (g.2.2.2.1 i1)), some (.int x2)] [] 345 (ps_E g σ) := by
  intro n
  induction n with
  | zero => intro x2 σ hK; exact (ps_no hK).elim
  | succ n ih =>
    intro x2 σ hK
    rw [qX5_isWord_28] at hK
    refine pm_ild d_X5_isWord_28 rfl ?_
    refine pm_ald d_X5_isWord_29 rfl ?_
    refine ps_cTI hi1 d_X5_isWord_30 mv_J0_length_8abf5 rfl (As := []) rfl rfl (ps_room.of (by omega) (by decide)) (Nat.le_of_ble_eq_true rfl) (C_J0_length_8abf5 i1 hi1 σ _ (ps_bdE hK)) ?_
    intro v8 σ9 hT
    clear hK
    have hK := hT
    clear hT
    refine pm_icmp_ge d_X5_isWord_33 (fun c10 => ?_) (fun c10 => ?_)
    · replace hK := ps_ifT c10 hK
      exact ps_so hK
    · replace hK := ps_ifF c10 hK
      refine pm_ald d_X5_isWord_36 rfl ?_
      refine ps_getR (q := 1) d_X5_isWord_37 at_11 f_3_0_2 rfl ?_
      refine pm_ald d_X5_isWord_40 rfl ?_
      refine ps_getI d_X5_isWord_41 at_11 f_3_0_6 rfl ?_
      refine ps_topI (fun v11 ev11 => ?_)
      replace hK := ps_ltE ev11 hK
      refine pm_ild d_X5_isWord_44 rfl ?_
      refine pm_iadd d_X5_isWord_45 ?_
      obtain ⟨b17, hT⟩ := ps_gd hK
      replace hK := hT
      clear hT
      refine ps_bald d_X5_isWord_46 at_1 a_1_0 (ps_in_of b17) rfl ?_
      refine ps_topI (fun v12 ev12 => ?_)
      replace hK := ps_ltE ev12 hK
      refine pm_ald d_X5_isWord_47 rfl ?_
      refine pm_ild d_X5_isWord_48 rfl ?_
      refine ps_cTI hi1 d_X5_isWord_49 mv_J0_charAt_5068e rfl (As := [.int x2]) rfl rfl (ps_room.of (by omega) (by decide)) (Nat.le_of_ble_eq_true rfl) (C_J0_charAt_5068e i1 hi1 x2 σ9 _ (ps_bdE hK)) ?_
      intro v13 σ14 hT
      clear hK
      have hK := hT
      clear hT
      refine pm_icmp_eq d_X5_isWord_52 (fun c15 => ?_) (fun c15 => ?_)
      · replace hK := ps_ifT c15 hK
        refine pm_inc2 d_X5_isWord_57 rfl ?_
        obtain ⟨v16, ev16⟩ : ∃ y : Int32, y = x2 + 1 := ⟨_, rfl⟩
        rw [← ev16]
        replace hK := ps_ltE ev16 hK
        refine pm_goto d_X5_isWord_60 ?_
        exact ih _ _ hK
      · replace hK := ps_ifF c15 hK
        refine pm_ki d_X5_isWord_55 ?_
        have hQ := ps_so hK
        exact ps_zret rfl rfl d_X5_isWord_56 ⟨_, rfl, hQ⟩
def qX5_isWord (i1 : Nat) (σ : ps_S) : Option (Int32 × ps_S) :=
  ps_let (σ.1 11 5) fun v1 =>
  if v1 = 1 then
  ps_bd (qJ0_length_8abf5 i1 σ) (fun v3 σ4 =>
  ps_let (σ4.1 11 7) fun v5 =>
  ps_let (σ4.1 11 6) fun v6 =>
  if v3 = ((v5 - v6)) then
  ps_bd (qX5_isWord_28 i1 ps_N 0 σ4) (fun res σ18 => match res with
  | .inl r => some (r, σ18)
  | .inr v19 =>
    some (1, σ18))
  else
  some (0, σ4))
  else
  some (0, σ)
set_option maxRecDepth 100000 in
theorem C_X5_isWord {g : pm_G} (i1 : Nat) (hi1 : i1 < 26) (σ : ps_S) (P : Int32 → ps_S → Prop) (hK : ps_ok (qX5_isWord i1 σ) P) : ps_C g mX5_isWord 5 [.ref (g.2.2.1 + 11), .ref (g.2.2.2.1 i1)] σ (ps_qI P) := by
  unfold qX5_isWord at hK
  refine ps_C.of (ls := [some (.ref (g.2.2.1 + 11)), some (.ref (g.2.2.2.1 i1)), none]) 1 (by decide) rfl (Nat.le_of_ble_eq_true rfl) rfl ?_
  refine pm_ald d_X5_isWord_0 rfl ?_
  refine ps_getI d_X5_isWord_1 at_11 f_3_0_5 rfl ?_
  refine ps_topI (fun v1 ev1 => ?_)
  replace hK := ps_ltE ev1 hK
  refine pm_ki d_X5_isWord_4 ?_
  refine pm_icmp_ne d_X5_isWord_5 (fun c2 => ?_) (fun c2 => ?_)
  · replace hK := ps_ifF c2 hK
    refine pm_ki d_X5_isWord_24 ?_
    have hQ := ps_so hK
    exact ps_zret rfl rfl d_X5_isWord_25 ⟨_, rfl, hQ⟩
  · replace hK := ps_ifT c2 hK
    refine pm_ald d_X5_isWord_8 rfl ?_
    refine ps_cTI hi1 d_X5_isWord_9 mv_J0_length_8abf5 rfl (As := []) rfl rfl (ps_room.of (by omega) (by decide)) (Nat.le_of_ble_eq_true rfl) (C_J0_length_8abf5 i1 hi1 σ _ (ps_bdE hK)) ?_
    intro v3 σ4 hT
    clear hK
    have hK := hT
    clear hT
    refine pm_ald d_X5_isWord_12 rfl ?_
    refine ps_getI d_X5_isWord_13 at_11 f_3_0_7 rfl ?_
    refine ps_topI (fun v5 ev5 => ?_)
    replace hK := ps_ltE ev5 hK
    refine pm_ald d_X5_isWord_16 rfl ?_
    refine ps_getI d_X5_isWord_17 at_11 f_3_0_6 rfl ?_
    refine ps_topI (fun v6 ev6 => ?_)
    replace hK := ps_ltE ev6 hK
    refine pm_isub d_X5_isWord_20 ?_
    refine pm_icmp_eq d_X5_isWord_21 (fun c7 => ?_) (fun c7 => ?_)
    · replace hK := ps_ifT c7 hK
      refine pm_ki d_X5_isWord_26 ?_
      refine pm_ist2 d_X5_isWord_27 rfl (by decide) ?_
      refine L_X5_isWord_28 _ (by decide) i1 hi1 _ _ _ (ps_ok.mono (ps_bdE hK) ?_)
      intro res σ18 hT
      clear hK
      match res, hT with
      | .inl r, hT => exact ps_so hT
      | .inr v19, hT =>
        have hK := hT
        clear hT
        refine pm_ki d_X5_isWord_63 ?_
        have hQ := ps_so hK
        exact ps_zret rfl rfl d_X5_isWord_64 ⟨_, rfl, hQ⟩
    · replace hK := ps_ifF c7 hK
      refine pm_ki d_X5_isWord_24 ?_
      have hQ := ps_so hK
      exact ps_zret rfl rfl d_X5_isWord_25 ⟨_, rfl, hQ⟩
def qX5_takeWord (i1 : Nat) (σ : ps_S) : Option (Int32 × ps_S) :=
  ps_bd (qX5_isWord i1 σ) (fun v1 σ2 =>
  if v1 = 0 then
  ps_bd (qX5_refuse 2 σ2) (fun v6 σ7 =>
  if ps_b01 v6 = true then some (v6, σ7) else none)
  else
  ps_bd (qX5_advance σ2) (fun _ σ5 =>
  some (1, σ5)))
set_option maxRecDepth 100000 in
theorem C_X5_takeWord {g : pm_G} (i1 : Nat) (hi1 : i1 < 26) (σ : ps_S) (P : Int32 → ps_S → Prop) (hK : ps_ok (qX5_takeWord i1 σ) P) : ps_C g mX5_takeWord 6 [.ref (g.2.2.1 + 11), .ref (g.2.2.2.1 i1)] σ (ps_qI P) := by
  unfold qX5_takeWord at hK
  refine ps_C.of (ls := [some (.ref (g.2.2.1 + 11)), some (.ref (g.2.2.2.1 i1))]) 0 (by decide) rfl (Nat.le_of_ble_eq_true rfl) rfl ?_
  refine pm_ald d_X5_takeWord_0 rfl ?_
  refine pm_ald d_X5_takeWord_1 rfl ?_
  refine ps_cVI d_X5_takeWord_2 mv_X5_isWord at_11 ob_3_0 rfl (As := [.ref (g.2.2.2.1 i1)]) rfl rfl (ps_room.of (by omega) (by decide)) (Nat.le_of_ble_eq_true rfl) (C_X5_isWord i1 hi1 σ _ (ps_bdE hK)) ?_
  intro v1 σ2 hT
  clear hK
  have hK := hT
  clear hT
  refine pm_if_ne d_X5_takeWord_5 (fun c3 => ?_) (fun c3 => ?_)
  · replace hK := ps_ifF c3 hK
    refine pm_ald d_X5_takeWord_14 rfl ?_
    refine ps_cVV d_X5_takeWord_15 mv_X5_advance at_11 ob_3_0 rfl (As := []) rfl rfl (ps_room.of (by omega) (by decide)) (Nat.le_of_ble_eq_true rfl) (C_X5_advance σ2 _ (ps_bdE hK)) ?_
    intro σ5 hT
    clear hK
    have hK := hT
    clear hT
    refine pm_ki d_X5_takeWord_18 ?_
    have hQ := ps_so hK
    exact ps_zret rfl rfl d_X5_takeWord_19 ⟨_, rfl, hQ⟩
  · replace hK := ps_ifT c3 hK
    refine pm_ald d_X5_takeWord_8 rfl ?_
    refine pm_ki d_X5_takeWord_9 ?_
    refine ps_cVI d_X5_takeWord_10 mv_X5_refuse at_11 ob_3_0 rfl (As := [.int 2]) rfl rfl (ps_room.of (by omega) (by decide)) (Nat.le_of_ble_eq_true rfl) (C_X5_refuse 2 σ2 _ (ps_bdE hK)) ?_
    intro v6 σ7 hT
    clear hK
    have hK := hT
    clear hT
    obtain ⟨b8, hT⟩ := ps_gd hK
    have hQ := ps_so hT
    exact ps_zret rfl (ps_nb b8) d_X5_takeWord_13 ⟨_, rfl, hQ⟩
def qX5_readHead  (σ : ps_S) : Option (Int32 × ps_S) :=
  ps_bd (qX5_takeWord 1 σ) (fun v1 σ2 =>
  if v1 = 0 then
  some (0, σ2)
  else
  ps_bd (qX5_takeWord 2 σ2) (fun v4 σ5 =>
  if v4 = 0 then
  some (0, σ5)
  else
  ps_bd (qX5_takeNumber 1 999 σ5) (fun v7 σ8 =>
  if v7 = 0 then
  some (0, σ8)
  else
  ps_let (σ8.1 11 9) fun v10 =>
  ps_let (ps_rI σ8 2 (upd (σ8.1 2) 0 v10)) fun σ11 =>
  ps_bd (qX5_takeWord 3 σ11) (fun v12 σ13 =>
  if v12 = 0 then
  some (0, σ13)
  else
  ps_let (σ13.1 2 0) fun v15 =>
  ps_bd (qX5_takeNumber 0 ((v15 - 1)) σ13) (fun v16 σ17 =>
  if v16 = 0 then
  some (0, σ17)
  else
  ps_let (σ17.1 11 9) fun v19 =>
  ps_let (ps_rI σ17 2 (upd (σ17.1 2) 1 v19)) fun σ20 =>
  ps_bd (qX5_takeWord 4 σ20) (fun v21 σ22 =>
  if v21 = 0 then
  some (0, σ22)
  else
  ps_bd (qX5_takeNumber 1 999 σ22) (fun v24 σ25 =>
  if v24 = 0 then
  some (0, σ25)
  else
  ps_let (σ25.1 11 9) fun v27 =>
  ps_let (ps_rI σ25 2 (upd (σ25.1 2) 2 v27)) fun σ28 =>
  ps_bd (qX5_takeWord 5 σ28) (fun v29 σ30 =>
  if v29 = 0 then
  some (0, σ30)
  else
  ps_bd (qX5_takeNumber 1 999 σ30) (fun v32 σ33 =>
  if v32 = 0 then
  some (0, σ33)
  else
  ps_let (σ33.1 11 9) fun v35 =>
  ps_let (ps_rI σ33 2 (upd (σ33.1 2) 3 v35)) fun σ36 =>
  ps_bd (qX5_takeWord 6 σ36) (fun v37 σ38 =>
  if v37 = 0 then
  some (0, σ38)
  else
  ps_bd (qX5_takeNumber 1 999 σ38) (fun v40 σ41 =>
  if v40 = 0 then
  some (0, σ41)
  else
  ps_let (σ41.1 11 9) fun v43 =>
  ps_let (ps_rI σ41 2 (upd (σ41.1 2) 4 v43)) fun σ44 =>
  ps_bd (qX5_takeWord 7 σ44) (fun v45 σ46 =>
  if v45 = 0 then
  some (0, σ46)
  else
  ps_bd (qX5_takeNumber 1 99 σ46) (fun v48 σ49 =>
  if v48 = 0 then
  some (0, σ49)
  else
  ps_let (σ49.1 11 9) fun v51 =>
  ps_let (ps_rI σ49 2 (upd (σ49.1 2) 5 v51)) fun σ52 =>
  ps_bd (qX5_takeWord 8 σ52) (fun v53 σ54 =>
  if v53 = 0 then
  some (0, σ54)
  else
  ps_bd (qX5_takeNumber 1 99 σ54) (fun v56 σ57 =>
  if v56 = 0 then
  some (0, σ57)
  else
  ps_let (σ57.1 11 9) fun v59 =>
  ps_let (ps_rI σ57 2 (upd (σ57.1 2) 6 v59)) fun σ60 =>
  ps_let (ps_rI σ60 2 (upd (σ60.1 2) 10 1)) fun σ61 =>
  ps_bd (qX5_takeSign 59 σ61) (fun v62 σ63 =>
  if ps_b01 v62 = true then some (v62, σ63) else none))))))))))))))))
set_option maxRecDepth 100000 in
theorem C_X5_readHead {g : pm_G}  (σ : ps_S) (P : Int32 → ps_S → Prop) (hK : ps_ok (qX5_readHead  σ) P) : ps_C g mX5_readHead 7 [.ref (g.2.2.1 + 11)] σ (ps_qI P) := by
  unfold qX5_readHead at hK
  refine ps_C.of (ls := [some (.ref (g.2.2.1 + 11))]) 0 (by decide) rfl (Nat.le_of_ble_eq_true rfl) rfl ?_
  refine pm_ald d_X5_readHead_0 rfl ?_
  refine pm_ks d_X5_readHead_1 ?_
  refine ps_cVI d_X5_readHead_3 mv_X5_takeWord at_11 ob_3_0 rfl (As := [.ref (g.2.2.2.1 1)]) rfl rfl (ps_room.of (by omega) (by decide)) (Nat.le_of_ble_eq_true rfl) (C_X5_takeWord 1 (by decide) σ _ (ps_bdE hK)) ?_
  intro v1 σ2 hT
  clear hK
  have hK := hT
  clear hT
  refine pm_if_eq d_X5_readHead_6 (fun c3 => ?_) (fun c3 => ?_)
  · replace hK := ps_ifT c3 hK
    refine pm_ki d_X5_readHead_29 ?_
    have hQ := ps_so hK
    exact ps_zret rfl rfl d_X5_readHead_30 ⟨_, rfl, hQ⟩
  · replace hK := ps_ifF c3 hK
    refine pm_ald d_X5_readHead_9 rfl ?_
    refine pm_ks d_X5_readHead_10 ?_
    refine ps_cVI d_X5_readHead_12 mv_X5_takeWord at_11 ob_3_0 rfl (As := [.ref (g.2.2.2.1 2)]) rfl rfl (ps_room.of (by omega) (by decide)) (Nat.le_of_ble_eq_true rfl) (C_X5_takeWord 2 (by decide) σ2 _ (ps_bdE hK)) ?_
    intro v4 σ5 hT
    clear hK
    have hK := hT
    clear hT
    refine pm_if_eq d_X5_readHead_15 (fun c6 => ?_) (fun c6 => ?_)
    · replace hK := ps_ifT c6 hK
      refine pm_ki d_X5_readHead_29 ?_
      have hQ := ps_so hK
      exact ps_zret rfl rfl d_X5_readHead_30 ⟨_, rfl, hQ⟩
    · replace hK := ps_ifF c6 hK
      refine pm_ald d_X5_readHead_18 rfl ?_
      refine pm_ki d_X5_readHead_19 ?_
      refine pm_ki d_X5_readHead_20 ?_
      refine ps_cVI d_X5_readHead_23 mv_X5_takeNumber at_11 ob_3_0 rfl (As := [.int 1, .int 999]) rfl rfl (ps_room.of (by omega) (by decide)) (Nat.le_of_ble_eq_true rfl) (C_X5_takeNumber 1 999 σ5 _ (ps_bdE hK)) ?_
      intro v7 σ8 hT
      clear hK
      have hK := hT
      clear hT
      refine pm_if_ne d_X5_readHead_26 (fun c9 => ?_) (fun c9 => ?_)
      · replace hK := ps_ifF c9 hK
        refine pm_ald d_X5_readHead_31 rfl ?_
        refine ps_getR (q := 2) d_X5_readHead_32 at_11 f_3_0_3 rfl ?_
        refine pm_ald d_X5_readHead_35 rfl ?_
        refine ps_getI d_X5_readHead_36 at_11 f_3_0_9 rfl ?_
        refine ps_topI (fun v10 ev10 => ?_)
        replace hK := ps_ltE ev10 hK
        refine ps_putI d_X5_readHead_39 ps_Ho2.at0 f_2_0_0 rfl rfl ?_
        refine ps_nmS (fun σ11 eσ11 => ?_)
        replace hK := ps_ltE eσ11 hK
        refine pm_ald d_X5_readHead_42 rfl ?_
        refine pm_ks d_X5_readHead_43 ?_
        refine ps_cVI d_X5_readHead_45 mv_X5_takeWord at_11 ob_3_0 rfl (As := [.ref (g.2.2.2.1 3)]) rfl rfl (ps_room.of (by omega) (by decide)) (Nat.le_of_ble_eq_true rfl) (C_X5_takeWord 3 (by decide) σ11 _ (ps_bdE hK)) ?_
        intro v12 σ13 hT
        clear hK
        have hK := hT
        clear hT
        refine pm_if_eq d_X5_readHead_48 (fun c14 => ?_) (fun c14 => ?_)
        · replace hK := ps_ifT c14 hK
          refine pm_ki d_X5_readHead_68 ?_
          have hQ := ps_so hK
          exact ps_zret rfl rfl d_X5_readHead_69 ⟨_, rfl, hQ⟩
        · replace hK := ps_ifF c14 hK
          refine pm_ald d_X5_readHead_51 rfl ?_
          refine pm_ki d_X5_readHead_52 ?_
          refine pm_ald d_X5_readHead_53 rfl ?_
          refine ps_getR (q := 2) d_X5_readHead_54 at_11 f_3_0_3 rfl ?_
          refine ps_getI d_X5_readHead_57 ps_Ho2.at0 f_2_0_0 rfl ?_
          refine ps_topI (fun v15 ev15 => ?_)
          replace hK := ps_ltE ev15 hK
          refine pm_ki d_X5_readHead_60 ?_
          refine pm_isub d_X5_readHead_61 ?_
          refine ps_cVI d_X5_readHead_62 mv_X5_takeNumber at_11 ob_3_0 rfl (As := [.int 0, .int (v15 - 1)]) rfl rfl (ps_room.of (by omega) (by decide)) (Nat.le_of_ble_eq_true rfl) (C_X5_takeNumber 0 ((v15 - 1)) σ13 _ (ps_bdE hK)) ?_
          intro v16 σ17 hT
          clear hK
          have hK := hT
          clear hT
          refine pm_if_ne d_X5_readHead_65 (fun c18 => ?_) (fun c18 => ?_)
          · replace hK := ps_ifF c18 hK
            refine pm_ald d_X5_readHead_70 rfl ?_
            refine ps_getR (q := 2) d_X5_readHead_71 at_11 f_3_0_3 rfl ?_
            refine pm_ald d_X5_readHead_74 rfl ?_
            refine ps_getI d_X5_readHead_75 at_11 f_3_0_9 rfl ?_
            refine ps_topI (fun v19 ev19 => ?_)
            replace hK := ps_ltE ev19 hK
            refine ps_putI d_X5_readHead_78 ps_Ho2.at0 f_2_0_1 rfl rfl ?_
            refine ps_nmS (fun σ20 eσ20 => ?_)
            replace hK := ps_ltE eσ20 hK
            refine pm_ald d_X5_readHead_81 rfl ?_
            refine pm_ks d_X5_readHead_82 ?_
            refine ps_cVI d_X5_readHead_84 mv_X5_takeWord at_11 ob_3_0 rfl (As := [.ref (g.2.2.2.1 4)]) rfl rfl (ps_room.of (by omega) (by decide)) (Nat.le_of_ble_eq_true rfl) (C_X5_takeWord 4 (by decide) σ20 _ (ps_bdE hK)) ?_
            intro v21 σ22 hT
            clear hK
            have hK := hT
            clear hT
            refine pm_if_eq d_X5_readHead_87 (fun c23 => ?_) (fun c23 => ?_)
            · replace hK := ps_ifT c23 hK
              refine pm_ki d_X5_readHead_101 ?_
              have hQ := ps_so hK
              exact ps_zret rfl rfl d_X5_readHead_102 ⟨_, rfl, hQ⟩
            · replace hK := ps_ifF c23 hK
              refine pm_ald d_X5_readHead_90 rfl ?_
              refine pm_ki d_X5_readHead_91 ?_
              refine pm_ki d_X5_readHead_92 ?_
              refine ps_cVI d_X5_readHead_95 mv_X5_takeNumber at_11 ob_3_0 rfl (As := [.int 1, .int 999]) rfl rfl (ps_room.of (by omega) (by decide)) (Nat.le_of_ble_eq_true rfl) (C_X5_takeNumber 1 999 σ22 _ (ps_bdE hK)) ?_
              intro v24 σ25 hT
              clear hK
              have hK := hT
              clear hT
              refine pm_if_ne d_X5_readHead_98 (fun c26 => ?_) (fun c26 => ?_)
              · replace hK := ps_ifF c26 hK
                refine pm_ald d_X5_readHead_103 rfl ?_
                refine ps_getR (q := 2) d_X5_readHead_104 at_11 f_3_0_3 rfl ?_
                refine pm_ald d_X5_readHead_107 rfl ?_
                refine ps_getI d_X5_readHead_108 at_11 f_3_0_9 rfl ?_
                refine ps_topI (fun v27 ev27 => ?_)
                replace hK := ps_ltE ev27 hK
                refine ps_putI d_X5_readHead_111 ps_Ho2.at0 f_2_0_2 rfl rfl ?_
                refine ps_nmS (fun σ28 eσ28 => ?_)
                replace hK := ps_ltE eσ28 hK
                refine pm_ald d_X5_readHead_114 rfl ?_
                refine pm_ks d_X5_readHead_115 ?_
                refine ps_cVI d_X5_readHead_117 mv_X5_takeWord at_11 ob_3_0 rfl (As := [.ref (g.2.2.2.1 5)]) rfl rfl (ps_room.of (by omega) (by decide)) (Nat.le_of_ble_eq_true rfl) (C_X5_takeWord 5 (by decide) σ28 _ (ps_bdE hK)) ?_
                intro v29 σ30 hT
                clear hK
                have hK := hT
                clear hT
                refine pm_if_eq d_X5_readHead_120 (fun c31 => ?_) (fun c31 => ?_)
                · replace hK := ps_ifT c31 hK
                  refine pm_ki d_X5_readHead_134 ?_
                  have hQ := ps_so hK
                  exact ps_zret rfl rfl d_X5_readHead_135 ⟨_, rfl, hQ⟩
                · replace hK := ps_ifF c31 hK
                  refine pm_ald d_X5_readHead_123 rfl ?_
                  refine pm_ki d_X5_readHead_124 ?_
                  refine pm_ki d_X5_readHead_125 ?_
                  refine ps_cVI d_X5_readHead_128 mv_X5_takeNumber at_11 ob_3_0 rfl (As := [.int 1, .int 999]) rfl rfl (ps_room.of (by omega) (by decide)) (Nat.le_of_ble_eq_true rfl) (C_X5_takeNumber 1 999 σ30 _ (ps_bdE hK)) ?_
                  intro v32 σ33 hT
                  clear hK
                  have hK := hT
                  clear hT
                  refine pm_if_ne d_X5_readHead_131 (fun c34 => ?_) (fun c34 => ?_)
                  · replace hK := ps_ifF c34 hK
                    refine pm_ald d_X5_readHead_136 rfl ?_
                    refine ps_getR (q := 2) d_X5_readHead_137 at_11 f_3_0_3 rfl ?_
                    refine pm_ald d_X5_readHead_140 rfl ?_
                    refine ps_getI d_X5_readHead_141 at_11 f_3_0_9 rfl ?_
                    refine ps_topI (fun v35 ev35 => ?_)
                    replace hK := ps_ltE ev35 hK
                    refine ps_putI d_X5_readHead_144 ps_Ho2.at0 f_2_0_3 rfl rfl ?_
                    refine ps_nmS (fun σ36 eσ36 => ?_)
                    replace hK := ps_ltE eσ36 hK
                    refine pm_ald d_X5_readHead_147 rfl ?_
                    refine pm_ks d_X5_readHead_148 ?_
                    refine ps_cVI d_X5_readHead_150 mv_X5_takeWord at_11 ob_3_0 rfl (As := [.ref (g.2.2.2.1 6)]) rfl rfl (ps_room.of (by omega) (by decide)) (Nat.le_of_ble_eq_true rfl) (C_X5_takeWord 6 (by decide) σ36 _ (ps_bdE hK)) ?_
                    intro v37 σ38 hT
                    clear hK
                    have hK := hT
                    clear hT
                    refine pm_if_eq d_X5_readHead_153 (fun c39 => ?_) (fun c39 => ?_)
                    · replace hK := ps_ifT c39 hK
                      refine pm_ki d_X5_readHead_167 ?_
                      have hQ := ps_so hK
                      exact ps_zret rfl rfl d_X5_readHead_168 ⟨_, rfl, hQ⟩
                    · replace hK := ps_ifF c39 hK
                      refine pm_ald d_X5_readHead_156 rfl ?_
                      refine pm_ki d_X5_readHead_157 ?_
                      refine pm_ki d_X5_readHead_158 ?_
                      refine ps_cVI d_X5_readHead_161 mv_X5_takeNumber at_11 ob_3_0 rfl (As := [.int 1, .int 999]) rfl rfl (ps_room.of (by omega) (by decide)) (Nat.le_of_ble_eq_true rfl) (C_X5_takeNumber 1 999 σ38 _ (ps_bdE hK)) ?_
                      intro v40 σ41 hT
                      clear hK
                      have hK := hT
                      clear hT
                      refine pm_if_ne d_X5_readHead_164 (fun c42 => ?_) (fun c42 => ?_)
                      · replace hK := ps_ifF c42 hK
                        refine pm_ald d_X5_readHead_169 rfl ?_
                        refine ps_getR (q := 2) d_X5_readHead_170 at_11 f_3_0_3 rfl ?_
                        refine pm_ald d_X5_readHead_173 rfl ?_
                        refine ps_getI d_X5_readHead_174 at_11 f_3_0_9 rfl ?_
                        refine ps_topI (fun v43 ev43 => ?_)
                        replace hK := ps_ltE ev43 hK
                        refine ps_putI d_X5_readHead_177 ps_Ho2.at0 f_2_0_4 rfl rfl ?_
                        refine ps_nmS (fun σ44 eσ44 => ?_)
                        replace hK := ps_ltE eσ44 hK
                        refine pm_ald d_X5_readHead_180 rfl ?_
                        refine pm_ks d_X5_readHead_181 ?_
                        refine ps_cVI d_X5_readHead_183 mv_X5_takeWord at_11 ob_3_0 rfl (As := [.ref (g.2.2.2.1 7)]) rfl rfl (ps_room.of (by omega) (by decide)) (Nat.le_of_ble_eq_true rfl) (C_X5_takeWord 7 (by decide) σ44 _ (ps_bdE hK)) ?_
                        intro v45 σ46 hT
                        clear hK
                        have hK := hT
                        clear hT
                        refine pm_if_eq d_X5_readHead_186 (fun c47 => ?_) (fun c47 => ?_)
                        · replace hK := ps_ifT c47 hK
                          refine pm_ki d_X5_readHead_199 ?_
                          have hQ := ps_so hK
                          exact ps_zret rfl rfl d_X5_readHead_200 ⟨_, rfl, hQ⟩
                        · replace hK := ps_ifF c47 hK
                          refine pm_ald d_X5_readHead_189 rfl ?_
                          refine pm_ki d_X5_readHead_190 ?_
                          refine pm_ki d_X5_readHead_191 ?_
                          refine ps_cVI d_X5_readHead_193 mv_X5_takeNumber at_11 ob_3_0 rfl (As := [.int 1, .int 99]) rfl rfl (ps_room.of (by omega) (by decide)) (Nat.le_of_ble_eq_true rfl) (C_X5_takeNumber 1 99 σ46 _ (ps_bdE hK)) ?_
                          intro v48 σ49 hT
                          clear hK
                          have hK := hT
                          clear hT
                          refine pm_if_ne d_X5_readHead_196 (fun c50 => ?_) (fun c50 => ?_)
                          · replace hK := ps_ifF c50 hK
                            refine pm_ald d_X5_readHead_201 rfl ?_
                            refine ps_getR (q := 2) d_X5_readHead_202 at_11 f_3_0_3 rfl ?_
                            refine pm_ald d_X5_readHead_205 rfl ?_
                            refine ps_getI d_X5_readHead_206 at_11 f_3_0_9 rfl ?_
                            refine ps_topI (fun v51 ev51 => ?_)
                            replace hK := ps_ltE ev51 hK
                            refine ps_putI d_X5_readHead_209 ps_Ho2.at0 f_2_0_5 rfl rfl ?_
                            refine ps_nmS (fun σ52 eσ52 => ?_)
                            replace hK := ps_ltE eσ52 hK
                            refine pm_ald d_X5_readHead_212 rfl ?_
                            refine pm_ks d_X5_readHead_213 ?_
                            refine ps_cVI d_X5_readHead_215 mv_X5_takeWord at_11 ob_3_0 rfl (As := [.ref (g.2.2.2.1 8)]) rfl rfl (ps_room.of (by omega) (by decide)) (Nat.le_of_ble_eq_true rfl) (C_X5_takeWord 8 (by decide) σ52 _ (ps_bdE hK)) ?_
                            intro v53 σ54 hT
                            clear hK
                            have hK := hT
                            clear hT
                            refine pm_if_eq d_X5_readHead_218 (fun c55 => ?_) (fun c55 => ?_)
                            · replace hK := ps_ifT c55 hK
                              refine pm_ki d_X5_readHead_231 ?_
                              have hQ := ps_so hK
                              exact ps_zret rfl rfl d_X5_readHead_232 ⟨_, rfl, hQ⟩
                            · replace hK := ps_ifF c55 hK
                              refine pm_ald d_X5_readHead_221 rfl ?_
                              refine pm_ki d_X5_readHead_222 ?_
                              refine pm_ki d_X5_readHead_223 ?_
                              refine ps_cVI d_X5_readHead_225 mv_X5_takeNumber at_11 ob_3_0 rfl (As := [.int 1, .int 99]) rfl rfl (ps_room.of (by omega) (by decide)) (Nat.le_of_ble_eq_true rfl) (C_X5_takeNumber 1 99 σ54 _ (ps_bdE hK)) ?_
                              intro v56 σ57 hT
                              clear hK
                              have hK := hT
                              clear hT
                              refine pm_if_ne d_X5_readHead_228 (fun c58 => ?_) (fun c58 => ?_)
                              · replace hK := ps_ifF c58 hK
                                refine pm_ald d_X5_readHead_233 rfl ?_
                                refine ps_getR (q := 2) d_X5_readHead_234 at_11 f_3_0_3 rfl ?_
                                refine pm_ald d_X5_readHead_237 rfl ?_
                                refine ps_getI d_X5_readHead_238 at_11 f_3_0_9 rfl ?_
                                refine ps_topI (fun v59 ev59 => ?_)
                                replace hK := ps_ltE ev59 hK
                                refine ps_putI d_X5_readHead_241 ps_Ho2.at0 f_2_0_6 rfl rfl ?_
                                refine ps_nmS (fun σ60 eσ60 => ?_)
                                replace hK := ps_ltE eσ60 hK
                                refine pm_ald d_X5_readHead_244 rfl ?_
                                refine ps_getR (q := 2) d_X5_readHead_245 at_11 f_3_0_3 rfl ?_
                                refine pm_ki d_X5_readHead_248 ?_
                                refine ps_putI d_X5_readHead_249 ps_Ho2.at0 f_2_0_10 rfl rfl ?_
                                refine ps_nmS (fun σ61 eσ61 => ?_)
                                replace hK := ps_ltE eσ61 hK
                                refine pm_ald d_X5_readHead_252 rfl ?_
                                refine pm_ki d_X5_readHead_253 ?_
                                refine ps_cVI d_X5_readHead_255 mv_X5_takeSign at_11 ob_3_0 rfl (As := [.int 59]) rfl rfl (ps_room.of (by omega) (by decide)) (Nat.le_of_ble_eq_true rfl) (C_X5_takeSign 59 σ61 _ (ps_bdE hK)) ?_
                                intro v62 σ63 hT
                                clear hK
                                have hK := hT
                                clear hT
                                obtain ⟨b64, hT⟩ := ps_gd hK
                                have hQ := ps_so hT
                                exact ps_zret rfl (ps_nb b64) d_X5_readHead_258 ⟨_, rfl, hQ⟩
                              · replace hK := ps_ifT c58 hK
                                refine pm_ki d_X5_readHead_231 ?_
                                have hQ := ps_so hK
                                exact ps_zret rfl rfl d_X5_readHead_232 ⟨_, rfl, hQ⟩
                          · replace hK := ps_ifT c50 hK
                            refine pm_ki d_X5_readHead_199 ?_
                            have hQ := ps_so hK
                            exact ps_zret rfl rfl d_X5_readHead_200 ⟨_, rfl, hQ⟩
                      · replace hK := ps_ifT c42 hK
                        refine pm_ki d_X5_readHead_167 ?_
                        have hQ := ps_so hK
                        exact ps_zret rfl rfl d_X5_readHead_168 ⟨_, rfl, hQ⟩
                  · replace hK := ps_ifT c34 hK
                    refine pm_ki d_X5_readHead_134 ?_
                    have hQ := ps_so hK
                    exact ps_zret rfl rfl d_X5_readHead_135 ⟨_, rfl, hQ⟩
              · replace hK := ps_ifT c26 hK
                refine pm_ki d_X5_readHead_101 ?_
                have hQ := ps_so hK
                exact ps_zret rfl rfl d_X5_readHead_102 ⟨_, rfl, hQ⟩
          · replace hK := ps_ifT c18 hK
            refine pm_ki d_X5_readHead_68 ?_
            have hQ := ps_so hK
            exact ps_zret rfl rfl d_X5_readHead_69 ⟨_, rfl, hQ⟩
      · replace hK := ps_ifT c9 hK
        refine pm_ki d_X5_readHead_29 ?_
        have hQ := ps_so hK
        exact ps_zret rfl rfl d_X5_readHead_30 ⟨_, rfl, hQ⟩
def qX2_addDevice (B : Nat) (p1 : Int32) (σ : ps_S) : Option (Unit × ps_S) :=
  ps_let (σ.1 B 7) fun v1 =>
  if 4 ≤ v1 then
  some ((), σ)
  else
  ps_let (σ.1 B 7) fun v3 =>
  if ps_in v3 4 = true then
  ps_let (ps_rI σ (B + 1) (upd (σ.1 (B + 1)) (v3).toNatClampNeg p1)) fun σ4 =>
  ps_let (σ4.1 B 7) fun v5 =>
  ps_let (ps_rI σ4 B (upd (σ4.1 B) 7 ((v5 + 1)))) fun σ6 =>
  some ((), σ6)
  else none
set_option maxRecDepth 100000 in
theorem C_X2_addDevice {g : pm_G} (B : Nat) (hB : ps_Ho B) (p1 : Int32) (σ : ps_S) (P : Unit → ps_S → Prop) (hK : ps_ok (qX2_addDevice B p1 σ) P) : ps_C g mX2_addDevice 1 [.ref (g.2.2.1 + B), .int p1] σ (ps_qV P) := by
  unfold qX2_addDevice at hK
  refine ps_C.of (ls := [some (.ref (g.2.2.1 + B)), some (.int p1)]) 0 (by decide) rfl (Nat.le_of_ble_eq_true rfl) rfl ?_
  refine pm_ald d_X2_addDevice_0 rfl ?_
  refine ps_getI d_X2_addDevice_1 hB.at0 f_2_0_7 rfl ?_
  refine ps_topI (fun v1 ev1 => ?_)
  replace hK := ps_ltE ev1 hK
  refine pm_ki d_X2_addDevice_4 ?_
  refine pm_icmp_ge d_X2_addDevice_5 (fun c2 => ?_) (fun c2 => ?_)
  · replace hK := ps_ifT c2 hK
    have hQ := ps_so hK
    exact ps_vret rfl d_X2_addDevice_28 ⟨rfl, hQ⟩
  · replace hK := ps_ifF c2 hK
    refine pm_ald d_X2_addDevice_8 rfl ?_
    refine ps_getR (q := (B + 1)) d_X2_addDevice_9 hB.at0 f_2_0_11 rfl ?_
    refine pm_ald d_X2_addDevice_12 rfl ?_
    refine ps_getI d_X2_addDevice_13 hB.at0 f_2_0_7 rfl ?_
    refine ps_topI (fun v3 ev3 => ?_)
    replace hK := ps_ltE ev3 hK
    refine pm_ild d_X2_addDevice_16 rfl ?_
    obtain ⟨b7, hT⟩ := ps_gd hK
    replace hK := hT
    clear hT
    refine ps_iast d_X2_addDevice_17 (hB.at 1 (by decide)) a_2_1 (ps_in_of b7) ?_
    refine ps_nmS (fun σ4 eσ4 => ?_)
    replace hK := ps_ltE eσ4 hK
    refine pm_ald d_X2_addDevice_18 rfl ?_
    refine pm_dup d_X2_addDevice_19 rfl ?_
    refine ps_getI d_X2_addDevice_20 hB.at0 f_2_0_7 rfl ?_
    refine ps_topI (fun v5 ev5 => ?_)
    replace hK := ps_ltE ev5 hK
    refine pm_ki d_X2_addDevice_23 ?_
    refine pm_iadd d_X2_addDevice_24 ?_
    refine ps_putI d_X2_addDevice_25 hB.at0 f_2_0_7 rfl rfl ?_
    refine ps_nmS (fun σ6 eσ6 => ?_)
    replace hK := ps_ltE eσ6 hK
    have hQ := ps_so hK
    exact ps_vret rfl d_X2_addDevice_28 ⟨rfl, hQ⟩
def qX5_readDevice  (σ : ps_S) : Option (Int32 × ps_S) :=
  ps_let (σ.1 2 7) fun v1 =>
  if v1 < 4 then
  ps_bd (qX5_advance σ) (fun _ σ4 =>
  ps_bd (qX5_takeWord 10 σ4) (fun v5 σ6 =>
  if v5 = 0 then
  some (0, σ6)
  else
  ps_bd (qX5_takeNumber 0 999 σ6) (fun v8 σ9 =>
  if v8 = 0 then
  some (0, σ9)
  else
  ps_let (σ9.1 11 9) fun v11 =>
  ps_bd (qX2_addDevice 2 v11 σ9) (fun _ σ13 =>
  some (1, σ13)))))
  else
  ps_bd (qX5_refuse 4 σ) (fun v14 σ15 =>
  if ps_b01 v14 = true then some (v14, σ15) else none)
set_option maxRecDepth 100000 in
theorem C_X5_readDevice {g : pm_G}  (σ : ps_S) (P : Int32 → ps_S → Prop) (hK : ps_ok (qX5_readDevice  σ) P) : ps_C g mX5_readDevice 7 [.ref (g.2.2.1 + 11)] σ (ps_qI P) := by
  unfold qX5_readDevice at hK
  refine ps_C.of (ls := [some (.ref (g.2.2.1 + 11))]) 0 (by decide) rfl (Nat.le_of_ble_eq_true rfl) rfl ?_
  refine pm_ald d_X5_readDevice_0 rfl ?_
  refine ps_getR (q := 2) d_X5_readDevice_1 at_11 f_3_0_3 rfl ?_
  refine ps_getI d_X5_readDevice_4 ps_Ho2.at0 f_2_0_7 rfl ?_
  refine ps_topI (fun v1 ev1 => ?_)
  replace hK := ps_ltE ev1 hK
  refine pm_ki d_X5_readDevice_7 ?_
  refine pm_icmp_lt d_X5_readDevice_8 (fun c2 => ?_) (fun c2 => ?_)
  · replace hK := ps_ifT c2 hK
    refine pm_ald d_X5_readDevice_17 rfl ?_
    refine ps_cVV d_X5_readDevice_18 mv_X5_advance at_11 ob_3_0 rfl (As := []) rfl rfl (ps_room.of (by omega) (by decide)) (Nat.le_of_ble_eq_true rfl) (C_X5_advance σ _ (ps_bdE hK)) ?_
    intro σ4 hT
    clear hK
    have hK := hT
    clear hT
    refine pm_ald d_X5_readDevice_21 rfl ?_
    refine pm_ks d_X5_readDevice_22 ?_
    refine ps_cVI d_X5_readDevice_24 mv_X5_takeWord at_11 ob_3_0 rfl (As := [.ref (g.2.2.2.1 10)]) rfl rfl (ps_room.of (by omega) (by decide)) (Nat.le_of_ble_eq_true rfl) (C_X5_takeWord 10 (by decide) σ4 _ (ps_bdE hK)) ?_
    intro v5 σ6 hT
    clear hK
    have hK := hT
    clear hT
    refine pm_if_eq d_X5_readDevice_27 (fun c7 => ?_) (fun c7 => ?_)
    · replace hK := ps_ifT c7 hK
      refine pm_ki d_X5_readDevice_41 ?_
      have hQ := ps_so hK
      exact ps_zret rfl rfl d_X5_readDevice_42 ⟨_, rfl, hQ⟩
    · replace hK := ps_ifF c7 hK
      refine pm_ald d_X5_readDevice_30 rfl ?_
      refine pm_ki d_X5_readDevice_31 ?_
      refine pm_ki d_X5_readDevice_32 ?_
      refine ps_cVI d_X5_readDevice_35 mv_X5_takeNumber at_11 ob_3_0 rfl (As := [.int 0, .int 999]) rfl rfl (ps_room.of (by omega) (by decide)) (Nat.le_of_ble_eq_true rfl) (C_X5_takeNumber 0 999 σ6 _ (ps_bdE hK)) ?_
      intro v8 σ9 hT
      clear hK
      have hK := hT
      clear hT
      refine pm_if_ne d_X5_readDevice_38 (fun c10 => ?_) (fun c10 => ?_)
      · replace hK := ps_ifF c10 hK
        refine pm_ald d_X5_readDevice_43 rfl ?_
        refine ps_getR (q := 2) d_X5_readDevice_44 at_11 f_3_0_3 rfl ?_
        refine pm_ald d_X5_readDevice_47 rfl ?_
        refine ps_getI d_X5_readDevice_48 at_11 f_3_0_9 rfl ?_
        refine ps_topI (fun v11 ev11 => ?_)
        replace hK := ps_ltE ev11 hK
        refine ps_cVV d_X5_readDevice_51 mv_X2_addDevice ps_Ho2.at0 ob_2_0 rfl (As := [.int v11]) rfl rfl (ps_room.of (by omega) (by decide)) (Nat.le_of_ble_eq_true rfl) (C_X2_addDevice 2 ps_Ho2 v11 σ9 _ (ps_bdE hK)) ?_
        intro σ13 hT
        clear hK
        have hK := hT
        clear hT
        refine pm_ki d_X5_readDevice_54 ?_
        have hQ := ps_so hK
        exact ps_zret rfl rfl d_X5_readDevice_55 ⟨_, rfl, hQ⟩
      · replace hK := ps_ifT c10 hK
        refine pm_ki d_X5_readDevice_41 ?_
        have hQ := ps_so hK
        exact ps_zret rfl rfl d_X5_readDevice_42 ⟨_, rfl, hQ⟩
  · replace hK := ps_ifF c2 hK
    refine pm_ald d_X5_readDevice_11 rfl ?_
    refine pm_ki d_X5_readDevice_12 ?_
    refine ps_cVI d_X5_readDevice_13 mv_X5_refuse at_11 ob_3_0 rfl (As := [.int 4]) rfl rfl (ps_room.of (by omega) (by decide)) (Nat.le_of_ble_eq_true rfl) (C_X5_refuse 4 σ _ (ps_bdE hK)) ?_
    intro v14 σ15 hT
    clear hK
    have hK := hT
    clear hT
    obtain ⟨b16, hT⟩ := ps_gd hK
    have hQ := ps_so hT
    exact ps_zret rfl (ps_nb b16) d_X5_readDevice_16 ⟨_, rfl, hQ⟩
def qX2_addFile (B : Nat) (p1 : Int32) (σ : ps_S) : Option (Unit × ps_S) :=
  ps_let (σ.1 B 8) fun v1 =>
  if 12 ≤ v1 then
  some ((), σ)
  else
  ps_let (σ.1 B 7) fun v3 =>
  if v3 ≤ p1 then
  some ((), σ)
  else
  ps_let (σ.1 B 8) fun v5 =>
  if ps_in v5 12 = true then
  ps_let (ps_rI σ (B + 3) (upd (σ.1 (B + 3)) (v5).toNatClampNeg p1)) fun σ6 =>
  ps_let (σ6.1 B 8) fun v7 =>
  ps_let (ps_rI σ6 B (upd (σ6.1 B) 8 ((v7 + 1)))) fun σ8 =>
  some ((), σ8)
  else none
set_option maxRecDepth 100000 in
theorem C_X2_addFile {g : pm_G} (B : Nat) (hB : ps_Ho B) (p1 : Int32) (σ : ps_S) (P : Unit → ps_S → Prop) (hK : ps_ok (qX2_addFile B p1 σ) P) : ps_C g mX2_addFile 1 [.ref (g.2.2.1 + B), .int p1] σ (ps_qV P) := by
  unfold qX2_addFile at hK
  refine ps_C.of (ls := [some (.ref (g.2.2.1 + B)), some (.int p1)]) 0 (by decide) rfl (Nat.le_of_ble_eq_true rfl) rfl ?_
  refine pm_ald d_X2_addFile_0 rfl ?_
  refine ps_getI d_X2_addFile_1 hB.at0 f_2_0_8 rfl ?_
  refine ps_topI (fun v1 ev1 => ?_)
  replace hK := ps_ltE ev1 hK
  refine pm_ki d_X2_addFile_4 ?_
  refine pm_icmp_ge d_X2_addFile_6 (fun c2 => ?_) (fun c2 => ?_)
  · replace hK := ps_ifT c2 hK
    have hQ := ps_so hK
    exact ps_vret rfl d_X2_addFile_37 ⟨rfl, hQ⟩
  · replace hK := ps_ifF c2 hK
    refine pm_ild d_X2_addFile_9 rfl ?_
    refine pm_ald d_X2_addFile_10 rfl ?_
    refine ps_getI d_X2_addFile_11 hB.at0 f_2_0_7 rfl ?_
    refine ps_topI (fun v3 ev3 => ?_)
    replace hK := ps_ltE ev3 hK
    refine pm_icmp_ge d_X2_addFile_14 (fun c4 => ?_) (fun c4 => ?_)
    · replace hK := ps_ifT c4 hK
      have hQ := ps_so hK
      exact ps_vret rfl d_X2_addFile_37 ⟨rfl, hQ⟩
    · replace hK := ps_ifF c4 hK
      refine pm_ald d_X2_addFile_17 rfl ?_
      refine ps_getR (q := (B + 3)) d_X2_addFile_18 hB.at0 f_2_0_13 rfl ?_
      refine pm_ald d_X2_addFile_21 rfl ?_
      refine ps_getI d_X2_addFile_22 hB.at0 f_2_0_8 rfl ?_
      refine ps_topI (fun v5 ev5 => ?_)
      replace hK := ps_ltE ev5 hK
      refine pm_ild d_X2_addFile_25 rfl ?_
      obtain ⟨b9, hT⟩ := ps_gd hK
      replace hK := hT
      clear hT
      refine ps_iast d_X2_addFile_26 (hB.at 3 (by decide)) a_2_3 (ps_in_of b9) ?_
      refine ps_nmS (fun σ6 eσ6 => ?_)
      replace hK := ps_ltE eσ6 hK
      refine pm_ald d_X2_addFile_27 rfl ?_
      refine pm_dup d_X2_addFile_28 rfl ?_
      refine ps_getI d_X2_addFile_29 hB.at0 f_2_0_8 rfl ?_
      refine ps_topI (fun v7 ev7 => ?_)
      replace hK := ps_ltE ev7 hK
      refine pm_ki d_X2_addFile_32 ?_
      refine pm_iadd d_X2_addFile_33 ?_
      refine ps_putI d_X2_addFile_34 hB.at0 f_2_0_8 rfl rfl ?_
      refine ps_nmS (fun σ8 eσ8 => ?_)
      replace hK := ps_ltE eσ8 hK
      have hQ := ps_so hK
      exact ps_vret rfl d_X2_addFile_37 ⟨rfl, hQ⟩
def qX5_readFile  (σ : ps_S) : Option (Int32 × ps_S) :=
  ps_let (σ.1 2 8) fun v1 =>
  if v1 < 12 then
  ps_bd (qX5_advance σ) (fun _ σ4 =>
  ps_bd (qX5_takeWord 12 σ4) (fun v5 σ6 =>
  if v5 = 0 then
  some (0, σ6)
  else
  ps_let (σ6.1 2 7) fun v8 =>
  ps_bd (qX5_takeNumber 0 ((v8 - 1)) σ6) (fun v9 σ10 =>
  if v9 = 0 then
  some (0, σ10)
  else
  ps_let (σ10.1 11 9) fun v12 =>
  ps_bd (qX2_addFile 2 v12 σ10) (fun _ σ14 =>
  some (1, σ14)))))
  else
  ps_bd (qX5_refuse 4 σ) (fun v15 σ16 =>
  if ps_b01 v15 = true then some (v15, σ16) else none)
set_option maxRecDepth 100000 in
theorem C_X5_readFile {g : pm_G}  (σ : ps_S) (P : Int32 → ps_S → Prop) (hK : ps_ok (qX5_readFile  σ) P) : ps_C g mX5_readFile 7 [.ref (g.2.2.1 + 11)] σ (ps_qI P) := by
  unfold qX5_readFile at hK
  refine ps_C.of (ls := [some (.ref (g.2.2.1 + 11))]) 0 (by decide) rfl (Nat.le_of_ble_eq_true rfl) rfl ?_
  refine pm_ald d_X5_readFile_0 rfl ?_
  refine ps_getR (q := 2) d_X5_readFile_1 at_11 f_3_0_3 rfl ?_
  refine ps_getI d_X5_readFile_4 ps_Ho2.at0 f_2_0_8 rfl ?_
  refine ps_topI (fun v1 ev1 => ?_)
  replace hK := ps_ltE ev1 hK
  refine pm_ki d_X5_readFile_7 ?_
  refine pm_icmp_lt d_X5_readFile_9 (fun c2 => ?_) (fun c2 => ?_)
  · replace hK := ps_ifT c2 hK
    refine pm_ald d_X5_readFile_18 rfl ?_
    refine ps_cVV d_X5_readFile_19 mv_X5_advance at_11 ob_3_0 rfl (As := []) rfl rfl (ps_room.of (by omega) (by decide)) (Nat.le_of_ble_eq_true rfl) (C_X5_advance σ _ (ps_bdE hK)) ?_
    intro σ4 hT
    clear hK
    have hK := hT
    clear hT
    refine pm_ald d_X5_readFile_22 rfl ?_
    refine pm_ks d_X5_readFile_23 ?_
    refine ps_cVI d_X5_readFile_25 mv_X5_takeWord at_11 ob_3_0 rfl (As := [.ref (g.2.2.2.1 12)]) rfl rfl (ps_room.of (by omega) (by decide)) (Nat.le_of_ble_eq_true rfl) (C_X5_takeWord 12 (by decide) σ4 _ (ps_bdE hK)) ?_
    intro v5 σ6 hT
    clear hK
    have hK := hT
    clear hT
    refine pm_if_eq d_X5_readFile_28 (fun c7 => ?_) (fun c7 => ?_)
    · replace hK := ps_ifT c7 hK
      refine pm_ki d_X5_readFile_48 ?_
      have hQ := ps_so hK
      exact ps_zret rfl rfl d_X5_readFile_49 ⟨_, rfl, hQ⟩
    · replace hK := ps_ifF c7 hK
      refine pm_ald d_X5_readFile_31 rfl ?_
      refine pm_ki d_X5_readFile_32 ?_
      refine pm_ald d_X5_readFile_33 rfl ?_
      refine ps_getR (q := 2) d_X5_readFile_34 at_11 f_3_0_3 rfl ?_
      refine ps_getI d_X5_readFile_37 ps_Ho2.at0 f_2_0_7 rfl ?_
      refine ps_topI (fun v8 ev8 => ?_)
      replace hK := ps_ltE ev8 hK
      refine pm_ki d_X5_readFile_40 ?_
      refine pm_isub d_X5_readFile_41 ?_
      refine ps_cVI d_X5_readFile_42 mv_X5_takeNumber at_11 ob_3_0 rfl (As := [.int 0, .int (v8 - 1)]) rfl rfl (ps_room.of (by omega) (by decide)) (Nat.le_of_ble_eq_true rfl) (C_X5_takeNumber 0 ((v8 - 1)) σ6 _ (ps_bdE hK)) ?_
      intro v9 σ10 hT
      clear hK
      have hK := hT
      clear hT
      refine pm_if_ne d_X5_readFile_45 (fun c11 => ?_) (fun c11 => ?_)
      · replace hK := ps_ifF c11 hK
        refine pm_ald d_X5_readFile_50 rfl ?_
        refine ps_getR (q := 2) d_X5_readFile_51 at_11 f_3_0_3 rfl ?_
        refine pm_ald d_X5_readFile_54 rfl ?_
        refine ps_getI d_X5_readFile_55 at_11 f_3_0_9 rfl ?_
        refine ps_topI (fun v12 ev12 => ?_)
        replace hK := ps_ltE ev12 hK
        refine ps_cVV d_X5_readFile_58 mv_X2_addFile ps_Ho2.at0 ob_2_0 rfl (As := [.int v12]) rfl rfl (ps_room.of (by omega) (by decide)) (Nat.le_of_ble_eq_true rfl) (C_X2_addFile 2 ps_Ho2 v12 σ10 _ (ps_bdE hK)) ?_
        intro σ14 hT
        clear hK
        have hK := hT
        clear hT
        refine pm_ki d_X5_readFile_61 ?_
        have hQ := ps_so hK
        exact ps_zret rfl rfl d_X5_readFile_62 ⟨_, rfl, hQ⟩
      · replace hK := ps_ifT c11 hK
        refine pm_ki d_X5_readFile_48 ?_
        have hQ := ps_so hK
        exact ps_zret rfl rfl d_X5_readFile_49 ⟨_, rfl, hQ⟩
  · replace hK := ps_ifF c2 hK
    refine pm_ald d_X5_readFile_12 rfl ?_
    refine pm_ki d_X5_readFile_13 ?_
    refine ps_cVI d_X5_readFile_14 mv_X5_refuse at_11 ob_3_0 rfl (As := [.int 4]) rfl rfl (ps_room.of (by omega) (by decide)) (Nat.le_of_ble_eq_true rfl) (C_X5_refuse 4 σ _ (ps_bdE hK)) ?_
    intro v15 σ16 hT
    clear hK
    have hK := hT
    clear hT
    obtain ⟨b17, hT⟩ := ps_gd hK
    have hQ := ps_so hT
    exact ps_zret rfl (ps_nb b17) d_X5_readFile_17 ⟨_, rfl, hQ⟩
def qX3_enact (B : Nat) (p1 : Int32) (p2 : Int32) (σ : ps_S) : Option (Unit × ps_S) :=
  if p1 = 0 then
  ps_let (ps_rI σ (B + 7) (upd (σ.1 (B + 7)) 4 p2)) fun σ2 =>
  ps_let (σ2.1 (B + 7) 1) fun v3 =>
  ps_let (ps_rI σ2 (B + 7) (upd (σ2.1 (B + 7)) 5 v3)) fun σ4 =>
  some ((), σ4)
  else
  ps_let (ps_rI σ (B + 7) (upd (σ.1 (B + 7)) 2 p2)) fun σ5 =>
  ps_let (σ5.1 (B + 7) 1) fun v6 =>
  ps_let (ps_rI σ5 (B + 7) (upd (σ5.1 (B + 7)) 3 v6)) fun σ7 =>
  some ((), σ7)
set_option maxRecDepth 100000 in
theorem C_X3_enact {g : pm_G} (B : Nat) (hB : ps_Ho B) (p1 : Int32) (p2 : Int32) (σ : ps_S) (P : Unit → ps_S → Prop) (hK : ps_ok (qX3_enact B p1 p2 σ) P) : ps_C g mX3_enact 1 [.ref (g.2.2.1 + (B + 7)), .int p1, .int p2] σ (ps_qV P) := by
  unfold qX3_enact at hK
  refine ps_C.of (ls := [some (.ref (g.2.2.1 + (B + 7))), some (.int p1), some (.int p2)]) 0 (by decide) rfl (Nat.le_of_ble_eq_true rfl) rfl ?_
  refine pm_ild d_X3_enact_0 rfl ?_
  refine pm_if_eq d_X3_enact_1 (fun c1 => ?_) (fun c1 => ?_)
  · replace hK := ps_ifT c1 hK
    refine pm_ald d_X3_enact_20 rfl ?_
    refine pm_ild d_X3_enact_21 rfl ?_
    refine ps_putI d_X3_enact_22 (hB.at 7 (by decide)) f_2_7_4 rfl rfl ?_
    refine ps_nmS (fun σ2 eσ2 => ?_)
    replace hK := ps_ltE eσ2 hK
    refine pm_ald d_X3_enact_25 rfl ?_
    refine pm_ald d_X3_enact_26 rfl ?_
    refine ps_getI d_X3_enact_27 (hB.at 7 (by decide)) f_2_7_1 rfl ?_
    refine ps_topI (fun v3 ev3 => ?_)
    replace hK := ps_ltE ev3 hK
    refine ps_putI d_X3_enact_30 (hB.at 7 (by decide)) f_2_7_5 rfl rfl ?_
    refine ps_nmS (fun σ4 eσ4 => ?_)
    replace hK := ps_ltE eσ4 hK
    have hQ := ps_so hK
    exact ps_vret rfl d_X3_enact_33 ⟨rfl, hQ⟩
  · replace hK := ps_ifF c1 hK
    refine pm_ald d_X3_enact_4 rfl ?_
    refine pm_ild d_X3_enact_5 rfl ?_
    refine ps_putI d_X3_enact_6 (hB.at 7 (by decide)) f_2_7_2 rfl rfl ?_
    refine ps_nmS (fun σ5 eσ5 => ?_)
    replace hK := ps_ltE eσ5 hK
    refine pm_ald d_X3_enact_9 rfl ?_
    refine pm_ald d_X3_enact_10 rfl ?_
    refine ps_getI d_X3_enact_11 (hB.at 7 (by decide)) f_2_7_1 rfl ?_
    refine ps_topI (fun v6 ev6 => ?_)
    replace hK := ps_ltE ev6 hK
    refine ps_putI d_X3_enact_14 (hB.at 7 (by decide)) f_2_7_3 rfl rfl ?_
    refine ps_nmS (fun σ7 eσ7 => ?_)
    replace hK := ps_ltE eσ7 hK
    refine pm_goto d_X3_enact_17 ?_
    have hQ := ps_so hK
    exact ps_vret rfl d_X3_enact_33 ⟨rfl, hQ⟩
def qX3_append (B : Nat) (p1 : Int32) (σ : ps_S) : Option (Unit × ps_S) :=
  ps_let (σ.1 (B + 7) 1) fun v1 =>
  if 900 ≤ v1 then
  some ((), σ)
  else
  ps_let (σ.1 (B + 7) 1) fun v3 =>
  if ps_in v3 900 = true then
  ps_let (ps_rI σ (B + 8) (upd (σ.1 (B + 8)) (v3).toNatClampNeg p1)) fun σ4 =>
  ps_let (σ4.1 (B + 7) 1) fun v5 =>
  ps_let (ps_rI σ4 (B + 7) (upd (σ4.1 (B + 7)) 1 ((v5 + 1)))) fun σ6 =>
  some ((), σ6)
  else none
set_option maxRecDepth 100000 in
theorem C_X3_append {g : pm_G} (B : Nat) (hB : ps_Ho B) (p1 : Int32) (σ : ps_S) (P : Unit → ps_S → Prop) (hK : ps_ok (qX3_append B p1 σ) P) : ps_C g mX3_append 1 [.ref (g.2.2.1 + (B + 7)), .int p1] σ (ps_qV P) := by
  unfold qX3_append at hK
  refine ps_C.of (ls := [some (.ref (g.2.2.1 + (B + 7))), some (.int p1)]) 0 (by decide) rfl (Nat.le_of_ble_eq_true rfl) rfl ?_
  refine pm_ald d_X3_append_0 rfl ?_
  refine ps_getI d_X3_append_1 (hB.at 7 (by decide)) f_2_7_1 rfl ?_
  refine ps_topI (fun v1 ev1 => ?_)
  replace hK := ps_ltE ev1 hK
  refine pm_ald d_X3_append_4 rfl ?_
  refine ps_getR (q := (B + 8)) d_X3_append_5 (hB.at 7 (by decide)) f_2_7_0 rfl ?_
  refine ps_alenI (v := 900) d_X3_append_8 (hB.at 8 (by decide)) a_2_8 (by decide) rfl ?_
  refine pm_icmp_ge d_X3_append_9 (fun c2 => ?_) (fun c2 => ?_)
  · replace hK := ps_ifT c2 hK
    have hQ := ps_so hK
    exact ps_vret rfl d_X3_append_32 ⟨rfl, hQ⟩
  · replace hK := ps_ifF c2 hK
    refine pm_ald d_X3_append_12 rfl ?_
    refine ps_getR (q := (B + 8)) d_X3_append_13 (hB.at 7 (by decide)) f_2_7_0 rfl ?_
    refine pm_ald d_X3_append_16 rfl ?_
    refine ps_getI d_X3_append_17 (hB.at 7 (by decide)) f_2_7_1 rfl ?_
    refine ps_topI (fun v3 ev3 => ?_)
    replace hK := ps_ltE ev3 hK
    refine pm_ild d_X3_append_20 rfl ?_
    obtain ⟨b7, hT⟩ := ps_gd hK
    replace hK := hT
    clear hT
    refine ps_iast d_X3_append_21 (hB.at 8 (by decide)) a_2_8 (ps_in_of b7) ?_
    refine ps_nmS (fun σ4 eσ4 => ?_)
    replace hK := ps_ltE eσ4 hK
    refine pm_ald d_X3_append_22 rfl ?_
    refine pm_dup d_X3_append_23 rfl ?_
    refine ps_getI d_X3_append_24 (hB.at 7 (by decide)) f_2_7_1 rfl ?_
    refine ps_topI (fun v5 ev5 => ?_)
    replace hK := ps_ltE ev5 hK
    refine pm_ki d_X3_append_27 ?_
    refine pm_iadd d_X3_append_28 ?_
    refine ps_putI d_X3_append_29 (hB.at 7 (by decide)) f_2_7_1 rfl rfl ?_
    refine ps_nmS (fun σ6 eσ6 => ?_)
    replace hK := ps_ltE eσ6 hK
    have hQ := ps_so hK
    exact ps_vret rfl d_X3_append_32 ⟨rfl, hQ⟩
def qX5_goDeeper  (σ : ps_S) : Option (Int32 × ps_S) :=
  ps_let (σ.1 11 10) fun v1 =>
  if v1 < 6 then
  ps_let (σ.1 11 10) fun v3 =>
  ps_let (ps_rI σ 11 (upd (σ.1 11) 10 ((v3 + 1)))) fun σ4 =>
  ps_bd (qX5_advance σ4) (fun _ σ6 =>
  some (1, σ6))
  else
  ps_bd (qX5_refuse 4 σ) (fun v7 σ8 =>
  if ps_b01 v7 = true then some (v7, σ8) else none)
set_option maxRecDepth 100000 in
theorem C_X5_goDeeper {g : pm_G}  (σ : ps_S) (P : Int32 → ps_S → Prop) (hK : ps_ok (qX5_goDeeper  σ) P) : ps_C g mX5_goDeeper 6 [.ref (g.2.2.1 + 11)] σ (ps_qI P) := by
  unfold qX5_goDeeper at hK
  refine ps_C.of (ls := [some (.ref (g.2.2.1 + 11))]) 0 (by decide) rfl (Nat.le_of_ble_eq_true rfl) rfl ?_
  refine pm_ald d_X5_goDeeper_0 rfl ?_
  refine ps_getI d_X5_goDeeper_1 at_11 f_3_0_10 rfl ?_
  refine ps_topI (fun v1 ev1 => ?_)
  replace hK := ps_ltE ev1 hK
  refine pm_ki d_X5_goDeeper_4 ?_
  refine pm_icmp_lt d_X5_goDeeper_6 (fun c2 => ?_) (fun c2 => ?_)
  · replace hK := ps_ifT c2 hK
    refine pm_ald d_X5_goDeeper_15 rfl ?_
    refine pm_dup d_X5_goDeeper_16 rfl ?_
    refine ps_getI d_X5_goDeeper_17 at_11 f_3_0_10 rfl ?_
    refine ps_topI (fun v3 ev3 => ?_)
    replace hK := ps_ltE ev3 hK
    refine pm_ki d_X5_goDeeper_20 ?_
    refine pm_iadd d_X5_goDeeper_21 ?_
    refine ps_putI d_X5_goDeeper_22 at_11 f_3_0_10 rfl rfl ?_
    refine ps_nmS (fun σ4 eσ4 => ?_)
    replace hK := ps_ltE eσ4 hK
    refine pm_ald d_X5_goDeeper_25 rfl ?_
    refine ps_cVV d_X5_goDeeper_26 mv_X5_advance at_11 ob_3_0 rfl (As := []) rfl rfl (ps_room.of (by omega) (by decide)) (Nat.le_of_ble_eq_true rfl) (C_X5_advance σ4 _ (ps_bdE hK)) ?_
    intro σ6 hT
    clear hK
    have hK := hT
    clear hT
    refine pm_ki d_X5_goDeeper_29 ?_
    have hQ := ps_so hK
    exact ps_zret rfl rfl d_X5_goDeeper_30 ⟨_, rfl, hQ⟩
  · replace hK := ps_ifF c2 hK
    refine pm_ald d_X5_goDeeper_9 rfl ?_
    refine pm_ki d_X5_goDeeper_10 ?_
    refine ps_cVI d_X5_goDeeper_11 mv_X5_refuse at_11 ob_3_0 rfl (As := [.int 4]) rfl rfl (ps_room.of (by omega) (by decide)) (Nat.le_of_ble_eq_true rfl) (C_X5_refuse 4 σ _ (ps_bdE hK)) ?_
    intro v7 σ8 hT
    clear hK
    have hK := hT
    clear hT
    obtain ⟨b9, hT⟩ := ps_gd hK
    have hQ := ps_so hT
    exact ps_zret rfl (ps_nb b9) d_X5_goDeeper_14 ⟨_, rfl, hQ⟩
