def qX8_isWithin (p1 : Int32) (p2 : Int32) (p3 : Int32) (σ : ps_S) : Option (Int32 × ps_S) :=
  if p1 < p2 then
  some (0, σ)
  else
  if p3 < p1 then
  some (0, σ)
  else
  some (1, σ)
set_option maxRecDepth 20000 in
theorem C_X8_isWithin {g : pm_G} (p1 : Int32) (p2 : Int32) (p3 : Int32) (σ : ps_S) (P : Int32 → ps_S → Prop) (hK : ps_ok (qX8_isWithin p1 p2 p3 σ) P) : ps_C g mX8_isWithin 1 [.int p1, .int p2, .int p3] σ (ps_qI P) := by
  unfold qX8_isWithin at hK
  refine ps_C.of (ls := [some (.int p1), some (.int p2), some (.int p3)]) 0 (by decide) rfl (Nat.le_of_ble_eq_true rfl) rfl ?_
  refine pm_ild d_X8_isWithin_0 rfl ?_
  refine pm_ild d_X8_isWithin_1 rfl ?_
  refine pm_icmp_lt d_X8_isWithin_2 (fun c1 => ?_) (fun c1 => ?_)
  · replace hK := ps_ifT c1 hK
    refine pm_ki d_X8_isWithin_14 ?_
    exact ps_zret rfl rfl d_X8_isWithin_15 ⟨_, rfl, hK⟩
  · replace hK := ps_ifF c1 hK
    refine pm_ild d_X8_isWithin_5 rfl ?_
    refine pm_ild d_X8_isWithin_6 rfl ?_
    refine pm_icmp_gt d_X8_isWithin_7 (fun c2 => ?_) (fun c2 => ?_)
    · replace hK := ps_ifT c2 hK
      refine pm_ki d_X8_isWithin_14 ?_
      exact ps_zret rfl rfl d_X8_isWithin_15 ⟨_, rfl, hK⟩
    · replace hK := ps_ifF c2 hK
      refine pm_ki d_X8_isWithin_10 ?_
      refine pm_goto d_X8_isWithin_11 ?_
      exact ps_zret rfl rfl d_X8_isWithin_15 ⟨_, rfl, hK⟩
def qX8_isTray (p1 : Int32) (σ : ps_S) : Option (Int32 × ps_S) :=
  if p1 < 0 then
  some (0, σ)
  else
  if 4 ≤ p1 then
  some (0, σ)
  else
  some (1, σ)
set_option maxRecDepth 20000 in
theorem C_X8_isTray {g : pm_G} (p1 : Int32) (σ : ps_S) (P : Int32 → ps_S → Prop) (hK : ps_ok (qX8_isTray p1 σ) P) : ps_C g mX8_isTray 1 [.int p1] σ (ps_qI P) := by
  unfold qX8_isTray at hK
  refine ps_C.of (ls := [some (.int p1)]) 0 (by decide) rfl (Nat.le_of_ble_eq_true rfl) rfl ?_
  refine pm_ild d_X8_isTray_0 rfl ?_
  refine pm_if_lt d_X8_isTray_1 (fun c1 => ?_) (fun c1 => ?_)
  · replace hK := ps_ifT c1 hK
    refine pm_ki d_X8_isTray_13 ?_
    exact ps_zret rfl rfl d_X8_isTray_14 ⟨_, rfl, hK⟩
  · replace hK := ps_ifF c1 hK
    refine pm_ild d_X8_isTray_4 rfl ?_
    refine pm_ki d_X8_isTray_5 ?_
    refine pm_icmp_ge d_X8_isTray_6 (fun c2 => ?_) (fun c2 => ?_)
    · replace hK := ps_ifT c2 hK
      refine pm_ki d_X8_isTray_13 ?_
      exact ps_zret rfl rfl d_X8_isTray_14 ⟨_, rfl, hK⟩
    · replace hK := ps_ifF c2 hK
      refine pm_ki d_X8_isTray_9 ?_
      refine pm_goto d_X8_isTray_10 ?_
      exact ps_zret rfl rfl d_X8_isTray_14 ⟨_, rfl, hK⟩
def qX8_isDevice (p1 : Int32) (σ : ps_S) : Option (Int32 × ps_S) :=
  if p1 < 0 then
  some (0, σ)
  else
  ps_let (σ.1 12 7) fun v2 =>
  if v2 ≤ p1 then
  some (0, σ)
  else
  some (1, σ)
set_option maxRecDepth 20000 in
theorem C_X8_isDevice {g : pm_G} (p1 : Int32) (σ : ps_S) (P : Int32 → ps_S → Prop) (hK : ps_ok (qX8_isDevice p1 σ) P) : ps_C g mX8_isDevice 1 [.ref (g.2.2.1 + 0), .int p1] σ (ps_qI P) := by
  unfold qX8_isDevice at hK
  refine ps_C.of (ls := [some (.ref (g.2.2.1 + 0)), some (.int p1)]) 0 (by decide) rfl (Nat.le_of_ble_eq_true rfl) rfl ?_
  refine pm_ild d_X8_isDevice_0 rfl ?_
  refine pm_if_lt d_X8_isDevice_1 (fun c1 => ?_) (fun c1 => ?_)
  · replace hK := ps_ifT c1 hK
    refine pm_ki d_X8_isDevice_19 ?_
    exact ps_zret rfl rfl d_X8_isDevice_20 ⟨_, rfl, hK⟩
  · replace hK := ps_ifF c1 hK
    refine pm_ild d_X8_isDevice_4 rfl ?_
    refine pm_ald d_X8_isDevice_5 rfl ?_
    refine ps_getR (q := 12) d_X8_isDevice_6 at_0 f_0_0_4 rfl ?_
    refine ps_getI d_X8_isDevice_9 ps_Ho12.at0 f_2_0_7 rfl ?_
    refine ps_topI (fun v2 ev2 => ?_)
    replace hK := ps_ltE ev2 hK
    refine pm_icmp_ge d_X8_isDevice_12 (fun c3 => ?_) (fun c3 => ?_)
    · replace hK := ps_ifT c3 hK
      refine pm_ki d_X8_isDevice_19 ?_
      exact ps_zret rfl rfl d_X8_isDevice_20 ⟨_, rfl, hK⟩
    · replace hK := ps_ifF c3 hK
      refine pm_ki d_X8_isDevice_15 ?_
      refine pm_goto d_X8_isDevice_16 ?_
      exact ps_zret rfl rfl d_X8_isDevice_20 ⟨_, rfl, hK⟩
def qX8_isWriter (p1 : Int32) (σ : ps_S) : Option (Int32 × ps_S) :=
  if p1 < 0 then
  some (0, σ)
  else
  ps_let (σ.1 12 9) fun v2 =>
  if v2 ≤ p1 then
  some (0, σ)
  else
  some (1, σ)
set_option maxRecDepth 20000 in
theorem C_X8_isWriter {g : pm_G} (p1 : Int32) (σ : ps_S) (P : Int32 → ps_S → Prop) (hK : ps_ok (qX8_isWriter p1 σ) P) : ps_C g mX8_isWriter 1 [.ref (g.2.2.1 + 0), .int p1] σ (ps_qI P) := by
  unfold qX8_isWriter at hK
  refine ps_C.of (ls := [some (.ref (g.2.2.1 + 0)), some (.int p1)]) 0 (by decide) rfl (Nat.le_of_ble_eq_true rfl) rfl ?_
  refine pm_ild d_X8_isWriter_0 rfl ?_
  refine pm_if_lt d_X8_isWriter_1 (fun c1 => ?_) (fun c1 => ?_)
  · replace hK := ps_ifT c1 hK
    refine pm_ki d_X8_isWriter_19 ?_
    exact ps_zret rfl rfl d_X8_isWriter_20 ⟨_, rfl, hK⟩
  · replace hK := ps_ifF c1 hK
    refine pm_ild d_X8_isWriter_4 rfl ?_
    refine pm_ald d_X8_isWriter_5 rfl ?_
    refine ps_getR (q := 12) d_X8_isWriter_6 at_0 f_0_0_4 rfl ?_
    refine ps_getI d_X8_isWriter_9 ps_Ho12.at0 f_2_0_9 rfl ?_
    refine ps_topI (fun v2 ev2 => ?_)
    replace hK := ps_ltE ev2 hK
    refine pm_icmp_ge d_X8_isWriter_12 (fun c3 => ?_) (fun c3 => ?_)
    · replace hK := ps_ifT c3 hK
      refine pm_ki d_X8_isWriter_19 ?_
      exact ps_zret rfl rfl d_X8_isWriter_20 ⟨_, rfl, hK⟩
    · replace hK := ps_ifF c3 hK
      refine pm_ki d_X8_isWriter_15 ?_
      refine pm_goto d_X8_isWriter_16 ?_
      exact ps_zret rfl rfl d_X8_isWriter_20 ⟨_, rfl, hK⟩
def qX8_canTellSpeed (p1 : Int32) (p2 : Int32) (σ : ps_S) : Option (Int32 × ps_S) :=
  ps_bd (qX8_isDevice p1 σ) (fun v1 σ2 =>
  if v1 = 0 then
  some (0, σ2)
  else
  ps_bd (qX8_isWithin p2 0 999 σ2) (fun v4 σ5 =>
  if v4 = 0 then
  some (0, σ5)
  else
  some (1, σ5)))
set_option maxRecDepth 20000 in
theorem C_X8_canTellSpeed {g : pm_G} (p1 : Int32) (p2 : Int32) (σ : ps_S) (P : Int32 → ps_S → Prop) (hK : ps_ok (qX8_canTellSpeed p1 p2 σ) P) : ps_C g mX8_canTellSpeed 2 [.ref (g.2.2.1 + 0), .int p1, .int p2] σ (ps_qI P) := by
  unfold qX8_canTellSpeed at hK
  refine ps_C.of (ls := [some (.ref (g.2.2.1 + 0)), some (.int p1), some (.int p2)]) 0 (by decide) rfl (Nat.le_of_ble_eq_true rfl) rfl ?_
  refine pm_ald d_X8_canTellSpeed_0 rfl ?_
  refine pm_ild d_X8_canTellSpeed_1 rfl ?_
  refine ps_cVI d_X8_canTellSpeed_2 mv_X8_isDevice at_0 ob_0_0 rfl (As := [.int p1]) rfl rfl (ps_room.of (by omega) (by decide)) (Nat.le_of_ble_eq_true rfl) (C_X8_isDevice p1 σ _ (ps_bdE hK)) ?_
  intro v1 σ2 hT
  clear hK
  have hK := hT
  clear hT
  refine pm_if_eq d_X8_canTellSpeed_5 (fun c3 => ?_) (fun c3 => ?_)
  · replace hK := ps_ifT c3 hK
    refine pm_ki d_X8_canTellSpeed_23 ?_
    exact ps_zret rfl rfl d_X8_canTellSpeed_24 ⟨_, rfl, hK⟩
  · replace hK := ps_ifF c3 hK
    refine pm_ild d_X8_canTellSpeed_8 rfl ?_
    refine pm_ki d_X8_canTellSpeed_9 ?_
    refine pm_ki d_X8_canTellSpeed_10 ?_
    refine ps_cSI d_X8_canTellSpeed_13 ms_X8_isWithin (As := [.int p2, .int 0, .int 999]) rfl rfl (ps_room.of (by omega) (by decide)) (Nat.le_of_ble_eq_true rfl) (C_X8_isWithin p2 0 999 σ2 _ (ps_bdE hK)) ?_
    intro v4 σ5 hT
    clear hK
    have hK := hT
    clear hT
    refine pm_if_eq d_X8_canTellSpeed_16 (fun c6 => ?_) (fun c6 => ?_)
    · replace hK := ps_ifT c6 hK
      refine pm_ki d_X8_canTellSpeed_23 ?_
      exact ps_zret rfl rfl d_X8_canTellSpeed_24 ⟨_, rfl, hK⟩
    · replace hK := ps_ifF c6 hK
      refine pm_ki d_X8_canTellSpeed_19 ?_
      refine pm_goto d_X8_canTellSpeed_20 ?_
      exact ps_zret rfl rfl d_X8_canTellSpeed_24 ⟨_, rfl, hK⟩
def qX8_canTellWants (p1 : Int32) (p2 : Int32) (σ : ps_S) : Option (Int32 × ps_S) :=
  ps_bd (qX8_isWriter p1 σ) (fun v1 σ2 =>
  if v1 = 0 then
  some (0, σ2)
  else
  ps_bd (qX8_isWithin p2 0 99 σ2) (fun v4 σ5 =>
  if v4 = 0 then
  some (0, σ5)
  else
  some (1, σ5)))
set_option maxRecDepth 20000 in
theorem C_X8_canTellWants {g : pm_G} (p1 : Int32) (p2 : Int32) (σ : ps_S) (P : Int32 → ps_S → Prop) (hK : ps_ok (qX8_canTellWants p1 p2 σ) P) : ps_C g mX8_canTellWants 2 [.ref (g.2.2.1 + 0), .int p1, .int p2] σ (ps_qI P) := by
  unfold qX8_canTellWants at hK
  refine ps_C.of (ls := [some (.ref (g.2.2.1 + 0)), some (.int p1), some (.int p2)]) 0 (by decide) rfl (Nat.le_of_ble_eq_true rfl) rfl ?_
  refine pm_ald d_X8_canTellWants_0 rfl ?_
  refine pm_ild d_X8_canTellWants_1 rfl ?_
  refine ps_cVI d_X8_canTellWants_2 mv_X8_isWriter at_0 ob_0_0 rfl (As := [.int p1]) rfl rfl (ps_room.of (by omega) (by decide)) (Nat.le_of_ble_eq_true rfl) (C_X8_isWriter p1 σ _ (ps_bdE hK)) ?_
  intro v1 σ2 hT
  clear hK
  have hK := hT
  clear hT
  refine pm_if_eq d_X8_canTellWants_5 (fun c3 => ?_) (fun c3 => ?_)
  · replace hK := ps_ifT c3 hK
    refine pm_ki d_X8_canTellWants_22 ?_
    exact ps_zret rfl rfl d_X8_canTellWants_23 ⟨_, rfl, hK⟩
  · replace hK := ps_ifF c3 hK
    refine pm_ild d_X8_canTellWants_8 rfl ?_
    refine pm_ki d_X8_canTellWants_9 ?_
    refine pm_ki d_X8_canTellWants_10 ?_
    refine ps_cSI d_X8_canTellWants_12 ms_X8_isWithin (As := [.int p2, .int 0, .int 99]) rfl rfl (ps_room.of (by omega) (by decide)) (Nat.le_of_ble_eq_true rfl) (C_X8_isWithin p2 0 99 σ2 _ (ps_bdE hK)) ?_
    intro v4 σ5 hT
    clear hK
    have hK := hT
    clear hT
    refine pm_if_eq d_X8_canTellWants_15 (fun c6 => ?_) (fun c6 => ?_)
    · replace hK := ps_ifT c6 hK
      refine pm_ki d_X8_canTellWants_22 ?_
      exact ps_zret rfl rfl d_X8_canTellWants_23 ⟨_, rfl, hK⟩
    · replace hK := ps_ifF c6 hK
      refine pm_ki d_X8_canTellWants_18 ?_
      refine pm_goto d_X8_canTellWants_19 ?_
      exact ps_zret rfl rfl d_X8_canTellWants_23 ⟨_, rfl, hK⟩
def qX6_sumOf_4 (k1 n1 : Nat) : Nat → Int32 → Int32 → ps_S → Option (((Int32 × Int32)) × ps_S)
  | 0, _, _, _ => none
  | n + 1, x1, x2, σ =>
    if ((Int32.ofNat n1)) ≤ x2 then
    some ((x1, x2), σ)
    else
    if ps_in x2 n1 = true then
    ps_let (σ.1 k1 (x2).toNatClampNeg) fun v2 =>
    ps_let ((x1 + v2)) fun v3 =>
    ps_let (x2 + 1) fun v4 =>
    qX6_sumOf_4 k1 n1 n v3 v4 σ
    else none
set_option maxRecDepth 20000 in
theorem L_X6_sumOf_4 {g : pm_G} (D : Nat) (hD : 1 ≤ D) {P : Int32 → ps_S → Prop} (k1 n1 kd1 b1 o1 : Nat) (ha1 : ps_at k1 kd1 b1 o1) (hf1 : ps_aI kd1 o1 n1 0) : ∀ (n : Nat) (x1 : Int32) (x2 : Int32) (σ : ps_S), ps_ok (qX6_sumOf_4 k1 n1 n x1 x2 σ) (fun res σ => match res with | (x1, x2) => pm_W g mX6_sumOf (ps_F g D (ps_qI P)) 0 0 22 [some (.ref (g.2.2.1 + k1)), some (.int x1), some (.int x2)] [] 345 (ps_E g σ)) → pm_W g mX6_sumOf (ps_F g D (ps_qI P)) 0 0 4 [some (.ref (g.2.2.1 + k1)), some (.int x1), some (.int x2)] [] 345 (ps_E g σ) := by
  intro n
  induction n with
  | zero => intro x1 x2 σ hK; exact hK.elim
  | succ n ih =>
    intro x1 x2 σ hK
    rw [qX6_sumOf_4] at hK
    refine pm_ild d_X6_sumOf_4 rfl ?_
    refine pm_ald d_X6_sumOf_5 rfl ?_
    refine ps_alenI d_X6_sumOf_6 ha1 hf1 (by decide) rfl ?_
    refine pm_icmp_ge d_X6_sumOf_7 (fun c1 => ?_) (fun c1 => ?_)
    · replace hK := ps_ifT c1 hK
      exact hK
    · replace hK := ps_ifF c1 hK
      refine pm_ild d_X6_sumOf_10 rfl ?_
      refine pm_ald d_X6_sumOf_11 rfl ?_
      refine pm_ild d_X6_sumOf_12 rfl ?_
      obtain ⟨b5, hT⟩ := ps_gd hK
      replace hK := hT
      clear hT
      refine ps_iald d_X6_sumOf_13 ha1 hf1 (ps_in_of b5) rfl ?_
      refine ps_topI (fun v2 ev2 => ?_)
      replace hK := ps_ltE ev2 hK
      refine pm_iadd d_X6_sumOf_14 ?_
      refine ps_topI (fun v3 ev3 => ?_)
      replace hK := ps_ltE ev3 hK
      refine pm_ist1 d_X6_sumOf_15 rfl (by decide) ?_
      refine pm_inc2 d_X6_sumOf_16 rfl ?_
      obtain ⟨v4, ev4⟩ : ∃ y : Int32, y = x2 + 1 := ⟨_, rfl⟩
      rw [← ev4]
      replace hK := ps_ltE ev4 hK
      refine pm_goto d_X6_sumOf_19 ?_
      exact ih _ _ _ hK
def qX6_sumOf (k1 n1 : Nat) (σ : ps_S) : Option (Int32 × ps_S) :=
  ps_bd (qX6_sumOf_4 k1 n1 ps_N 0 0 σ) (fun res σ6 => match res with
  | (v7, v8) =>
    some (v7, σ6))
set_option maxRecDepth 20000 in
theorem C_X6_sumOf {g : pm_G} (k1 n1 kd1 b1 o1 : Nat) (ha1 : ps_at k1 kd1 b1 o1) (hf1 : ps_aI kd1 o1 n1 0) (σ : ps_S) (P : Int32 → ps_S → Prop) (hK : ps_ok (qX6_sumOf k1 n1 σ) P) : ps_C g mX6_sumOf 1 [.ref (g.2.2.1 + k1)] σ (ps_qI P) := by
  unfold qX6_sumOf at hK
  refine ps_C.of (ls := [some (.ref (g.2.2.1 + k1)), none, none]) 2 (by decide) rfl (Nat.le_of_ble_eq_true rfl) rfl ?_
  refine pm_ki d_X6_sumOf_0 ?_
  refine pm_ist1 d_X6_sumOf_1 rfl (by decide) ?_
  refine pm_ki d_X6_sumOf_2 ?_
  refine pm_ist2 d_X6_sumOf_3 rfl (by decide) ?_
  refine L_X6_sumOf_4 _ (by decide) k1 n1 kd1 b1 o1 ha1 hf1 _ _ _ _ (ps_ok.mono (ps_bdE hK) ?_)
  rintro ⟨v7, v8⟩ σ6 hT
  clear hK
  have hK := hT
  clear hT
  refine pm_ild d_X6_sumOf_22 rfl ?_
  exact ps_iret rfl d_X6_sumOf_23 ⟨_, rfl, hK⟩
def qX6_ageOf (B : Nat) (p1 : Int32) (σ : ps_S) : Option (Int32 × ps_S) :=
  if ps_in p1 12 = true then
  ps_let (σ.1 (B + 11) (p1).toNatClampNeg) fun v1 =>
  if v1 ≤ 0 then
  some ((-1), σ)
  else
  ps_let (σ.1 B 8) fun v3 =>
  if ps_in p1 12 = true then
  ps_let (σ.1 (B + 12) (p1).toNatClampNeg) fun v4 =>
  some ((v3 - v4), σ)
  else none
  else none
set_option maxRecDepth 20000 in
theorem C_X6_ageOf {g : pm_G} (B : Nat) (hB : ps_St B) (p1 : Int32) (σ : ps_S) (P : Int32 → ps_S → Prop) (hK : ps_ok (qX6_ageOf B p1 σ) P) : ps_C g mX6_ageOf 1 [.ref (g.2.2.1 + B), .int p1] σ (ps_qI P) := by
  unfold qX6_ageOf at hK
  refine ps_C.of (ls := [some (.ref (g.2.2.1 + B)), some (.int p1)]) 0 (by decide) rfl (Nat.le_of_ble_eq_true rfl) rfl ?_
  refine pm_ald d_X6_ageOf_0 rfl ?_
  refine ps_getR (q := (B + 11)) d_X6_ageOf_1 hB.at0 f_5_0_1 rfl ?_
  refine pm_ild d_X6_ageOf_4 rfl ?_
  obtain ⟨b6, hT⟩ := ps_gd hK
  replace hK := hT
  clear hT
  refine ps_iald d_X6_ageOf_5 (hB.at 11 (by decide)) a_5_11 (ps_in_of b6) rfl ?_
  refine ps_topI (fun v1 ev1 => ?_)
  replace hK := ps_ltE ev1 hK
  refine pm_if_le d_X6_ageOf_6 (fun c2 => ?_) (fun c2 => ?_)
  · replace hK := ps_ifT c2 hK
    refine pm_ki d_X6_ageOf_23 ?_
    exact ps_iret rfl d_X6_ageOf_24 ⟨_, rfl, hK⟩
  · replace hK := ps_ifF c2 hK
    refine pm_ald d_X6_ageOf_9 rfl ?_
    refine ps_getI d_X6_ageOf_10 hB.at0 f_5_0_8 rfl ?_
    refine ps_topI (fun v3 ev3 => ?_)
    replace hK := ps_ltE ev3 hK
    refine pm_ald d_X6_ageOf_13 rfl ?_
    refine ps_getR (q := (B + 12)) d_X6_ageOf_14 hB.at0 f_5_0_2 rfl ?_
    refine pm_ild d_X6_ageOf_17 rfl ?_
    obtain ⟨b5, hT⟩ := ps_gd hK
    replace hK := hT
    clear hT
    refine ps_iald d_X6_ageOf_18 (hB.at 12 (by decide)) a_5_12 (ps_in_of b5) rfl ?_
    refine ps_topI (fun v4 ev4 => ?_)
    replace hK := ps_ltE ev4 hK
    refine pm_isub d_X6_ageOf_19 ?_
    refine pm_goto d_X6_ageOf_20 ?_
    exact ps_iret rfl d_X6_ageOf_24 ⟨_, rfl, hK⟩
def qX6_dirtyInAll (B : Nat) (σ : ps_S) : Option (Int32 × ps_S) :=
  ps_bd (qX6_sumOf (B + 4) 4 σ) (fun v1 σ2 =>
  some (v1, σ2))
set_option maxRecDepth 20000 in
theorem C_X6_dirtyInAll {g : pm_G} (B : Nat) (hB : ps_St B) (σ : ps_S) (P : Int32 → ps_S → Prop) (hK : ps_ok (qX6_dirtyInAll B σ) P) : ps_C g mX6_dirtyInAll 2 [.ref (g.2.2.1 + B)] σ (ps_qI P) := by
  unfold qX6_dirtyInAll at hK
  refine ps_C.of (ls := [some (.ref (g.2.2.1 + B))]) 0 (by decide) rfl (Nat.le_of_ble_eq_true rfl) rfl ?_
  refine pm_ald d_X6_dirtyInAll_0 rfl ?_
  refine ps_getR (q := (B + 1)) d_X6_dirtyInAll_1 hB.at0 f_5_0_0 rfl ?_
  refine ps_getR (q := (B + 4)) d_X6_dirtyInAll_4 (hB.at 1 (by decide)) f_5_1_2 rfl ?_
  refine ps_cSI d_X6_dirtyInAll_7 ms_X6_sumOf (As := [.ref (g.2.2.1 + (B + 4))]) rfl rfl (ps_room.of (by omega) (by decide)) (Nat.le_of_ble_eq_true rfl) (C_X6_sumOf (B + 4) 4 5 B 4 (hB.at 4 (by decide)) a_5_4 σ _ (ps_bdE hK)) ?_
  intro v1 σ2 hT
  clear hK
  have hK := hT
  clear hT
  exact ps_iret rfl d_X6_dirtyInAll_10 ⟨_, rfl, hK⟩
def qX0_freeOf (B1 : Nat) (σ : ps_S) : Option (Int32 × ps_S) :=
  ps_let (σ.1 12 1) fun v1 =>
  ps_let (σ.1 B1 10) fun v2 =>
  some ((((v1 + v2)) / 2), σ)
set_option maxRecDepth 20000 in
theorem C_X0_freeOf {g : pm_G} (B1 : Nat) (hB1 : ps_St B1) (σ : ps_S) (P : Int32 → ps_S → Prop) (hK : ps_ok (qX0_freeOf B1 σ) P) : ps_C g mX0_freeOf 1 [.ref (g.2.2.1 + 21), .ref (g.2.2.1 + B1)] σ (ps_qI P) := by
  unfold qX0_freeOf at hK
  refine ps_C.of (ls := [some (.ref (g.2.2.1 + 21)), some (.ref (g.2.2.1 + B1))]) 0 (by decide) rfl (Nat.le_of_ble_eq_true rfl) rfl ?_
  refine pm_ald d_X0_freeOf_0 rfl ?_
  refine ps_getR (q := 12) d_X0_freeOf_1 at_21 f_4_0_0 rfl ?_
  refine ps_getI d_X0_freeOf_4 ps_Ho12.at0 f_2_0_1 rfl ?_
  refine ps_topI (fun v1 ev1 => ?_)
  replace hK := ps_ltE ev1 hK
  refine pm_ald d_X0_freeOf_7 rfl ?_
  refine ps_getI d_X0_freeOf_8 hB1.at0 f_5_0_10 rfl ?_
  refine ps_topI (fun v2 ev2 => ?_)
  replace hK := ps_ltE ev2 hK
  refine pm_iadd d_X0_freeOf_11 ?_
  refine pm_ki d_X0_freeOf_12 ?_
  refine pm_idiv d_X0_freeOf_13 (by decide) ?_
  exact ps_iret rfl d_X0_freeOf_14 ⟨_, rfl, hK⟩
def qX0_isOld (B1 : Nat) (p2 : Int32) (σ : ps_S) : Option (Int32 × ps_S) :=
  if ps_in p2 12 = true then
  ps_let (σ.1 (B1 + 11) (p2).toNatClampNeg) fun v1 =>
  if v1 ≤ 0 then
  some (0, σ)
  else
  ps_let (σ.1 B1 8) fun v3 =>
  if ps_in p2 12 = true then
  ps_let (σ.1 (B1 + 12) (p2).toNatClampNeg) fun v4 =>
  ps_let (σ.1 12 2) fun v5 =>
  if ((v3 - v4)) < v5 then
  some (0, σ)
  else
  some (1, σ)
  else none
  else none
set_option maxRecDepth 20000 in
theorem C_X0_isOld {g : pm_G} (B1 : Nat) (hB1 : ps_St B1) (p2 : Int32) (σ : ps_S) (P : Int32 → ps_S → Prop) (hK : ps_ok (qX0_isOld B1 p2 σ) P) : ps_C g mX0_isOld 1 [.ref (g.2.2.1 + 21), .ref (g.2.2.1 + B1), .int p2] σ (ps_qI P) := by
  unfold qX0_isOld at hK
  refine ps_C.of (ls := [some (.ref (g.2.2.1 + 21)), some (.ref (g.2.2.1 + B1)), some (.int p2)]) 0 (by decide) rfl (Nat.le_of_ble_eq_true rfl) rfl ?_
  refine pm_ald d_X0_isOld_0 rfl ?_
  refine ps_getR (q := (B1 + 11)) d_X0_isOld_1 hB1.at0 f_5_0_1 rfl ?_
  refine pm_ild d_X0_isOld_4 rfl ?_
  obtain ⟨b8, hT⟩ := ps_gd hK
  replace hK := hT
  clear hT
  refine ps_iald d_X0_isOld_5 (hB1.at 11 (by decide)) a_5_11 (ps_in_of b8) rfl ?_
  refine ps_topI (fun v1 ev1 => ?_)
  replace hK := ps_ltE ev1 hK
  refine pm_if_le d_X0_isOld_6 (fun c2 => ?_) (fun c2 => ?_)
  · replace hK := ps_ifT c2 hK
    refine pm_ki d_X0_isOld_34 ?_
    exact ps_zret rfl rfl d_X0_isOld_35 ⟨_, rfl, hK⟩
  · replace hK := ps_ifF c2 hK
    refine pm_ald d_X0_isOld_9 rfl ?_
    refine ps_getI d_X0_isOld_10 hB1.at0 f_5_0_8 rfl ?_
    refine ps_topI (fun v3 ev3 => ?_)
    replace hK := ps_ltE ev3 hK
    refine pm_ald d_X0_isOld_13 rfl ?_
    refine ps_getR (q := (B1 + 12)) d_X0_isOld_14 hB1.at0 f_5_0_2 rfl ?_
    refine pm_ild d_X0_isOld_17 rfl ?_
    obtain ⟨b7, hT⟩ := ps_gd hK
    replace hK := hT
    clear hT
    refine ps_iald d_X0_isOld_18 (hB1.at 12 (by decide)) a_5_12 (ps_in_of b7) rfl ?_
    refine ps_topI (fun v4 ev4 => ?_)
    replace hK := ps_ltE ev4 hK
    refine pm_isub d_X0_isOld_19 ?_
    refine pm_ald d_X0_isOld_20 rfl ?_
    refine ps_getR (q := 12) d_X0_isOld_21 at_21 f_4_0_0 rfl ?_
    refine ps_getI d_X0_isOld_24 ps_Ho12.at0 f_2_0_2 rfl ?_
    refine ps_topI (fun v5 ev5 => ?_)
    replace hK := ps_ltE ev5 hK
    refine pm_icmp_lt d_X0_isOld_27 (fun c6 => ?_) (fun c6 => ?_)
    · replace hK := ps_ifT c6 hK
      refine pm_ki d_X0_isOld_34 ?_
      exact ps_zret rfl rfl d_X0_isOld_35 ⟨_, rfl, hK⟩
    · replace hK := ps_ifF c6 hK
      refine pm_ki d_X0_isOld_30 ?_
      refine pm_goto d_X0_isOld_31 ?_
      exact ps_zret rfl rfl d_X0_isOld_35 ⟨_, rfl, hK⟩
