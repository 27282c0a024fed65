def qX9_isSo_2  : Nat → Int32 → ps_S → Option (((Int32)) × ps_S)
  | 0, _, _ => none
  | n + 1, x1, σ =>
    if 83 ≤ x1 then
    some (x1, σ)
    else
    if ps_in x1 83 = true then
    ps_let (σ.1 335 (x1).toNatClampNeg) fun v2 =>
    if ps_in ((35 + x1)) 5550 = true then
    ps_let (ps_rI σ 328 (upd (σ.1 328) ((35 + x1)).toNatClampNeg v2)) fun σ3 =>
    ps_let (x1 + 1) fun v4 =>
    qX9_isSo_2 n v4 σ3
    else none
    else none
set_option maxRecDepth 100000 in
theorem L_X9_isSo_2 {g : pm_G} (D : Nat) (hD : 1 ≤ D) {P : Unit → ps_S → Prop}  : ∀ (n : Nat) (x1 : Int32) (σ : ps_S), ps_ok (qX9_isSo_2 n x1 σ) (fun res σ => match res with | x1 => pm_W g mX9_isSo (ps_F g D (ps_qV P)) 0 0 29 [some (.ref (g.2.2.1 + 327)), some (.int x1)] [] 345 (ps_E g σ)) → pm_W g mX9_isSo (ps_F g D (ps_qV P)) 0 0 2 [some (.ref (g.2.2.1 + 327)), some (.int x1)] [] 345 (ps_E g σ) := by
  intro n
  induction n with
  | zero => intro x1 σ hK; exact (ps_no hK).elim
  | succ n ih =>
    intro x1 σ hK
    rw [qX9_isSo_2] at hK
    refine pm_ild d_X9_isSo_2 rfl ?_
    refine pm_ki d_X9_isSo_3 ?_
    refine pm_icmp_ge d_X9_isSo_5 (fun c1 => ?_) (fun c1 => ?_)
    · replace hK := ps_ifT c1 hK
      exact ps_so hK
    · replace hK := ps_ifF c1 hK
      refine pm_ald d_X9_isSo_8 rfl ?_
      refine ps_getR (q := 328) d_X9_isSo_9 at_327 f_8_0_1 rfl ?_
      refine pm_ki d_X9_isSo_12 ?_
      refine pm_ild d_X9_isSo_14 rfl ?_
      refine pm_iadd d_X9_isSo_15 ?_
      refine pm_ald d_X9_isSo_16 rfl ?_
      refine ps_getR (q := 335) d_X9_isSo_17 at_327 f_8_0_19 rfl ?_
      refine pm_ild d_X9_isSo_20 rfl ?_
      obtain ⟨b6, hT⟩ := ps_gd hK
      replace hK := hT
      clear hT
      refine ps_iald d_X9_isSo_21 at_335 a_8_8 (ps_in_of b6) rfl ?_
      refine ps_topI (fun v2 ev2 => ?_)
      replace hK := ps_ltE ev2 hK
      obtain ⟨b5, hT⟩ := ps_gd hK
      replace hK := hT
      clear hT
      refine ps_iast d_X9_isSo_22 at_328 a_8_1 (ps_in_of b5) ?_
      refine ps_nmS (fun σ3 eσ3 => ?_)
      replace hK := ps_ltE eσ3 hK
      refine pm_inc1 d_X9_isSo_23 rfl ?_
      obtain ⟨v4, ev4⟩ : ∃ y : Int32, y = x1 + 1 := ⟨_, rfl⟩
      rw [← ev4]
      replace hK := ps_ltE ev4 hK
      refine pm_goto d_X9_isSo_26 ?_
      exact ih _ _ hK
def qX9_isSo_31  : Nat → Int32 → ps_S → Option (((Int32)) × ps_S)
  | 0, _, _ => none
  | n + 1, x1, σ =>
    if 4 ≤ x1 then
    some (x1, σ)
    else
    if ps_in x1 4 = true then
    ps_let (σ.2.2 336 (x1).toNatClampNeg) fun v10 =>
    if ps_in x1 132 = true then
    ps_let (ps_rD σ 329 (vf_upd (σ.2.2 329) (x1).toNatClampNeg v10)) fun σ11 =>
    ps_let (x1 + 1) fun v12 =>
    qX9_isSo_31 n v12 σ11
    else none
    else none
set_option maxRecDepth 100000 in
theorem L_X9_isSo_31 {g : pm_G} (D : Nat) (hD : 1 ≤ D) {P : Unit → ps_S → Prop}  : ∀ (n : Nat) (x1 : Int32) (σ : ps_S), ps_ok (qX9_isSo_31 n x1 σ) (fun res σ => match res with | x1 => pm_W g mX9_isSo (ps_F g D (ps_qV P)) 0 0 54 [some (.ref (g.2.2.1 + 327)), some (.int x1)] [] 345 (ps_E g σ)) → pm_W g mX9_isSo (ps_F g D (ps_qV P)) 0 0 31 [some (.ref (g.2.2.1 + 327)), some (.int x1)] [] 345 (ps_E g σ) := by
  intro n
  induction n with
  | zero => intro x1 σ hK; exact (ps_no hK).elim
  | succ n ih =>
    intro x1 σ hK
    rw [qX9_isSo_31] at hK
    refine pm_ild d_X9_isSo_31 rfl ?_
    refine pm_ki d_X9_isSo_32 ?_
    refine pm_icmp_ge d_X9_isSo_33 (fun c9 => ?_) (fun c9 => ?_)
    · replace hK := ps_ifT c9 hK
      exact ps_so hK
    · replace hK := ps_ifF c9 hK
      refine pm_ald d_X9_isSo_36 rfl ?_
      refine ps_getR (q := 329) d_X9_isSo_37 at_327 f_8_0_2 rfl ?_
      refine pm_ild d_X9_isSo_40 rfl ?_
      refine pm_ald d_X9_isSo_41 rfl ?_
      refine ps_getR (q := 336) d_X9_isSo_42 at_327 f_8_0_20 rfl ?_
      refine pm_ild d_X9_isSo_45 rfl ?_
      obtain ⟨b14, hT⟩ := ps_gd hK
      replace hK := hT
      clear hT
      refine ps_dald d_X9_isSo_46 at_336 a_8_9 (ps_in_of b14) rfl ?_
      refine ps_topD (fun v10 ev10 => ?_)
      replace hK := ps_ltE ev10 hK
      obtain ⟨b13, hT⟩ := ps_gd hK
      replace hK := hT
      clear hT
      refine ps_dast d_X9_isSo_47 at_329 a_8_2 (ps_in_of b13) ?_
      refine ps_nmS (fun σ11 eσ11 => ?_)
      replace hK := ps_ltE eσ11 hK
      refine pm_inc1 d_X9_isSo_48 rfl ?_
      obtain ⟨v12, ev12⟩ : ∃ y : Int32, y = x1 + 1 := ⟨_, rfl⟩
      rw [← ev12]
      replace hK := ps_ltE ev12 hK
      refine pm_goto d_X9_isSo_51 ?_
      exact ih _ _ hK
def qX9_isSo  (σ : ps_S) : Option (Unit × ps_S) :=
  ps_bd (qX9_isSo_2 ps_N 0 σ) (fun res σ7 => match res with
  | v8 =>
    ps_bd (qX9_isSo_31 ps_N 0 σ7) (fun res σ15 => match res with
    | v16 =>
      some ((), σ15)))
set_option maxRecDepth 100000 in
theorem C_X9_isSo {g : pm_G}  (σ : ps_S) (P : Unit → ps_S → Prop) (hK : ps_ok (qX9_isSo  σ) P) : ps_C g mX9_isSo 1 [.ref (g.2.2.1 + 327)] σ (ps_qV P) := by
  unfold qX9_isSo at hK
  refine ps_C.of (ls := [some (.ref (g.2.2.1 + 327)), none]) 1 (by decide) rfl (Nat.le_of_ble_eq_true rfl) rfl ?_
  refine pm_ki d_X9_isSo_0 ?_
  refine pm_ist1 d_X9_isSo_1 rfl (by decide) ?_
  refine L_X9_isSo_2 _ (by decide) _ _ _ (ps_ok.mono (ps_bdE hK) ?_)
  rintro v8 σ7 hT
  clear hK
  have hK := hT
  clear hT
  refine pm_ki d_X9_isSo_29 ?_
  refine pm_ist1 d_X9_isSo_30 rfl (by decide) ?_
  refine L_X9_isSo_31 _ (by decide) _ _ _ (ps_ok.mono (ps_bdE hK) ?_)
  rintro v16 σ15 hT
  clear hK
  have hK := hT
  clear hT
  have hQ := ps_so hK
  exact ps_vret rfl d_X9_isSo_54 ⟨rfl, hQ⟩
def qX9_goesTicks (p1 : Int32) (σ : ps_S) : Option (Int32 × ps_S) :=
  ps_bd (qX9_begins σ) (fun _ σ2 =>
  ps_bd (qX9_wroteInAll σ2) (fun v3 σ4 =>
  ps_bd (qX9_ticksFor p1 σ4) (fun _ σ6 =>
  ps_bd (qX9_isSo σ6) (fun _ σ8 =>
  ps_bd (qX9_wroteInAll σ8) (fun v9 σ10 =>
  some ((v9 - v3), σ10))))))
set_option maxRecDepth 100000 in
theorem C_X9_goesTicks {g : pm_G} (p1 : Int32) (σ : ps_S) (P : Int32 → ps_S → Prop) (hK : ps_ok (qX9_goesTicks p1 σ) P) : ps_C g mX9_goesTicks 7 [.ref (g.2.2.1 + 327), .int p1] σ (ps_qI P) := by
  unfold qX9_goesTicks at hK
  refine ps_C.of (ls := [some (.ref (g.2.2.1 + 327)), some (.int p1), none]) 1 (by decide) rfl (Nat.le_of_ble_eq_true rfl) rfl ?_
  refine pm_ald d_X9_goesTicks_0 rfl ?_
  refine ps_cVV d_X9_goesTicks_1 mv_X9_begins at_327 ob_8_0 rfl (As := []) rfl rfl (ps_room.of (by omega) (by decide)) (Nat.le_of_ble_eq_true rfl) (C_X9_begins σ _ (ps_bdE hK)) ?_
  intro σ2 hT
  clear hK
  have hK := hT
  clear hT
  refine pm_ald d_X9_goesTicks_4 rfl ?_
  refine ps_cVI d_X9_goesTicks_5 mv_X9_wroteInAll at_327 ob_8_0 rfl (As := []) rfl rfl (ps_room.of (by omega) (by decide)) (Nat.le_of_ble_eq_true rfl) (C_X9_wroteInAll σ2 _ (ps_bdE hK)) ?_
  intro v3 σ4 hT
  clear hK
  have hK := hT
  clear hT
  refine pm_ist2 d_X9_goesTicks_8 rfl (by decide) ?_
  refine pm_ald d_X9_goesTicks_9 rfl ?_
  refine pm_ild d_X9_goesTicks_10 rfl ?_
  refine ps_cVV d_X9_goesTicks_11 mv_X9_ticksFor at_327 ob_8_0 rfl (As := [.int p1]) rfl rfl (ps_room.of (by omega) (by decide)) (Nat.le_of_ble_eq_true rfl) (C_X9_ticksFor p1 σ4 _ (ps_bdE hK)) ?_
  intro σ6 hT
  clear hK
  have hK := hT
  clear hT
  refine pm_ald d_X9_goesTicks_14 rfl ?_
  refine ps_cVV d_X9_goesTicks_15 mv_X9_isSo at_327 ob_8_0 rfl (As := []) rfl rfl (ps_room.of (by omega) (by decide)) (Nat.le_of_ble_eq_true rfl) (C_X9_isSo σ6 _ (ps_bdE hK)) ?_
  intro σ8 hT
  clear hK
  have hK := hT
  clear hT
  refine pm_ald d_X9_goesTicks_18 rfl ?_
  refine ps_cVI d_X9_goesTicks_19 mv_X9_wroteInAll at_327 ob_8_0 rfl (As := []) rfl rfl (ps_room.of (by omega) (by decide)) (Nat.le_of_ble_eq_true rfl) (C_X9_wroteInAll σ8 _ (ps_bdE hK)) ?_
  intro v9 σ10 hT
  clear hK
  have hK := hT
  clear hT
  refine pm_ild d_X9_goesTicks_22 rfl ?_
  refine pm_isub d_X9_goesTicks_23 ?_
  have hQ := ps_so hK
  exact ps_iret rfl d_X9_goesTicks_24 ⟨_, rfl, hQ⟩
def qX9_does (p1 : Int32) (σ : ps_S) : Option (Unit × ps_S) :=
  if 100 ≤ p1 then
  if 20000 ≤ p1 then
  if ps_in ((88 + ((((p1 - 20000)) / 100)))) 5550 = true then
  ps_let (ps_rI σ 328 (upd (σ.1 328) ((88 + ((((p1 - 20000)) / 100)))).toNatClampNeg ((p1 - p1 / 100 * 100)))) fun σ3 =>
  some ((), σ3)
  else none
  else
  if ps_in ((60 + ((((p1 - 10000)) / 1000)))) 5550 = true then
  ps_let (ps_rI σ 328 (upd (σ.1 328) ((60 + ((((p1 - 10000)) / 1000)))).toNatClampNeg ((p1 - p1 / 1000 * 1000)))) fun σ5 =>
  some ((), σ5)
  else none
  else
  ps_bd (qX9_goesTicks p1 σ) (fun v7 σ8 =>
  some ((), σ8))
set_option maxRecDepth 100000 in
theorem C_X9_does {g : pm_G} (p1 : Int32) (σ : ps_S) (P : Unit → ps_S → Prop) (hK : ps_ok (qX9_does p1 σ) P) : ps_C g mX9_does 8 [.ref (g.2.2.1 + 327), .int p1] σ (ps_qV P) := by
  unfold qX9_does at hK
  refine ps_C.of (ls := [some (.ref (g.2.2.1 + 327)), some (.int p1)]) 0 (by decide) rfl (Nat.le_of_ble_eq_true rfl) rfl ?_
  refine pm_ild d_X9_does_0 rfl ?_
  refine pm_ki d_X9_does_1 ?_
  refine pm_icmp_ge d_X9_does_3 (fun c1 => ?_) (fun c1 => ?_)
  · replace hK := ps_ifT c1 hK
    refine pm_ild d_X9_does_15 rfl ?_
    refine pm_ki d_X9_does_16 ?_
    refine pm_icmp_ge d_X9_does_19 (fun c2 => ?_) (fun c2 => ?_)
    · replace hK := ps_ifT c2 hK
      refine pm_ald d_X9_does_47 rfl ?_
      refine ps_getR (q := 328) d_X9_does_48 at_327 f_8_0_1 rfl ?_
      refine pm_ki d_X9_does_51 ?_
      refine pm_ild d_X9_does_53 rfl ?_
      refine pm_ki d_X9_does_54 ?_
      refine pm_isub d_X9_does_57 ?_
      refine pm_ki d_X9_does_58 ?_
      refine pm_idiv d_X9_does_60 (by decide) ?_
      refine pm_iadd d_X9_does_61 ?_
      refine pm_ild d_X9_does_62 rfl ?_
      refine pm_ki d_X9_does_63 ?_
      refine pm_irem d_X9_does_65 (by decide) ?_
      obtain ⟨b4, hT⟩ := ps_gd hK
      replace hK := hT
      clear hT
      refine ps_iast d_X9_does_66 at_328 a_8_1 (ps_in_of b4) ?_
      refine ps_nmS (fun σ3 eσ3 => ?_)
      replace hK := ps_ltE eσ3 hK
      have hQ := ps_so hK
      exact ps_vret rfl d_X9_does_67 ⟨rfl, hQ⟩
    · replace hK := ps_ifF c2 hK
      refine pm_ald d_X9_does_22 rfl ?_
      refine ps_getR (q := 328) d_X9_does_23 at_327 f_8_0_1 rfl ?_
      refine pm_ki d_X9_does_26 ?_
      refine pm_ild d_X9_does_28 rfl ?_
      refine pm_ki d_X9_does_29 ?_
      refine pm_isub d_X9_does_32 ?_
      refine pm_ki d_X9_does_33 ?_
      refine pm_idiv d_X9_does_36 (by decide) ?_
      refine pm_iadd d_X9_does_37 ?_
      refine pm_ild d_X9_does_38 rfl ?_
      refine pm_ki d_X9_does_39 ?_
      refine pm_irem d_X9_does_42 (by decide) ?_
      obtain ⟨b6, hT⟩ := ps_gd hK
      replace hK := hT
      clear hT
      refine ps_iast d_X9_does_43 at_328 a_8_1 (ps_in_of b6) ?_
      refine ps_nmS (fun σ5 eσ5 => ?_)
      replace hK := ps_ltE eσ5 hK
      refine pm_goto d_X9_does_44 ?_
      have hQ := ps_so hK
      exact ps_vret rfl d_X9_does_67 ⟨rfl, hQ⟩
  · replace hK := ps_ifF c1 hK
    refine pm_ald d_X9_does_6 rfl ?_
    refine pm_ild d_X9_does_7 rfl ?_
    refine ps_cVI d_X9_does_8 mv_X9_goesTicks at_327 ob_8_0 rfl (As := [.int p1]) rfl rfl (ps_room.of (by omega) (by decide)) (Nat.le_of_ble_eq_true rfl) (C_X9_goesTicks p1 σ _ (ps_bdE hK)) ?_
    intro v7 σ8 hT
    clear hK
    have hK := hT
    clear hT
    refine pm_pop d_X9_does_11 rfl ?_
    refine pm_goto d_X9_does_12 ?_
    have hQ := ps_so hK
    exact ps_vret rfl d_X9_does_67 ⟨rfl, hQ⟩
def qX9_whyNot (p1 : Int64) (σ : ps_S) : Option (Int32 × ps_S) :=
  ps_bd (qX9_within p1 1 99 σ) (fun v1 σ2 =>
  if v1 = 0 then
  ps_bd (qX9_within p1 10000 13999 σ2) (fun v4 σ5 =>
  if v4 = 0 then
  ps_bd (qX9_within p1 20000 20599 σ5) (fun v7 σ8 =>
  if v7 = 0 then
  some (1, σ8)
  else
  ps_bd (qX9_isWriter ((((p1 - 20000)) / 100)) σ8) (fun v10 σ11 =>
  if v10 = 0 then
  some (1, σ11)
  else
  some (0, σ11)))
  else
  ps_bd (qX9_isDevice ((((p1 - 10000)) / 1000)) σ5) (fun v13 σ14 =>
  if v13 = 0 then
  some (1, σ14)
  else
  some (0, σ14)))
  else
  some (0, σ2))
set_option maxRecDepth 100000 in
theorem C_X9_whyNot {g : pm_G} (p1 : Int64) (σ : ps_S) (P : Int32 → ps_S → Prop) (hK : ps_ok (qX9_whyNot p1 σ) P) : ps_C g mX9_whyNot 3 [.ref (g.2.2.1 + 327), .long p1] σ (ps_qI P) := by
  unfold qX9_whyNot at hK
  refine ps_C.of (ls := [some (.ref (g.2.2.1 + 327)), some (.long p1), none]) 0 (by decide) rfl (Nat.le_of_ble_eq_true rfl) rfl ?_
  refine pm_lld d_X9_whyNot_0 rfl ?_
  refine pm_kl d_X9_whyNot_1 ?_
  refine pm_kl d_X9_whyNot_2 ?_
  refine ps_cSI d_X9_whyNot_5 ms_X9_within (As := [.long p1, .long 1, .long 99]) rfl rfl (ps_room.of (by omega) (by decide)) (Nat.le_of_ble_eq_true rfl) (C_X9_within p1 1 99 σ _ (ps_bdE hK)) ?_
  intro v1 σ2 hT
  clear hK
  have hK := hT
  clear hT
  refine pm_if_eq d_X9_whyNot_8 (fun c3 => ?_) (fun c3 => ?_)
  · replace hK := ps_ifT c3 hK
    refine pm_lld d_X9_whyNot_13 rfl ?_
    refine pm_kl d_X9_whyNot_14 ?_
    refine pm_kl d_X9_whyNot_17 ?_
    refine ps_cSI d_X9_whyNot_20 ms_X9_within (As := [.long p1, .long 10000, .long 13999]) rfl rfl (ps_room.of (by omega) (by decide)) (Nat.le_of_ble_eq_true rfl) (C_X9_within p1 10000 13999 σ2 _ (ps_bdE hK)) ?_
    intro v4 σ5 hT
    clear hK
    have hK := hT
    clear hT
    refine pm_if_eq d_X9_whyNot_23 (fun c6 => ?_) (fun c6 => ?_)
    · replace hK := ps_ifT c6 hK
      refine pm_lld d_X9_whyNot_48 rfl ?_
      refine pm_kl d_X9_whyNot_49 ?_
      refine pm_kl d_X9_whyNot_52 ?_
      refine ps_cSI d_X9_whyNot_55 ms_X9_within (As := [.long p1, .long 20000, .long 20599]) rfl rfl (ps_room.of (by omega) (by decide)) (Nat.le_of_ble_eq_true rfl) (C_X9_within p1 20000 20599 σ5 _ (ps_bdE hK)) ?_
      intro v7 σ8 hT
      clear hK
      have hK := hT
      clear hT
      refine pm_if_eq d_X9_whyNot_58 (fun c9 => ?_) (fun c9 => ?_)
      · replace hK := ps_ifT c9 hK
        refine pm_ki d_X9_whyNot_81 ?_
        have hQ := ps_so hK
        exact ps_iret rfl d_X9_whyNot_82 ⟨_, rfl, hQ⟩
      · replace hK := ps_ifF c9 hK
        refine pm_ald d_X9_whyNot_61 rfl ?_
        refine pm_lld d_X9_whyNot_62 rfl ?_
        refine pm_kl d_X9_whyNot_63 ?_
        refine pm_lsub d_X9_whyNot_66 ?_
        refine pm_kl d_X9_whyNot_67 ?_
        refine pm_ldiv d_X9_whyNot_70 (by decide) ?_
        refine ps_cVI d_X9_whyNot_71 mv_X9_isWriter at_327 ob_8_0 rfl (As := [.long (((p1 - 20000)) / 100)]) rfl rfl (ps_room.of (by omega) (by decide)) (Nat.le_of_ble_eq_true rfl) (C_X9_isWriter ((((p1 - 20000)) / 100)) σ8 _ (ps_bdE hK)) ?_
        intro v10 σ11 hT
        clear hK
        have hK := hT
        clear hT
        refine pm_if_eq d_X9_whyNot_74 (fun c12 => ?_) (fun c12 => ?_)
        · replace hK := ps_ifT c12 hK
          refine pm_ki d_X9_whyNot_81 ?_
          have hQ := ps_so hK
          exact ps_iret rfl d_X9_whyNot_82 ⟨_, rfl, hQ⟩
        · replace hK := ps_ifF c12 hK
          refine pm_ki d_X9_whyNot_77 ?_
          refine pm_goto d_X9_whyNot_78 ?_
          have hQ := ps_so hK
          exact ps_iret rfl d_X9_whyNot_82 ⟨_, rfl, hQ⟩
    · replace hK := ps_ifF c6 hK
      refine pm_ald d_X9_whyNot_26 rfl ?_
      refine pm_lld d_X9_whyNot_27 rfl ?_
      refine pm_kl d_X9_whyNot_28 ?_
      refine pm_lsub d_X9_whyNot_31 ?_
      refine pm_kl d_X9_whyNot_32 ?_
      refine pm_ldiv d_X9_whyNot_35 (by decide) ?_
      refine ps_cVI d_X9_whyNot_36 mv_X9_isDevice at_327 ob_8_0 rfl (As := [.long (((p1 - 10000)) / 1000)]) rfl rfl (ps_room.of (by omega) (by decide)) (Nat.le_of_ble_eq_true rfl) (C_X9_isDevice ((((p1 - 10000)) / 1000)) σ5 _ (ps_bdE hK)) ?_
      intro v13 σ14 hT
      clear hK
      have hK := hT
      clear hT
      refine pm_if_eq d_X9_whyNot_39 (fun c15 => ?_) (fun c15 => ?_)
      · replace hK := ps_ifT c15 hK
        refine pm_ki d_X9_whyNot_46 ?_
        have hQ := ps_so hK
        exact ps_iret rfl d_X9_whyNot_47 ⟨_, rfl, hQ⟩
      · replace hK := ps_ifF c15 hK
        refine pm_ki d_X9_whyNot_42 ?_
        refine pm_goto d_X9_whyNot_43 ?_
        have hQ := ps_so hK
        exact ps_iret rfl d_X9_whyNot_47 ⟨_, rfl, hQ⟩
  · replace hK := ps_ifF c3 hK
    refine pm_ki d_X9_whyNot_11 ?_
    have hQ := ps_so hK
    exact ps_iret rfl d_X9_whyNot_12 ⟨_, rfl, hQ⟩
def qX9_tells_7  (y1 : Int32) : Nat → Int32 → ps_S → Option ((Int32 ⊕ (Int32)) × ps_S)
  | 0, _, _ => none
  | n + 1, x2, σ =>
    if ps_in y1 4 = true then
    ps_let (σ.1 343 (y1).toNatClampNeg) fun v2 =>
    if v2 ≤ x2 then
    some (.inr x2, σ)
    else
    if ps_in ((((40 * y1)) + x2)) 160 = true then
    ps_let (σ.2.1 344 ((((40 * y1)) + x2)).toNatClampNeg) fun v4 =>
    ps_bd (qX9_whyNot v4 σ) (fun v5 σ6 =>
    ps_let (ps_rI σ6 327 (upd (σ6.1 327) 28 v5)) fun σ7 =>
    ps_let (σ7.1 327 28) fun v8 =>
    if v8 = 0 then
    if ps_in ((((40 * y1)) + x2)) 160 = true then
    ps_let (σ7.2.1 344 ((((40 * y1)) + x2)).toNatClampNeg) fun v10 =>
    ps_bd (qX9_does (((v10).toInt32)) σ7) (fun _ σ12 =>
    ps_let (x2 + 1) fun v13 =>
    qX9_tells_7 y1 n v13 σ12)
    else none
    else
    some (.inl x2, σ7))
    else none
    else none
set_option maxRecDepth 100000 in
theorem L_X9_tells_7 {g : pm_G} (D : Nat) (hD : 9 ≤ D) {P : Int32 → ps_S → Prop}  (y1 : Int32) : ∀ (n : Nat) (x2 : Int32) (σ : ps_S), ps_ok (qX9_tells_7 y1 n x2 σ) (fun res σ => match res with | .inl r => P r σ | .inr x2 => pm_W g mX9_tells (ps_F g D (ps_qI P)) 0 0 67 [some (.ref (g.2.2.1 + 327)), some (.int y1), some (.int x2)] [] 345 (ps_E g σ)) → pm_W g mX9_tells (ps_F g D (ps_qI P)) 0 0 7 [some (.ref (g.2.2.1 + 327)), some (.int y1), some (.int x2)] [] 345 (ps_E g σ) := by
  intro n
  induction n with
  | zero => intro x2 σ hK; exact (ps_no hK).elim
  | succ n ih =>
    intro x2 σ hK
    rw [qX9_tells_7] at hK
    refine pm_ild d_X9_tells_7 rfl ?_
    refine pm_ald d_X9_tells_8 rfl ?_
    refine ps_getR (q := 343) d_X9_tells_9 at_327 f_8_0_36 rfl ?_
    refine pm_ild d_X9_tells_12 rfl ?_
    obtain ⟨b16, hT⟩ := ps_gd hK
    replace hK := hT
    clear hT
    refine ps_iald d_X9_tells_13 at_343 a_8_16 (ps_in_of b16) rfl ?_
    refine ps_topI (fun v2 ev2 => ?_)
    replace hK := ps_ltE ev2 hK
    refine pm_icmp_ge d_X9_tells_14 (fun c3 => ?_) (fun c3 => ?_)
    · replace hK := ps_ifT c3 hK
      exact ps_so hK
    · replace hK := ps_ifF c3 hK
      refine pm_ald d_X9_tells_17 rfl ?_
      refine pm_ald d_X9_tells_18 rfl ?_
      refine pm_ald d_X9_tells_19 rfl ?_
      refine ps_getR (q := 344) d_X9_tells_20 at_327 f_8_0_37 rfl ?_
      refine pm_ki d_X9_tells_23 ?_
      refine pm_ild d_X9_tells_25 rfl ?_
      refine pm_imul d_X9_tells_26 ?_
      refine pm_ild d_X9_tells_27 rfl ?_
      refine pm_iadd d_X9_tells_28 ?_
      obtain ⟨b15, hT⟩ := ps_gd hK
      replace hK := hT
      clear hT
      refine ps_lald d_X9_tells_29 at_344 a_8_17 (ps_in_of b15) rfl ?_
      refine ps_topL (fun v4 ev4 => ?_)
      replace hK := ps_ltE ev4 hK
      refine ps_cVI d_X9_tells_30 mv_X9_whyNot at_327 ob_8_0 rfl (As := [.long v4]) rfl rfl (ps_room.of (by omega) (by decide)) (Nat.le_of_ble_eq_true rfl) (C_X9_whyNot v4 σ _ (ps_bdE hK)) ?_
      intro v5 σ6 hT
      clear hK
      have hK := hT
      clear hT
      refine ps_putI d_X9_tells_33 at_327 f_8_0_28 rfl rfl ?_
      refine ps_nmS (fun σ7 eσ7 => ?_)
      replace hK := ps_ltE eσ7 hK
      refine pm_ald d_X9_tells_36 rfl ?_
      refine ps_getI d_X9_tells_37 at_327 f_8_0_28 rfl ?_
      refine ps_topI (fun v8 ev8 => ?_)
      replace hK := ps_ltE ev8 hK
      refine pm_if_eq d_X9_tells_40 (fun c9 => ?_) (fun c9 => ?_)
      · replace hK := ps_ifT c9 hK
        refine pm_ald d_X9_tells_45 rfl ?_
        refine pm_ald d_X9_tells_46 rfl ?_
        refine ps_getR (q := 344) d_X9_tells_47 at_327 f_8_0_37 rfl ?_
        refine pm_ki d_X9_tells_50 ?_
        refine pm_ild d_X9_tells_52 rfl ?_
        refine pm_imul d_X9_tells_53 ?_
        refine pm_ild d_X9_tells_54 rfl ?_
        refine pm_iadd d_X9_tells_55 ?_
        obtain ⟨b14, hT⟩ := ps_gd hK
        replace hK := hT
        clear hT
        refine ps_lald d_X9_tells_56 at_344 a_8_17 (ps_in_of b14) rfl ?_
        refine ps_topL (fun v10 ev10 => ?_)
        replace hK := ps_ltE ev10 hK
        refine pm_l2i d_X9_tells_57 ?_
        refine ps_cVV d_X9_tells_58 mv_X9_does at_327 ob_8_0 rfl (As := [.int ((v10).toInt32)]) rfl rfl (ps_room.of (by omega) (by decide)) (Nat.le_of_ble_eq_true rfl) (C_X9_does (((v10).toInt32)) σ7 _ (ps_bdE hK)) ?_
        intro σ12 hT
        clear hK
        have hK := hT
        clear hT
        refine pm_inc2 d_X9_tells_61 rfl ?_
        obtain ⟨v13, ev13⟩ : ∃ y : Int32, y = x2 + 1 := ⟨_, rfl⟩
        rw [← ev13]
        replace hK := ps_ltE ev13 hK
        refine pm_goto d_X9_tells_64 ?_
        exact ih _ _ hK
      · replace hK := ps_ifF c9 hK
        refine pm_ild d_X9_tells_43 rfl ?_
        have hQ := ps_so hK
        exact ps_iret rfl d_X9_tells_44 ⟨_, rfl, hQ⟩
def qX9_tells (p1 : Int32) (σ : ps_S) : Option (Int32 × ps_S) :=
  ps_let (ps_rI σ 327 (upd (σ.1 327) 28 0)) fun σ1 =>
  ps_bd (qX9_tells_7 p1 ps_N 0 σ1) (fun res σ17 => match res with
  | .inl r => some (r, σ17)
  | .inr v18 =>
    if ps_in p1 4 = true then
    ps_let (σ17.1 343 (p1).toNatClampNeg) fun v19 =>
    some (v19, σ17)
    else none)
set_option maxRecDepth 100000 in
theorem C_X9_tells {g : pm_G} (p1 : Int32) (σ : ps_S) (P : Int32 → ps_S → Prop) (hK : ps_ok (qX9_tells p1 σ) P) : ps_C g mX9_tells 9 [.ref (g.2.2.1 + 327), .int p1] σ (ps_qI P) := by
  unfold qX9_tells at hK
  refine ps_C.of (ls := [some (.ref (g.2.2.1 + 327)), some (.int p1), none]) 1 (by decide) rfl (Nat.le_of_ble_eq_true rfl) rfl ?_
  refine pm_ald d_X9_tells_0 rfl ?_
  refine pm_ki d_X9_tells_1 ?_
  refine ps_putI d_X9_tells_2 at_327 f_8_0_28 rfl rfl ?_
  refine ps_nmS (fun σ1 eσ1 => ?_)
  replace hK := ps_ltE eσ1 hK
  refine pm_ki d_X9_tells_5 ?_
  refine pm_ist2 d_X9_tells_6 rfl (by decide) ?_
  refine L_X9_tells_7 _ (by decide) p1 _ _ _ (ps_ok.mono (ps_bdE hK) ?_)
  intro res σ17 hT
  clear hK
  match res, hT with
  | .inl r, hT => exact ps_so hT
  | .inr v18, hT =>
    have hK := hT
    clear hT
    refine pm_ald d_X9_tells_67 rfl ?_
    refine ps_getR (q := 343) d_X9_tells_68 at_327 f_8_0_36 rfl ?_
    refine pm_ild d_X9_tells_71 rfl ?_
    obtain ⟨b20, hT⟩ := ps_gd hK
    replace hK := hT
    clear hT
    refine ps_iald d_X9_tells_72 at_343 a_8_16 (ps_in_of b20) rfl ?_
    refine ps_topI (fun v19 ev19 => ?_)
    replace hK := ps_ltE ev19 hK
    have hQ := ps_so hK
    exact ps_iret rfl d_X9_tells_73 ⟨_, rfl, hQ⟩
def qX9_judge (p1 : Int32) (p2 : Int32) (σ : ps_S) : Option (Int32 × ps_S) :=
  ps_let (ps_rI σ 327 (upd (σ.1 327) 0 0)) fun σ1 =>
  ps_bd (qX9_within (((p2).toInt64)) 0 3 σ1) (fun v2 σ3 =>
  if v2 = 0 then
  some ((-2), σ3)
  else
  ps_bd (qX9_noTray p1 σ3) (fun v5 σ6 =>
  if v5 = 0 then
  ps_bd (qX9_stores σ6) (fun _ σ9 =>
  ps_bd (qX9_tells p1 σ9) (fun v10 σ11 =>
  ps_bd (qX9_begins σ11) (fun _ σ13 =>
  ps_bd (qX9_allNow σ13) (fun v14 σ15 =>
  ps_let (σ15.1 335 0) fun v16 =>
  ps_bd (qX9_isAgain σ15) (fun _ σ18 =>
  if p2 = 0 then
  ps_let (σ18.1 327 28) fun v23 =>
  if v23 = 0 then
  some ((-1), σ18)
  else
  some (v10, σ18)
  else
  if p2 = 1 then
  ps_let (σ18.1 327 28) fun v22 =>
  some (v22, σ18)
  else
  if p2 = 2 then
  some (v14, σ18)
  else
  some (v16, σ18))))))
  else
  some (v5, σ6)))
set_option maxRecDepth 100000 in
theorem C_X9_judge {g : pm_G} (p1 : Int32) (p2 : Int32) (σ : ps_S) (P : Int32 → ps_S → Prop) (hK : ps_ok (qX9_judge p1 p2 σ) P) : ps_C g mX9_judge 10 [.ref (g.2.2.1 + 327), .int p1, .int p2] σ (ps_qI P) := by
  unfold qX9_judge at hK
  refine ps_C.of (ls := [some (.ref (g.2.2.1 + 327)), some (.int p1), some (.int p2), none, none, none, none]) 4 (by decide) rfl (Nat.le_of_ble_eq_true rfl) rfl ?_
  refine pm_ald d_X9_judge_0 rfl ?_
  refine pm_ki d_X9_judge_1 ?_
  refine ps_putI d_X9_judge_2 at_327 f_8_0_0 rfl rfl ?_
  refine ps_nmS (fun σ1 eσ1 => ?_)
  replace hK := ps_ltE eσ1 hK
  refine pm_ild d_X9_judge_5 rfl ?_
  refine pm_i2l d_X9_judge_6 ?_
  refine pm_kl d_X9_judge_7 ?_
  refine pm_kl d_X9_judge_8 ?_
  refine ps_cSI d_X9_judge_11 ms_X9_within (As := [.long ((p2).toInt64), .long 0, .long 3]) rfl rfl (ps_room.of (by omega) (by decide)) (Nat.le_of_ble_eq_true rfl) (C_X9_within (((p2).toInt64)) 0 3 σ1 _ (ps_bdE hK)) ?_
  intro v2 σ3 hT
  clear hK
  have hK := hT
  clear hT
  refine pm_if_ne d_X9_judge_14 (fun c4 => ?_) (fun c4 => ?_)
  · replace hK := ps_ifF c4 hK
    refine pm_ald d_X9_judge_20 rfl ?_
    refine pm_ild d_X9_judge_21 rfl ?_
    refine ps_cVI d_X9_judge_22 mv_X9_noTray at_327 ob_8_0 rfl (As := [.int p1]) rfl rfl (ps_room.of (by omega) (by decide)) (Nat.le_of_ble_eq_true rfl) (C_X9_noTray p1 σ3 _ (ps_bdE hK)) ?_
    intro v5 σ6 hT
    clear hK
    have hK := hT
    clear hT
    refine pm_ist3 d_X9_judge_25 rfl (by decide) ?_
    refine pm_ild d_X9_judge_26 rfl ?_
    refine pm_if_eq d_X9_judge_27 (fun c7 => ?_) (fun c7 => ?_)
    · replace hK := ps_ifT c7 hK
      refine pm_ald d_X9_judge_32 rfl ?_
      refine ps_cVV d_X9_judge_33 mv_X9_stores at_327 ob_8_0 rfl (As := []) rfl rfl (ps_room.of (by omega) (by decide)) (Nat.le_of_ble_eq_true rfl) (C_X9_stores σ6 _ (ps_bdE hK)) ?_
      intro σ9 hT
      clear hK
      have hK := hT
      clear hT
      refine pm_ald d_X9_judge_36 rfl ?_
      refine pm_ild d_X9_judge_37 rfl ?_
      refine ps_cVI d_X9_judge_38 mv_X9_tells at_327 ob_8_0 rfl (As := [.int p1]) rfl rfl (ps_room.of (by omega) (by decide)) (Nat.le_of_ble_eq_true rfl) (C_X9_tells p1 σ9 _ (ps_bdE hK)) ?_
      intro v10 σ11 hT
      clear hK
      have hK := hT
      clear hT
      refine pm_ist4 d_X9_judge_41 rfl (by decide) ?_
      refine pm_ald d_X9_judge_43 rfl ?_
      refine ps_cVV d_X9_judge_44 mv_X9_begins at_327 ob_8_0 rfl (As := []) rfl rfl (ps_room.of (by omega) (by decide)) (Nat.le_of_ble_eq_true rfl) (C_X9_begins σ11 _ (ps_bdE hK)) ?_
      intro σ13 hT
      clear hK
      have hK := hT
      clear hT
      refine pm_ald d_X9_judge_47 rfl ?_
      refine ps_cVI d_X9_judge_48 mv_X9_allNow at_327 ob_8_0 rfl (As := []) rfl rfl (ps_room.of (by omega) (by decide)) (Nat.le_of_ble_eq_true rfl) (C_X9_allNow σ13 _ (ps_bdE hK)) ?_
      intro v14 σ15 hT
      clear hK
      have hK := hT
      clear hT
      refine pm_ist5 d_X9_judge_51 rfl (by decide) ?_
      refine pm_ald d_X9_judge_53 rfl ?_
      refine ps_getR (q := 335) d_X9_judge_54 at_327 f_8_0_19 rfl ?_
      refine pm_ki d_X9_judge_57 ?_
      refine ps_iald (x := σ15.1 335 0) d_X9_judge_58 at_335 a_8_8 (ps_in_of rfl) rfl ?_
      refine ps_topI (fun v16 ev16 => ?_)
      replace hK := ps_ltE ev16 hK
      refine pm_ist6 d_X9_judge_59 rfl (by decide) ?_
      refine pm_ald d_X9_judge_61 rfl ?_
      refine ps_cVV d_X9_judge_62 mv_X9_isAgain at_327 ob_8_0 rfl (As := []) rfl rfl (ps_room.of (by omega) (by decide)) (Nat.le_of_ble_eq_true rfl) (C_X9_isAgain σ15 _ (ps_bdE hK)) ?_
      intro σ18 hT
      clear hK
      have hK := hT
      clear hT
      refine pm_ild d_X9_judge_65 rfl ?_
      refine pm_if_ne d_X9_judge_66 (fun c19 => ?_) (fun c19 => ?_)
      · replace hK := ps_ifF c19 hK
        refine pm_ild d_X9_judge_85 rfl ?_
        refine pm_ki d_X9_judge_86 ?_
        refine pm_icmp_ne d_X9_judge_87 (fun c20 => ?_) (fun c20 => ?_)
        · replace hK := ps_ifF c20 hK
          refine pm_ild d_X9_judge_97 rfl ?_
          refine pm_ki d_X9_judge_98 ?_
          refine pm_icmp_ne d_X9_judge_99 (fun c21 => ?_) (fun c21 => ?_)
          · replace hK := ps_ifF c21 hK
            refine pm_ild d_X9_judge_107 rfl ?_
            have hQ := ps_so hK
            exact ps_iret rfl d_X9_judge_109 ⟨_, rfl, hQ⟩
          · replace hK := ps_ifT c21 hK
            refine pm_ild d_X9_judge_102 rfl ?_
            refine pm_goto d_X9_judge_104 ?_
            have hQ := ps_so hK
            exact ps_iret rfl d_X9_judge_109 ⟨_, rfl, hQ⟩
        · replace hK := ps_ifT c20 hK
          refine pm_ald d_X9_judge_90 rfl ?_
          refine ps_getI d_X9_judge_91 at_327 f_8_0_28 rfl ?_
          refine ps_topI (fun v22 ev22 => ?_)
          replace hK := ps_ltE ev22 hK
          refine pm_goto d_X9_judge_94 ?_
          have hQ := ps_so hK
          exact ps_iret rfl d_X9_judge_109 ⟨_, rfl, hQ⟩
      · replace hK := ps_ifT c19 hK
        refine pm_ald d_X9_judge_69 rfl ?_
        refine ps_getI d_X9_judge_70 at_327 f_8_0_28 rfl ?_
        refine ps_topI (fun v23 ev23 => ?_)
        replace hK := ps_ltE ev23 hK
        refine pm_if_ne d_X9_judge_73 (fun c24 => ?_) (fun c24 => ?_)
        · replace hK := ps_ifF c24 hK
          refine pm_ild d_X9_judge_80 rfl ?_
          refine pm_goto d_X9_judge_82 ?_
          have hQ := ps_so hK
          exact ps_iret rfl d_X9_judge_109 ⟨_, rfl, hQ⟩
        · replace hK := ps_ifT c24 hK
          refine pm_ki d_X9_judge_76 ?_
          refine pm_goto d_X9_judge_77 ?_
          have hQ := ps_so hK
          exact ps_iret rfl d_X9_judge_109 ⟨_, rfl, hQ⟩
    · replace hK := ps_ifF c7 hK
      refine pm_ild d_X9_judge_30 rfl ?_
      have hQ := ps_so hK
      exact ps_iret rfl d_X9_judge_31 ⟨_, rfl, hQ⟩
  · replace hK := ps_ifT c4 hK
    refine pm_ki d_X9_judge_17 ?_
    have hQ := ps_so hK
    exact ps_iret rfl d_X9_judge_19 ⟨_, rfl, hQ⟩
def qX9_later (p1 : Int32) (p2 : Int32) (σ : ps_S) : Option (Int32 × ps_S) :=
  ps_let (ps_rI σ 327 (upd (σ.1 327) 0 0)) fun σ1 =>
  ps_bd (qX9_within (((p2).toInt64)) 0 4 σ1) (fun v2 σ3 =>
  if v2 = 0 then
  some ((-2), σ3)
  else
  ps_bd (qX9_within (((p1).toInt64)) 0 999 σ3) (fun v5 σ6 =>
  if v5 = 0 then
  some ((-3), σ6)
  else
  ps_bd (qX9_begins σ6) (fun _ σ9 =>
  ps_bd (qX9_wroteInAll σ9) (fun v10 σ11 =>
  ps_bd (qX9_sumOf 71 6 σ11) (fun v12 σ13 =>
  ps_bd (qX9_ticksFor p1 σ13) (fun _ σ15 =>
  if p2 = 0 then
  ps_bd (qX9_allNow σ15) (fun v17 σ18 =>
  some (v17, σ18))
  else
  if p2 = 1 then
  ps_bd (qX9_sumOf 1 12 σ15) (fun v20 σ21 =>
  some (v20, σ21))
  else
  if p2 = 2 then
  ps_bd (qX9_sumOf 29 4 σ15) (fun v23 σ24 =>
  some (v23, σ24))
  else
  if p2 = 3 then
  ps_bd (qX9_wroteInAll σ15) (fun v26 σ27 =>
  some ((v26 - v10), σ27))
  else
  ps_bd (qX9_sumOf 71 6 σ15) (fun v28 σ29 =>
  some ((v28 - v12), σ29))))))))
set_option maxRecDepth 100000 in
theorem C_X9_later {g : pm_G} (p1 : Int32) (p2 : Int32) (σ : ps_S) (P : Int32 → ps_S → Prop) (hK : ps_ok (qX9_later p1 p2 σ) P) : ps_C g mX9_later 7 [.ref (g.2.2.1 + 327), .int p1, .int p2] σ (ps_qI P) := by
  unfold qX9_later at hK
  refine ps_C.of (ls := [some (.ref (g.2.2.1 + 327)), some (.int p1), some (.int p2), none, none]) 2 (by decide) rfl (Nat.le_of_ble_eq_true rfl) rfl ?_
  refine pm_ald d_X9_later_0 rfl ?_
  refine pm_ki d_X9_later_1 ?_
  refine ps_putI d_X9_later_2 at_327 f_8_0_0 rfl rfl ?_
  refine ps_nmS (fun σ1 eσ1 => ?_)
  replace hK := ps_ltE eσ1 hK
  refine pm_ild d_X9_later_5 rfl ?_
  refine pm_i2l d_X9_later_6 ?_
  refine pm_kl d_X9_later_7 ?_
  refine pm_kl d_X9_later_8 ?_
  refine ps_cSI d_X9_later_11 ms_X9_within (As := [.long ((p2).toInt64), .long 0, .long 4]) rfl rfl (ps_room.of (by omega) (by decide)) (Nat.le_of_ble_eq_true rfl) (C_X9_within (((p2).toInt64)) 0 4 σ1 _ (ps_bdE hK)) ?_
  intro v2 σ3 hT
  clear hK
  have hK := hT
  clear hT
  refine pm_if_ne d_X9_later_14 (fun c4 => ?_) (fun c4 => ?_)
  · replace hK := ps_ifF c4 hK
    refine pm_ild d_X9_later_20 rfl ?_
    refine pm_i2l d_X9_later_21 ?_
    refine pm_kl d_X9_later_22 ?_
    refine pm_kl d_X9_later_23 ?_
    refine ps_cSI d_X9_later_26 ms_X9_within (As := [.long ((p1).toInt64), .long 0, .long 999]) rfl rfl (ps_room.of (by omega) (by decide)) (Nat.le_of_ble_eq_true rfl) (C_X9_within (((p1).toInt64)) 0 999 σ3 _ (ps_bdE hK)) ?_
    intro v5 σ6 hT
    clear hK
    have hK := hT
    clear hT
    refine pm_if_ne d_X9_later_29 (fun c7 => ?_) (fun c7 => ?_)
    · replace hK := ps_ifF c7 hK
      refine pm_ald d_X9_later_35 rfl ?_
      refine ps_cVV d_X9_later_36 mv_X9_begins at_327 ob_8_0 rfl (As := []) rfl rfl (ps_room.of (by omega) (by decide)) (Nat.le_of_ble_eq_true rfl) (C_X9_begins σ6 _ (ps_bdE hK)) ?_
      intro σ9 hT
      clear hK
      have hK := hT
      clear hT
      refine pm_ald d_X9_later_39 rfl ?_
      refine ps_cVI d_X9_later_40 mv_X9_wroteInAll at_327 ob_8_0 rfl (As := []) rfl rfl (ps_room.of (by omega) (by decide)) (Nat.le_of_ble_eq_true rfl) (C_X9_wroteInAll σ9 _ (ps_bdE hK)) ?_
      intro v10 σ11 hT
      clear hK
      have hK := hT
      clear hT
      refine pm_ist3 d_X9_later_43 rfl (by decide) ?_
      refine pm_ald d_X9_later_44 rfl ?_
      refine pm_ki d_X9_later_45 ?_
      refine pm_ki d_X9_later_47 ?_
      refine ps_cVI d_X9_later_49 mv_X9_sumOf at_327 ob_8_0 rfl (As := [.int 71, .int 6]) rfl rfl (ps_room.of (by omega) (by decide)) (Nat.le_of_ble_eq_true rfl) (C_X9_sumOf 71 6 σ11 _ (ps_bdE hK)) ?_
      intro v12 σ13 hT
      clear hK
      have hK := hT
      clear hT
      refine pm_ist4 d_X9_later_52 rfl (by decide) ?_
      refine pm_ald d_X9_later_54 rfl ?_
      refine pm_ild d_X9_later_55 rfl ?_
      refine ps_cVV d_X9_later_56 mv_X9_ticksFor at_327 ob_8_0 rfl (As := [.int p1]) rfl rfl (ps_room.of (by omega) (by decide)) (Nat.le_of_ble_eq_true rfl) (C_X9_ticksFor p1 σ13 _ (ps_bdE hK)) ?_
      intro σ15 hT
      clear hK
      have hK := hT
      clear hT
      refine pm_ild d_X9_later_59 rfl ?_
      by_cases c16 : p2 = 0
      · replace hK := ps_ifT c16 hK
        refine pm_tabIn (tgt := 92) (off := 32) d_X9_later_60 (by rw [c16]; decide) (by rw [c16]; decide) (by rw [c16]; rfl) (by decide) ?_
        refine pm_ald d_X9_later_92 rfl ?_
        refine ps_cVI d_X9_later_93 mv_X9_allNow at_327 ob_8_0 rfl (As := []) rfl rfl (ps_room.of (by omega) (by decide)) (Nat.le_of_ble_eq_true rfl) (C_X9_allNow σ15 _ (ps_bdE hK)) ?_
        intro v17 σ18 hT
        clear hK
        have hK := hT
        clear hT
        have hQ := ps_so hK
        exact ps_iret rfl d_X9_later_96 ⟨_, rfl, hQ⟩
      replace hK := ps_ifF c16 hK
      by_cases c19 : p2 = 1
      · replace hK := ps_ifT c19 hK
        refine pm_tabIn (tgt := 97) (off := 37) d_X9_later_60 (by rw [c19]; decide) (by rw [c19]; decide) (by rw [c19]; rfl) (by decide) ?_
        refine pm_ald d_X9_later_97 rfl ?_
        refine pm_ki d_X9_later_98 ?_
        refine pm_ki d_X9_later_99 ?_
        refine ps_cVI d_X9_later_101 mv_X9_sumOf at_327 ob_8_0 rfl (As := [.int 1, .int 12]) rfl rfl (ps_room.of (by omega) (by decide)) (Nat.le_of_ble_eq_true rfl) (C_X9_sumOf 1 12 σ15 _ (ps_bdE hK)) ?_
        intro v20 σ21 hT
        clear hK
        have hK := hT
        clear hT
        have hQ := ps_so hK
        exact ps_iret rfl d_X9_later_104 ⟨_, rfl, hQ⟩
      replace hK := ps_ifF c19 hK
      by_cases c22 : p2 = 2
      · replace hK := ps_ifT c22 hK
        refine pm_tabIn (tgt := 105) (off := 45) d_X9_later_60 (by rw [c22]; decide) (by rw [c22]; decide) (by rw [c22]; rfl) (by decide) ?_
        refine pm_ald d_X9_later_105 rfl ?_
        refine pm_ki d_X9_later_106 ?_
        refine pm_ki d_X9_later_108 ?_
        refine ps_cVI d_X9_later_109 mv_X9_sumOf at_327 ob_8_0 rfl (As := [.int 29, .int 4]) rfl rfl (ps_room.of (by omega) (by decide)) (Nat.le_of_ble_eq_true rfl) (C_X9_sumOf 29 4 σ15 _ (ps_bdE hK)) ?_
        intro v23 σ24 hT
        clear hK
        have hK := hT
        clear hT
        have hQ := ps_so hK
        exact ps_iret rfl d_X9_later_112 ⟨_, rfl, hQ⟩
      replace hK := ps_ifF c22 hK
      by_cases c25 : p2 = 3
      · replace hK := ps_ifT c25 hK
        refine pm_tabIn (tgt := 113) (off := 53) d_X9_later_60 (by rw [c25]; decide) (by rw [c25]; decide) (by rw [c25]; rfl) (by decide) ?_
        refine pm_ald d_X9_later_113 rfl ?_
        refine ps_cVI d_X9_later_114 mv_X9_wroteInAll at_327 ob_8_0 rfl (As := []) rfl rfl (ps_room.of (by omega) (by decide)) (Nat.le_of_ble_eq_true rfl) (C_X9_wroteInAll σ15 _ (ps_bdE hK)) ?_
        intro v26 σ27 hT
        clear hK
        have hK := hT
        clear hT
        refine pm_ild d_X9_later_117 rfl ?_
        refine pm_isub d_X9_later_118 ?_
        have hQ := ps_so hK
        exact ps_iret rfl d_X9_later_119 ⟨_, rfl, hQ⟩
      replace hK := ps_ifF c25 hK
      refine pm_tabOut (tgt := 120) d_X9_later_60 (by decide) (ps_swout (lo := 0) (n := 4) (by decide) (by decide) (fun k hk => match k, hk with | 0, _ => c16 | 1, _ => c19 | 2, _ => c22 | 3, _ => c25 | k + 4, hk => absurd hk (by omega))) ?_
      refine pm_ald d_X9_later_120 rfl ?_
      refine pm_ki d_X9_later_121 ?_
      refine pm_ki d_X9_later_123 ?_
      refine ps_cVI d_X9_later_125 mv_X9_sumOf at_327 ob_8_0 rfl (As := [.int 71, .int 6]) rfl rfl (ps_room.of (by omega) (by decide)) (Nat.le_of_ble_eq_true rfl) (C_X9_sumOf 71 6 σ15 _ (ps_bdE hK)) ?_
      intro v28 σ29 hT
      clear hK
      have hK := hT
      clear hT
      refine pm_ild d_X9_later_128 rfl ?_
      refine pm_isub d_X9_later_130 ?_
      have hQ := ps_so hK
      exact ps_iret rfl d_X9_later_131 ⟨_, rfl, hQ⟩
    · replace hK := ps_ifT c7 hK
      refine pm_ki d_X9_later_32 ?_
      have hQ := ps_so hK
      exact ps_iret rfl d_X9_later_34 ⟨_, rfl, hQ⟩
  · replace hK := ps_ifT c4 hK
    refine pm_ki d_X9_later_17 ?_
    have hQ := ps_so hK
    exact ps_iret rfl d_X9_later_19 ⟨_, rfl, hQ⟩
def qX9_cut (p1 : Int64) (p2 : Int32) (σ : ps_S) : Option (Int64 × ps_S) :=
  if p2 = 0 then
  some (((((((p1).toInt32)).toInt8.toInt32)).toInt64), σ)
  else
  if p2 = 1 then
  some (((((((p1).toInt32)).toInt16.toInt32)).toInt64), σ)
  else
  if p2 = 2 then
  some (((((p1).toInt32)).toInt64), σ)
  else
  some (p1, σ)
set_option maxRecDepth 100000 in
theorem C_X9_cut {g : pm_G} (p1 : Int64) (p2 : Int32) (σ : ps_S) (P : Int64 → ps_S → Prop) (hK : ps_ok (qX9_cut p1 p2 σ) P) : ps_C g mX9_cut 1 [.long p1, .int p2] σ (ps_qL P) := by
  unfold qX9_cut at hK
  refine ps_C.of (ls := [some (.long p1), none, some (.int p2)]) 0 (by decide) rfl (Nat.le_of_ble_eq_true rfl) rfl ?_
  refine pm_ild d_X9_cut_0 rfl ?_
  refine pm_if_ne d_X9_cut_1 (fun c1 => ?_) (fun c1 => ?_)
  · replace hK := ps_ifF c1 hK
    refine pm_ild d_X9_cut_11 rfl ?_
    refine pm_ki d_X9_cut_12 ?_
    refine pm_icmp_ne d_X9_cut_13 (fun c2 => ?_) (fun c2 => ?_)
    · replace hK := ps_ifF c2 hK
      refine pm_ild d_X9_cut_23 rfl ?_
      refine pm_ki d_X9_cut_24 ?_
      refine pm_icmp_ne d_X9_cut_25 (fun c3 => ?_) (fun c3 => ?_)
      · replace hK := ps_ifF c3 hK
        refine pm_lld d_X9_cut_34 rfl ?_
        have hQ := ps_so hK
        exact ps_lret rfl d_X9_cut_35 ⟨_, rfl, hQ⟩
      · replace hK := ps_ifT c3 hK
        refine pm_lld d_X9_cut_28 rfl ?_
        refine pm_l2i d_X9_cut_29 ?_
        refine pm_i2l d_X9_cut_30 ?_
        refine pm_goto d_X9_cut_31 ?_
        have hQ := ps_so hK
        exact ps_lret rfl d_X9_cut_35 ⟨_, rfl, hQ⟩
    · replace hK := ps_ifT c2 hK
      refine pm_lld d_X9_cut_16 rfl ?_
      refine pm_l2i d_X9_cut_17 ?_
      refine pm_i2s d_X9_cut_18 ?_
      refine pm_i2l d_X9_cut_19 ?_
      refine pm_goto d_X9_cut_20 ?_
      have hQ := ps_so hK
      exact ps_lret rfl d_X9_cut_35 ⟨_, rfl, hQ⟩
  · replace hK := ps_ifT c1 hK
    refine pm_lld d_X9_cut_4 rfl ?_
    refine pm_l2i d_X9_cut_5 ?_
    refine pm_i2b d_X9_cut_6 ?_
    refine pm_i2l d_X9_cut_7 ?_
    refine pm_goto d_X9_cut_8 ?_
    have hQ := ps_so hK
    exact ps_lret rfl d_X9_cut_35 ⟨_, rfl, hQ⟩
def qX9_lists_48  (y1 : Int32) (y2 : Int32) (y3 : Int32) : Nat → Int32 → ps_S → Option (((Int32)) × ps_S)
  | 0, _, _ => none
  | n + 1, x4, σ =>
    if ps_in y1 4 = true then
    ps_let (σ.1 343 (y1).toNatClampNeg) fun v13 =>
    if v13 ≤ x4 then
    some (x4, σ)
    else
    ps_bd (qX9_spanOf y2 σ) (fun v15 σ16 =>
    if ps_in y1 4 = true then
    ps_let (σ16.1 342 (y1).toNatClampNeg) fun v17 =>
    ps_bd (qX9_cut (((v15).toInt64)) v17 σ16) (fun v18 σ19 =>
    if ps_in ((((40 * y1)) + x4)) 160 = true then
    ps_let (ps_rL σ19 344 (vp_updL (σ19.2.1 344) ((((40 * y1)) + x4)).toNatClampNeg v18)) fun σ20 =>
    ps_let (x4 + 1) fun v21 =>
    qX9_lists_48 y1 y2 y3 n v21 σ20
    else none)
    else none)
    else none
set_option maxRecDepth 100000 in
theorem L_X9_lists_48 {g : pm_G} (D : Nat) (hD : 8 ≤ D) {P : Int32 → ps_S → Prop}  (y1 : Int32) (y2 : Int32) (y3 : Int32) : ∀ (n : Nat) (x4 : Int32) (σ : ps_S), ps_ok (qX9_lists_48 y1 y2 y3 n x4 σ) (fun res σ => match res with | x4 => pm_W g mX9_lists (ps_F g D (ps_qI P)) 0 0 92 [some (.ref (g.2.2.1 + 327)), some (.int y1), some (.int y2), some (.int y3), some (.int x4)] [] 345 (ps_E g σ)) → pm_W g mX9_lists (ps_F g D (ps_qI P)) 0 0 48 [some (.ref (g.2.2.1 + 327)), some (.int y1), some (.int y2), some (.int y3), some (.int x4)] [] 345 (ps_E g σ) := by
  intro n
  induction n with
  | zero => intro x4 σ hK; exact (ps_no hK).elim
  | succ n ih =>
    intro x4 σ hK
    rw [qX9_lists_48] at hK
    refine pm_ild d_X9_lists_48 rfl ?_
    refine pm_ald d_X9_lists_50 rfl ?_
    refine ps_getR (q := 343) d_X9_lists_51 at_327 f_8_0_36 rfl ?_
    refine pm_ild d_X9_lists_54 rfl ?_
    obtain ⟨b24, hT⟩ := ps_gd hK
    replace hK := hT
    clear hT
    refine ps_iald d_X9_lists_55 at_343 a_8_16 (ps_in_of b24) rfl ?_
    refine ps_topI (fun v13 ev13 => ?_)
    replace hK := ps_ltE ev13 hK
    refine pm_icmp_ge d_X9_lists_56 (fun c14 => ?_) (fun c14 => ?_)
    · replace hK := ps_ifT c14 hK
      exact ps_so hK
    · replace hK := ps_ifF c14 hK
      refine pm_ald d_X9_lists_59 rfl ?_
      refine ps_getR (q := 344) d_X9_lists_60 at_327 f_8_0_37 rfl ?_
      refine pm_ki d_X9_lists_63 ?_
      refine pm_ild d_X9_lists_65 rfl ?_
      refine pm_imul d_X9_lists_66 ?_
      refine pm_ild d_X9_lists_67 rfl ?_
      refine pm_iadd d_X9_lists_69 ?_
      refine pm_ald d_X9_lists_70 rfl ?_
      refine pm_ild d_X9_lists_71 rfl ?_
      refine ps_cVI d_X9_lists_72 mv_X9_spanOf at_327 ob_8_0 rfl (As := [.int y2]) rfl rfl (ps_room.of (by omega) (by decide)) (Nat.le_of_ble_eq_true rfl) (C_X9_spanOf y2 σ _ (ps_bdE hK)) ?_
      intro v15 σ16 hT
      clear hK
      have hK := hT
      clear hT
      refine pm_i2l d_X9_lists_75 ?_
      refine pm_ald d_X9_lists_76 rfl ?_
      refine ps_getR (q := 342) d_X9_lists_77 at_327 f_8_0_35 rfl ?_
      refine pm_ild d_X9_lists_80 rfl ?_
      obtain ⟨b23, hT⟩ := ps_gd hK
      replace hK := hT
      clear hT
      refine ps_iald d_X9_lists_81 at_342 a_8_15 (ps_in_of b23) rfl ?_
      refine ps_topI (fun v17 ev17 => ?_)
      replace hK := ps_ltE ev17 hK
      refine ps_cSL d_X9_lists_82 ms_X9_cut (As := [.long ((v15).toInt64), .int v17]) rfl rfl (ps_room.of (by omega) (by decide)) (Nat.le_of_ble_eq_true rfl) (C_X9_cut (((v15).toInt64)) v17 σ16 _ (ps_bdE hK)) ?_
      intro v18 σ19 hT
      clear hK
      have hK := hT
      clear hT
      obtain ⟨b22, hT⟩ := ps_gd hK
      replace hK := hT
      clear hT
      refine ps_last d_X9_lists_85 at_344 a_8_17 (ps_in_of b22) ?_
      refine ps_nmS (fun σ20 eσ20 => ?_)
      replace hK := ps_ltE eσ20 hK
      refine pm_inc4 d_X9_lists_86 rfl ?_
      obtain ⟨v21, ev21⟩ : ∃ y : Int32, y = x4 + 1 := ⟨_, rfl⟩
      rw [← ev21]
      replace hK := ps_ltE ev21 hK
      refine pm_goto d_X9_lists_89 ?_
      exact ih _ _ hK
def qX9_lists (p1 : Int32) (p2 : Int32) (σ : ps_S) : Option (Int32 × ps_S) :=
  ps_let (ps_rI σ 327 (upd (σ.1 327) 0 0)) fun σ1 =>
  ps_bd (qX9_within (((p1).toInt64)) 0 3 σ1) (fun v2 σ3 =>
  if v2 = 0 then
  some ((-2), σ3)
  else
  ps_bd (qX9_isDevice (((p2).toInt64)) σ3) (fun v5 σ6 =>
  if v5 = 0 then
  some ((-2), σ6)
  else
  ps_bd (qX9_noTray p1 σ6) (fun v8 σ9 =>
  if v8 = 0 then
  ps_bd (qX9_begins σ9) (fun _ σ12 =>
  ps_bd (qX9_lists_48 p1 p2 v8 ps_N 0 σ12) (fun res σ25 => match res with
  | v26 =>
    if ps_in p1 4 = true then
    ps_let (σ25.1 343 (p1).toNatClampNeg) fun v27 =>
    some (v27, σ25)
    else none))
  else
  some (v8, σ9))))
set_option maxRecDepth 100000 in
theorem C_X9_lists {g : pm_G} (p1 : Int32) (p2 : Int32) (σ : ps_S) (P : Int32 → ps_S → Prop) (hK : ps_ok (qX9_lists p1 p2 σ) P) : ps_C g mX9_lists 8 [.ref (g.2.2.1 + 327), .int p1, .int p2] σ (ps_qI P) := by
  unfold qX9_lists at hK
  refine ps_C.of (ls := [some (.ref (g.2.2.1 + 327)), some (.int p1), some (.int p2), none, none]) 2 (by decide) rfl (Nat.le_of_ble_eq_true rfl) rfl ?_
  refine pm_ald d_X9_lists_0 rfl ?_
  refine pm_ki d_X9_lists_1 ?_
  refine ps_putI d_X9_lists_2 at_327 f_8_0_0 rfl rfl ?_
  refine ps_nmS (fun σ1 eσ1 => ?_)
  replace hK := ps_ltE eσ1 hK
  refine pm_ild d_X9_lists_5 rfl ?_
  refine pm_i2l d_X9_lists_6 ?_
  refine pm_kl d_X9_lists_7 ?_
  refine pm_kl d_X9_lists_8 ?_
  refine ps_cSI d_X9_lists_11 ms_X9_within (As := [.long ((p1).toInt64), .long 0, .long 3]) rfl rfl (ps_room.of (by omega) (by decide)) (Nat.le_of_ble_eq_true rfl) (C_X9_within (((p1).toInt64)) 0 3 σ1 _ (ps_bdE hK)) ?_
  intro v2 σ3 hT
  clear hK
  have hK := hT
  clear hT
  refine pm_if_eq d_X9_lists_14 (fun c4 => ?_) (fun c4 => ?_)
  · replace hK := ps_ifT c4 hK
    refine pm_ki d_X9_lists_26 ?_
    have hQ := ps_so hK
    exact ps_iret rfl d_X9_lists_28 ⟨_, rfl, hQ⟩
  · replace hK := ps_ifF c4 hK
    refine pm_ald d_X9_lists_17 rfl ?_
    refine pm_ild d_X9_lists_18 rfl ?_
    refine pm_i2l d_X9_lists_19 ?_
    refine ps_cVI d_X9_lists_20 mv_X9_isDevice at_327 ob_8_0 rfl (As := [.long ((p2).toInt64)]) rfl rfl (ps_room.of (by omega) (by decide)) (Nat.le_of_ble_eq_true rfl) (C_X9_isDevice (((p2).toInt64)) σ3 _ (ps_bdE hK)) ?_
    intro v5 σ6 hT
    clear hK
    have hK := hT
    clear hT
    refine pm_if_ne d_X9_lists_23 (fun c7 => ?_) (fun c7 => ?_)
    · replace hK := ps_ifF c7 hK
      refine pm_ald d_X9_lists_29 rfl ?_
      refine pm_ild d_X9_lists_30 rfl ?_
      refine ps_cVI d_X9_lists_31 mv_X9_noTray at_327 ob_8_0 rfl (As := [.int p1]) rfl rfl (ps_room.of (by omega) (by decide)) (Nat.le_of_ble_eq_true rfl) (C_X9_noTray p1 σ6 _ (ps_bdE hK)) ?_
      intro v8 σ9 hT
      clear hK
      have hK := hT
      clear hT
      refine pm_ist3 d_X9_lists_34 rfl (by decide) ?_
      refine pm_ild d_X9_lists_35 rfl ?_
      refine pm_if_eq d_X9_lists_36 (fun c10 => ?_) (fun c10 => ?_)
      · replace hK := ps_ifT c10 hK
        refine pm_ald d_X9_lists_41 rfl ?_
        refine ps_cVV d_X9_lists_42 mv_X9_begins at_327 ob_8_0 rfl (As := []) rfl rfl (ps_room.of (by omega) (by decide)) (Nat.le_of_ble_eq_true rfl) (C_X9_begins σ9 _ (ps_bdE hK)) ?_
        intro σ12 hT
        clear hK
        have hK := hT
        clear hT
        refine pm_ki d_X9_lists_45 ?_
        refine pm_ist4 d_X9_lists_46 rfl (by decide) ?_
        refine L_X9_lists_48 _ (by decide) p1 p2 v8 _ _ _ (ps_ok.mono (ps_bdE hK) ?_)
        rintro v26 σ25 hT
        clear hK
        have hK := hT
        clear hT
        refine pm_ald d_X9_lists_92 rfl ?_
        refine ps_getR (q := 343) d_X9_lists_93 at_327 f_8_0_36 rfl ?_
        refine pm_ild d_X9_lists_96 rfl ?_
        obtain ⟨b28, hT⟩ := ps_gd hK
        replace hK := hT
        clear hT
        refine ps_iald d_X9_lists_97 at_343 a_8_16 (ps_in_of b28) rfl ?_
        refine ps_topI (fun v27 ev27 => ?_)
        replace hK := ps_ltE ev27 hK
        have hQ := ps_so hK
        exact ps_iret rfl d_X9_lists_98 ⟨_, rfl, hQ⟩
      · replace hK := ps_ifF c10 hK
        refine pm_ild d_X9_lists_39 rfl ?_
        have hQ := ps_so hK
        exact ps_iret rfl d_X9_lists_40 ⟨_, rfl, hQ⟩
    · replace hK := ps_ifT c7 hK
      refine pm_ki d_X9_lists_26 ?_
      have hQ := ps_so hK
      exact ps_iret rfl d_X9_lists_28 ⟨_, rfl, hQ⟩
def qX9_draw (p1 : Int32) (σ : ps_S) : Option (Int32 × ps_S) :=
  ps_let (σ.1 327 29) fun v1 =>
  ps_let (ps_rI σ 327 (upd (σ.1 327) 29 ((((1103515245 * v1)) + 12345)))) fun σ2 =>
  ps_let (σ2.1 327 29) fun v3 =>
  if p1 = 0 then none else
  some ((((((v3).toUInt32 >>> ((16).toUInt32 &&& Int32.toUInt32 31)).toInt32)) - ((((v3).toUInt32 >>> ((16).toUInt32 &&& Int32.toUInt32 31)).toInt32)) / p1 * p1), σ2)
set_option maxRecDepth 100000 in
theorem C_X9_draw {g : pm_G} (p1 : Int32) (σ : ps_S) (P : Int32 → ps_S → Prop) (hK : ps_ok (qX9_draw p1 σ) P) : ps_C g mX9_draw 1 [.ref (g.2.2.1 + 327), .int p1] σ (ps_qI P) := by
  unfold qX9_draw at hK
  refine ps_C.of (ls := [some (.ref (g.2.2.1 + 327)), some (.int p1)]) 0 (by decide) rfl (Nat.le_of_ble_eq_true rfl) rfl ?_
  refine pm_ald d_X9_draw_0 rfl ?_
  refine pm_ki d_X9_draw_1 ?_
  refine pm_ald d_X9_draw_4 rfl ?_
  refine ps_getI d_X9_draw_5 at_327 f_8_0_29 rfl ?_
  refine ps_topI (fun v1 ev1 => ?_)
  replace hK := ps_ltE ev1 hK
  refine pm_imul d_X9_draw_8 ?_
  refine pm_ki d_X9_draw_9 ?_
  refine pm_iadd d_X9_draw_12 ?_
  refine ps_putI d_X9_draw_13 at_327 f_8_0_29 rfl rfl ?_
  refine ps_nmS (fun σ2 eσ2 => ?_)
  replace hK := ps_ltE eσ2 hK
  refine pm_ald d_X9_draw_16 rfl ?_
  refine ps_getI d_X9_draw_17 at_327 f_8_0_29 rfl ?_
  refine ps_topI (fun v3 ev3 => ?_)
  replace hK := ps_ltE ev3 hK
  refine pm_ki d_X9_draw_20 ?_
  refine pm_iushr d_X9_draw_22 ?_
  refine pm_ild d_X9_draw_23 rfl ?_
  by_cases z4 : p1 = 0
  · exact (ps_no (ps_ifT z4 hK)).elim
  replace hK := ps_ifF z4 hK
  refine pm_irem d_X9_draw_24 z4 ?_
  have hQ := ps_so hK
  exact ps_iret rfl d_X9_draw_25 ⟨_, rfl, hQ⟩
def qX9_drawn  (σ : ps_S) : Option (Int32 × ps_S) :=
  ps_bd (qX9_draw 4 σ) (fun v1 σ2 =>
  if 2 ≤ v1 then
  if v1 = 2 then
  ps_bd (qX9_draw 4 σ2) (fun v12 σ13 =>
  if v1 = 2 then
  ps_bd (qX9_draw 1000 σ13) (fun v17 σ18 =>
  some ((((10000 + ((1000 * v12)))) + v17), σ18))
  else
  ps_bd (qX9_draw 20 σ13) (fun v15 σ16 =>
  some ((((20000 + ((100 * v12)))) + v15), σ16)))
  else
  ps_bd (qX9_draw 6 σ2) (fun v5 σ6 =>
  if v1 = 2 then
  ps_bd (qX9_draw 1000 σ6) (fun v10 σ11 =>
  some ((((10000 + ((1000 * v5)))) + v10), σ11))
  else
  ps_bd (qX9_draw 20 σ6) (fun v8 σ9 =>
  some ((((20000 + ((100 * v5)))) + v8), σ9)))
  else
  ps_bd (qX9_draw 9 σ2) (fun v19 σ20 =>
  some ((1 + v19), σ20)))
set_option maxRecDepth 100000 in
theorem C_X9_drawn {g : pm_G}  (σ : ps_S) (P : Int32 → ps_S → Prop) (hK : ps_ok (qX9_drawn  σ) P) : ps_C g mX9_drawn 2 [.ref (g.2.2.1 + 327)] σ (ps_qI P) := by
  unfold qX9_drawn at hK
  refine ps_C.of (ls := [some (.ref (g.2.2.1 + 327)), none, none]) 2 (by decide) rfl (Nat.le_of_ble_eq_true rfl) rfl ?_
  refine pm_ald d_X9_drawn_0 rfl ?_
  refine pm_ki d_X9_drawn_1 ?_
  refine ps_cVI d_X9_drawn_2 mv_X9_draw at_327 ob_8_0 rfl (As := [.int 4]) rfl rfl (ps_room.of (by omega) (by decide)) (Nat.le_of_ble_eq_true rfl) (C_X9_draw 4 σ _ (ps_bdE hK)) ?_
  intro v1 σ2 hT
  clear hK
  have hK := hT
  clear hT
  refine pm_ist1 d_X9_drawn_5 rfl (by decide) ?_
  refine pm_ild d_X9_drawn_6 rfl ?_
  refine pm_ki d_X9_drawn_7 ?_
  refine pm_icmp_ge d_X9_drawn_8 (fun c3 => ?_) (fun c3 => ?_)
  · replace hK := ps_ifT c3 hK
    refine pm_ild d_X9_drawn_20 rfl ?_
    refine pm_ki d_X9_drawn_21 ?_
    refine pm_icmp_ne d_X9_drawn_22 (fun c4 => ?_) (fun c4 => ?_)
    · replace hK := ps_ifF c4 hK
      refine pm_ald d_X9_drawn_33 rfl ?_
      refine pm_ki d_X9_drawn_34 ?_
      refine ps_cVI d_X9_drawn_36 mv_X9_draw at_327 ob_8_0 rfl (As := [.int 6]) rfl rfl (ps_room.of (by omega) (by decide)) (Nat.le_of_ble_eq_true rfl) (C_X9_draw 6 σ2 _ (ps_bdE hK)) ?_
      intro v5 σ6 hT
      clear hK
      have hK := hT
      clear hT
      refine pm_ist2 d_X9_drawn_39 rfl (by decide) ?_
      refine pm_ild d_X9_drawn_40 rfl ?_
      refine pm_ki d_X9_drawn_41 ?_
      refine pm_icmp_ne d_X9_drawn_42 (fun c7 => ?_) (fun c7 => ?_)
      · replace hK := ps_ifF c7 hK
        refine pm_ki d_X9_drawn_65 ?_
        refine pm_ki d_X9_drawn_68 ?_
        refine pm_ild d_X9_drawn_70 rfl ?_
        refine pm_imul d_X9_drawn_71 ?_
        refine pm_iadd d_X9_drawn_72 ?_
        refine pm_ald d_X9_drawn_73 rfl ?_
        refine pm_ki d_X9_drawn_74 ?_
        refine ps_cVI d_X9_drawn_76 mv_X9_draw at_327 ob_8_0 rfl (As := [.int 20]) rfl rfl (ps_room.of (by omega) (by decide)) (Nat.le_of_ble_eq_true rfl) (C_X9_draw 20 σ6 _ (ps_bdE hK)) ?_
        intro v8 σ9 hT
        clear hK
        have hK := hT
        clear hT
        refine pm_iadd d_X9_drawn_79 ?_
        have hQ := ps_so hK
        exact ps_iret rfl d_X9_drawn_80 ⟨_, rfl, hQ⟩
      · replace hK := ps_ifT c7 hK
        refine pm_ki d_X9_drawn_45 ?_
        refine pm_ki d_X9_drawn_48 ?_
        refine pm_ild d_X9_drawn_51 rfl ?_
        refine pm_imul d_X9_drawn_52 ?_
        refine pm_iadd d_X9_drawn_53 ?_
        refine pm_ald d_X9_drawn_54 rfl ?_
        refine pm_ki d_X9_drawn_55 ?_
        refine ps_cVI d_X9_drawn_58 mv_X9_draw at_327 ob_8_0 rfl (As := [.int 1000]) rfl rfl (ps_room.of (by omega) (by decide)) (Nat.le_of_ble_eq_true rfl) (C_X9_draw 1000 σ6 _ (ps_bdE hK)) ?_
        intro v10 σ11 hT
        clear hK
        have hK := hT
        clear hT
        refine pm_iadd d_X9_drawn_61 ?_
        refine pm_goto d_X9_drawn_62 ?_
        have hQ := ps_so hK
        exact ps_iret rfl d_X9_drawn_80 ⟨_, rfl, hQ⟩
    · replace hK := ps_ifT c4 hK
      refine pm_ald d_X9_drawn_25 rfl ?_
      refine pm_ki d_X9_drawn_26 ?_
      refine ps_cVI d_X9_drawn_27 mv_X9_draw at_327 ob_8_0 rfl (As := [.int 4]) rfl rfl (ps_room.of (by omega) (by decide)) (Nat.le_of_ble_eq_true rfl) (C_X9_draw 4 σ2 _ (ps_bdE hK)) ?_
      intro v12 σ13 hT
      clear hK
      have hK := hT
      clear hT
      refine pm_goto d_X9_drawn_30 ?_
      refine pm_ist2 d_X9_drawn_39 rfl (by decide) ?_
      refine pm_ild d_X9_drawn_40 rfl ?_
      refine pm_ki d_X9_drawn_41 ?_
      refine pm_icmp_ne d_X9_drawn_42 (fun c14 => ?_) (fun c14 => ?_)
      · replace hK := ps_ifF c14 hK
        refine pm_ki d_X9_drawn_65 ?_
        refine pm_ki d_X9_drawn_68 ?_
        refine pm_ild d_X9_drawn_70 rfl ?_
        refine pm_imul d_X9_drawn_71 ?_
        refine pm_iadd d_X9_drawn_72 ?_
        refine pm_ald d_X9_drawn_73 rfl ?_
        refine pm_ki d_X9_drawn_74 ?_
        refine ps_cVI d_X9_drawn_76 mv_X9_draw at_327 ob_8_0 rfl (As := [.int 20]) rfl rfl (ps_room.of (by omega) (by decide)) (Nat.le_of_ble_eq_true rfl) (C_X9_draw 20 σ13 _ (ps_bdE hK)) ?_
        intro v15 σ16 hT
        clear hK
        have hK := hT
        clear hT
        refine pm_iadd d_X9_drawn_79 ?_
        have hQ := ps_so hK
        exact ps_iret rfl d_X9_drawn_80 ⟨_, rfl, hQ⟩
      · replace hK := ps_ifT c14 hK
        refine pm_ki d_X9_drawn_45 ?_
        refine pm_ki d_X9_drawn_48 ?_
        refine pm_ild d_X9_drawn_51 rfl ?_
        refine pm_imul d_X9_drawn_52 ?_
        refine pm_iadd d_X9_drawn_53 ?_
        refine pm_ald d_X9_drawn_54 rfl ?_
        refine pm_ki d_X9_drawn_55 ?_
        refine ps_cVI d_X9_drawn_58 mv_X9_draw at_327 ob_8_0 rfl (As := [.int 1000]) rfl rfl (ps_room.of (by omega) (by decide)) (Nat.le_of_ble_eq_true rfl) (C_X9_draw 1000 σ13 _ (ps_bdE hK)) ?_
        intro v17 σ18 hT
        clear hK
        have hK := hT
        clear hT
        refine pm_iadd d_X9_drawn_61 ?_
        refine pm_goto d_X9_drawn_62 ?_
        have hQ := ps_so hK
        exact ps_iret rfl d_X9_drawn_80 ⟨_, rfl, hQ⟩
  · replace hK := ps_ifF c3 hK
    refine pm_ki d_X9_drawn_11 ?_
    refine pm_ald d_X9_drawn_12 rfl ?_
    refine pm_ki d_X9_drawn_13 ?_
    refine ps_cVI d_X9_drawn_15 mv_X9_draw at_327 ob_8_0 rfl (As := [.int 9]) rfl rfl (ps_room.of (by omega) (by decide)) (Nat.le_of_ble_eq_true rfl) (C_X9_draw 9 σ2 _ (ps_bdE hK)) ?_
    intro v19 σ20 hT
    clear hK
    have hK := hT
    clear hT
    refine pm_iadd d_X9_drawn_18 ?_
    have hQ := ps_so hK
    exact ps_iret rfl d_X9_drawn_19 ⟨_, rfl, hQ⟩
def qX9_notes_87  : Nat → Int32 → ps_S → Option (((Int32)) × ps_S)
  | 0, _, _ => none
  | n + 1, x1, σ =>
    if 83 ≤ x1 then
    some (x1, σ)
    else
    ps_let (σ.1 328 118) fun v4 =>
    if ps_in x1 83 = true then
    ps_let (σ.1 337 (x1).toNatClampNeg) fun v5 =>
    if ps_in ((((119 + ((83 * v4)))) + x1)) 5550 = true then
    ps_let (ps_rI σ 328 (upd (σ.1 328) ((((119 + ((83 * v4)))) + x1)).toNatClampNeg v5)) fun σ6 =>
    ps_let (x1 + 1) fun v7 =>
    qX9_notes_87 n v7 σ6
    else none
    else none
set_option maxRecDepth 100000 in
theorem L_X9_notes_87 {g : pm_G} (D : Nat) (hD : 1 ≤ D) {P : Unit → ps_S → Prop}  : ∀ (n : Nat) (x1 : Int32) (σ : ps_S), ps_ok (qX9_notes_87 n x1 σ) (fun res σ => match res with | x1 => pm_W g mX9_notes (ps_F g D (ps_qV P)) 0 0 125 [some (.ref (g.2.2.1 + 327)), some (.int x1)] [] 345 (ps_E g σ)) → pm_W g mX9_notes (ps_F g D (ps_qV P)) 0 0 87 [some (.ref (g.2.2.1 + 327)), some (.int x1)] [] 345 (ps_E g σ) := by
  intro n
  induction n with
  | zero => intro x1 σ hK; exact (ps_no hK).elim
  | succ n ih =>
    intro x1 σ hK
    rw [qX9_notes_87] at hK
    refine pm_ild d_X9_notes_87 rfl ?_
    refine pm_ki d_X9_notes_88 ?_
    refine pm_icmp_ge d_X9_notes_90 (fun c3 => ?_) (fun c3 => ?_)
    · replace hK := ps_ifT c3 hK
      exact ps_so hK
    · replace hK := ps_ifF c3 hK
      refine pm_ald d_X9_notes_93 rfl ?_
      refine ps_getR (q := 328) d_X9_notes_94 at_327 f_8_0_1 rfl ?_
      refine pm_ki d_X9_notes_97 ?_
      refine pm_ki d_X9_notes_99 ?_
      refine pm_ald d_X9_notes_101 rfl ?_
      refine ps_getR (q := 328) d_X9_notes_102 at_327 f_8_0_1 rfl ?_
      refine pm_ki d_X9_notes_105 ?_
      refine ps_iald (x := σ.1 328 118) d_X9_notes_107 at_328 a_8_1 (ps_in_of rfl) rfl ?_
      refine ps_topI (fun v4 ev4 => ?_)
      replace hK := ps_ltE ev4 hK
      refine pm_imul d_X9_notes_108 ?_
      refine pm_iadd d_X9_notes_109 ?_
      refine pm_ild d_X9_notes_110 rfl ?_
      refine pm_iadd d_X9_notes_111 ?_
      refine pm_ald d_X9_notes_112 rfl ?_
      refine ps_getR (q := 337) d_X9_notes_113 at_327 f_8_0_26 rfl ?_
      refine pm_ild d_X9_notes_116 rfl ?_
      obtain ⟨b9, hT⟩ := ps_gd hK
      replace hK := hT
      clear hT
      refine ps_iald d_X9_notes_117 at_337 a_8_10 (ps_in_of b9) rfl ?_
      refine ps_topI (fun v5 ev5 => ?_)
      replace hK := ps_ltE ev5 hK
      obtain ⟨b8, hT⟩ := ps_gd hK
      replace hK := hT
      clear hT
      refine ps_iast d_X9_notes_118 at_328 a_8_1 (ps_in_of b8) ?_
      refine ps_nmS (fun σ6 eσ6 => ?_)
      replace hK := ps_ltE eσ6 hK
      refine pm_inc1 d_X9_notes_119 rfl ?_
      obtain ⟨v7, ev7⟩ : ∃ y : Int32, y = x1 + 1 := ⟨_, rfl⟩
      rw [← ev7]
      replace hK := ps_ltE ev7 hK
      refine pm_goto d_X9_notes_122 ?_
      exact ih _ _ hK
def qX9_notes_127  : Nat → Int32 → ps_S → Option (((Int32)) × ps_S)
  | 0, _, _ => none
  | n + 1, x1, σ =>
    if 4 ≤ x1 then
    some (x1, σ)
    else
    ps_let (σ.1 328 118) fun v13 =>
    if ps_in x1 4 = true then
    ps_let (σ.2.2 338 (x1).toNatClampNeg) fun v14 =>
    if ps_in ((((4 + ((4 * v13)))) + x1)) 132 = true then
    ps_let (ps_rD σ 329 (vf_upd (σ.2.2 329) ((((4 + ((4 * v13)))) + x1)).toNatClampNeg v14)) fun σ15 =>
    ps_let (x1 + 1) fun v16 =>
    qX9_notes_127 n v16 σ15
    else none
    else none
set_option maxRecDepth 100000 in
theorem L_X9_notes_127 {g : pm_G} (D : Nat) (hD : 1 ≤ D) {P : Unit → ps_S → Prop}  : ∀ (n : Nat) (x1 : Int32) (σ : ps_S), ps_ok (qX9_notes_127 n x1 σ) (fun res σ => match res with | x1 => pm_W g mX9_notes (ps_F g D (ps_qV P)) 0 0 162 [some (.ref (g.2.2.1 + 327)), some (.int x1)] [] 345 (ps_E g σ)) → pm_W g mX9_notes (ps_F g D (ps_qV P)) 0 0 127 [some (.ref (g.2.2.1 + 327)), some (.int x1)] [] 345 (ps_E g σ) := by
  intro n
  induction n with
  | zero => intro x1 σ hK; exact (ps_no hK).elim
  | succ n ih =>
    intro x1 σ hK
    rw [qX9_notes_127] at hK
    refine pm_ild d_X9_notes_127 rfl ?_
    refine pm_ki d_X9_notes_128 ?_
    refine pm_icmp_ge d_X9_notes_129 (fun c12 => ?_) (fun c12 => ?_)
    · replace hK := ps_ifT c12 hK
      exact ps_so hK
    · replace hK := ps_ifF c12 hK
      refine pm_ald d_X9_notes_132 rfl ?_
      refine ps_getR (q := 329) d_X9_notes_133 at_327 f_8_0_2 rfl ?_
      refine pm_ki d_X9_notes_136 ?_
      refine pm_ki d_X9_notes_137 ?_
      refine pm_ald d_X9_notes_138 rfl ?_
      refine ps_getR (q := 328) d_X9_notes_139 at_327 f_8_0_1 rfl ?_
      refine pm_ki d_X9_notes_142 ?_
      refine ps_iald (x := σ.1 328 118) d_X9_notes_144 at_328 a_8_1 (ps_in_of rfl) rfl ?_
      refine ps_topI (fun v13 ev13 => ?_)
      replace hK := ps_ltE ev13 hK
      refine pm_imul d_X9_notes_145 ?_
      refine pm_iadd d_X9_notes_146 ?_
      refine pm_ild d_X9_notes_147 rfl ?_
      refine pm_iadd d_X9_notes_148 ?_
      refine pm_ald d_X9_notes_149 rfl ?_
      refine ps_getR (q := 338) d_X9_notes_150 at_327 f_8_0_27 rfl ?_
      refine pm_ild d_X9_notes_153 rfl ?_
      obtain ⟨b18, hT⟩ := ps_gd hK
      replace hK := hT
      clear hT
      refine ps_dald d_X9_notes_154 at_338 a_8_11 (ps_in_of b18) rfl ?_
      refine ps_topD (fun v14 ev14 => ?_)
      replace hK := ps_ltE ev14 hK
      obtain ⟨b17, hT⟩ := ps_gd hK
      replace hK := hT
      clear hT
      refine ps_dast d_X9_notes_155 at_329 a_8_2 (ps_in_of b17) ?_
      refine ps_nmS (fun σ15 eσ15 => ?_)
      replace hK := ps_ltE eσ15 hK
      refine pm_inc1 d_X9_notes_156 rfl ?_
      obtain ⟨v16, ev16⟩ : ∃ y : Int32, y = x1 + 1 := ⟨_, rfl⟩
      rw [← ev16]
      replace hK := ps_ltE ev16 hK
      refine pm_goto d_X9_notes_159 ?_
      exact ih _ _ hK
def qX9_notes_14  : Nat → Int32 → ps_S → Option (((Int32)) × ps_S)
  | 0, _, _ => none
  | n + 1, x1, σ =>
    if 747 ≤ x1 then
    some (x1, σ)
    else
    if ps_in ((202 + x1)) 5550 = true then
    ps_let (σ.1 328 ((202 + x1)).toNatClampNeg) fun v24 =>
    if ps_in ((119 + x1)) 5550 = true then
    ps_let (ps_rI σ 328 (upd (σ.1 328) ((119 + x1)).toNatClampNeg v24)) fun σ25 =>
    ps_let (x1 + 1) fun v26 =>
    qX9_notes_14 n v26 σ25
    else none
    else none
set_option maxRecDepth 100000 in
theorem L_X9_notes_14 {g : pm_G} (D : Nat) (hD : 1 ≤ D) {P : Unit → ps_S → Prop}  : ∀ (n : Nat) (x1 : Int32) (σ : ps_S), ps_ok (qX9_notes_14 n x1 σ) (fun res σ => match res with | x1 => pm_W g mX9_notes (ps_F g D (ps_qV P)) 0 0 46 [some (.ref (g.2.2.1 + 327)), some (.int x1)] [] 345 (ps_E g σ)) → pm_W g mX9_notes (ps_F g D (ps_qV P)) 0 0 14 [some (.ref (g.2.2.1 + 327)), some (.int x1)] [] 345 (ps_E g σ) := by
  intro n
  induction n with
  | zero => intro x1 σ hK; exact (ps_no hK).elim
  | succ n ih =>
    intro x1 σ hK
    rw [qX9_notes_14] at hK
    refine pm_ild d_X9_notes_14 rfl ?_
    refine pm_ki d_X9_notes_15 ?_
    refine pm_icmp_ge d_X9_notes_18 (fun c23 => ?_) (fun c23 => ?_)
    · replace hK := ps_ifT c23 hK
      exact ps_so hK
    · replace hK := ps_ifF c23 hK
      refine pm_ald d_X9_notes_21 rfl ?_
      refine ps_getR (q := 328) d_X9_notes_22 at_327 f_8_0_1 rfl ?_
      refine pm_ki d_X9_notes_25 ?_
      refine pm_ild d_X9_notes_27 rfl ?_
      refine pm_iadd d_X9_notes_28 ?_
      refine pm_ald d_X9_notes_29 rfl ?_
      refine ps_getR (q := 328) d_X9_notes_30 at_327 f_8_0_1 rfl ?_
      refine pm_ki d_X9_notes_33 ?_
      refine pm_ild d_X9_notes_36 rfl ?_
      refine pm_iadd d_X9_notes_37 ?_
      obtain ⟨b28, hT⟩ := ps_gd hK
      replace hK := hT
      clear hT
      refine ps_iald d_X9_notes_38 at_328 a_8_1 (ps_in_of b28) rfl ?_
      refine ps_topI (fun v24 ev24 => ?_)
      replace hK := ps_ltE ev24 hK
      obtain ⟨b27, hT⟩ := ps_gd hK
      replace hK := hT
      clear hT
      refine ps_iast d_X9_notes_39 at_328 a_8_1 (ps_in_of b27) ?_
      refine ps_nmS (fun σ25 eσ25 => ?_)
      replace hK := ps_ltE eσ25 hK
      refine pm_inc1 d_X9_notes_40 rfl ?_
      obtain ⟨v26, ev26⟩ : ∃ y : Int32, y = x1 + 1 := ⟨_, rfl⟩
      rw [← ev26]
      replace hK := ps_ltE ev26 hK
      refine pm_goto d_X9_notes_43 ?_
      exact ih _ _ hK
def qX9_notes_48  : Nat → Int32 → ps_S → Option (((Int32)) × ps_S)
  | 0, _, _ => none
  | n + 1, x1, σ =>
    if 40 ≤ x1 then
    some (x1, σ)
    else
    if ps_in ((x1 + 4)) 132 = true then
    ps_let (σ.2.2 329 ((x1 + 4)).toNatClampNeg) fun v32 =>
    if ps_in x1 132 = true then
    ps_let (ps_rD σ 329 (vf_upd (σ.2.2 329) (x1).toNatClampNeg v32)) fun σ33 =>
    ps_let (x1 + 1) fun v34 =>
    qX9_notes_48 n v34 σ33
    else none
    else none
set_option maxRecDepth 100000 in
theorem L_X9_notes_48 {g : pm_G} (D : Nat) (hD : 1 ≤ D) {P : Unit → ps_S → Prop}  : ∀ (n : Nat) (x1 : Int32) (σ : ps_S), ps_ok (qX9_notes_48 n x1 σ) (fun res σ => match res with | x1 => pm_W g mX9_notes (ps_F g D (ps_qV P)) 0 0 74 [some (.ref (g.2.2.1 + 327)), some (.int x1)] [] 345 (ps_E g σ)) → pm_W g mX9_notes (ps_F g D (ps_qV P)) 0 0 48 [some (.ref (g.2.2.1 + 327)), some (.int x1)] [] 345 (ps_E g σ) := by
  intro n
  induction n with
  | zero => intro x1 σ hK; exact (ps_no hK).elim
  | succ n ih =>
    intro x1 σ hK
    rw [qX9_notes_48] at hK
    refine pm_ild d_X9_notes_48 rfl ?_
    refine pm_ki d_X9_notes_49 ?_
    refine pm_icmp_ge d_X9_notes_51 (fun c31 => ?_) (fun c31 => ?_)
    · replace hK := ps_ifT c31 hK
      exact ps_so hK
    · replace hK := ps_ifF c31 hK
      refine pm_ald d_X9_notes_54 rfl ?_
      refine ps_getR (q := 329) d_X9_notes_55 at_327 f_8_0_2 rfl ?_
      refine pm_ild d_X9_notes_58 rfl ?_
      refine pm_ald d_X9_notes_59 rfl ?_
      refine ps_getR (q := 329) d_X9_notes_60 at_327 f_8_0_2 rfl ?_
      refine pm_ild d_X9_notes_63 rfl ?_
      refine pm_ki d_X9_notes_64 ?_
      refine pm_iadd d_X9_notes_65 ?_
      obtain ⟨b36, hT⟩ := ps_gd hK
      replace hK := hT
      clear hT
      refine ps_dald d_X9_notes_66 at_329 a_8_2 (ps_in_of b36) rfl ?_
      refine ps_topD (fun v32 ev32 => ?_)
      replace hK := ps_ltE ev32 hK
      obtain ⟨b35, hT⟩ := ps_gd hK
      replace hK := hT
      clear hT
      refine ps_dast d_X9_notes_67 at_329 a_8_2 (ps_in_of b35) ?_
      refine ps_nmS (fun σ33 eσ33 => ?_)
      replace hK := ps_ltE eσ33 hK
      refine pm_inc1 d_X9_notes_68 rfl ?_
      obtain ⟨v34, ev34⟩ : ∃ y : Int32, y = x1 + 1 := ⟨_, rfl⟩
      rw [← ev34]
      replace hK := ps_ltE ev34 hK
      refine pm_goto d_X9_notes_71 ?_
      exact ih _ _ hK
def qX9_notes  (σ : ps_S) : Option (Unit × ps_S) :=
  ps_let (σ.1 328 118) fun v1 =>
  if v1 = 10 then
  ps_bd (qX9_notes_14 ps_N 0 σ) (fun res σ29 => match res with
  | v30 =>
    ps_bd (qX9_notes_48 ps_N 4 σ29) (fun res σ37 => match res with
    | v38 =>
      ps_let (σ37.1 328 118) fun v39 =>
      ps_let (ps_rI σ37 328 (upd (σ37.1 328) 118 ((v39 - 1)))) fun σ40 =>
      ps_bd (qX9_notes_87 ps_N 0 σ40) (fun res σ41 => match res with
      | v42 =>
        ps_bd (qX9_notes_127 ps_N 0 σ41) (fun res σ43 => match res with
        | v44 =>
          ps_let (σ43.1 328 118) fun v45 =>
          ps_let (ps_rI σ43 328 (upd (σ43.1 328) 118 ((v45 + 1)))) fun σ46 =>
          some ((), σ46)))))
  else
  ps_bd (qX9_notes_87 ps_N 0 σ) (fun res σ10 => match res with
  | v11 =>
    ps_bd (qX9_notes_127 ps_N 0 σ10) (fun res σ19 => match res with
    | v20 =>
      ps_let (σ19.1 328 118) fun v21 =>
      ps_let (ps_rI σ19 328 (upd (σ19.1 328) 118 ((v21 + 1)))) fun σ22 =>
      some ((), σ22)))
set_option maxRecDepth 100000 in
theorem C_X9_notes {g : pm_G}  (σ : ps_S) (P : Unit → ps_S → Prop) (hK : ps_ok (qX9_notes  σ) P) : ps_C g mX9_notes 1 [.ref (g.2.2.1 + 327)] σ (ps_qV P) := by
  unfold qX9_notes at hK
  refine ps_C.of (ls := [some (.ref (g.2.2.1 + 327)), none]) 1 (by decide) rfl (Nat.le_of_ble_eq_true rfl) rfl ?_
  refine pm_ald d_X9_notes_0 rfl ?_
  refine ps_getR (q := 328) d_X9_notes_1 at_327 f_8_0_1 rfl ?_
  refine pm_ki d_X9_notes_4 ?_
  refine ps_iald (x := σ.1 328 118) d_X9_notes_6 at_328 a_8_1 (ps_in_of rfl) rfl ?_
  refine ps_topI (fun v1 ev1 => ?_)
  replace hK := ps_ltE ev1 hK
  refine pm_ki d_X9_notes_7 ?_
  refine pm_icmp_ne d_X9_notes_9 (fun c2 => ?_) (fun c2 => ?_)
  · replace hK := ps_ifF c2 hK
    refine pm_ki d_X9_notes_85 ?_
    refine pm_ist1 d_X9_notes_86 rfl (by decide) ?_
    refine L_X9_notes_87 _ (by decide) _ _ _ (ps_ok.mono (ps_bdE hK) ?_)
    rintro v11 σ10 hT
    clear hK
    have hK := hT
    clear hT
    refine pm_ki d_X9_notes_125 ?_
    refine pm_ist1 d_X9_notes_126 rfl (by decide) ?_
    refine L_X9_notes_127 _ (by decide) _ _ _ (ps_ok.mono (ps_bdE hK) ?_)
    rintro v20 σ19 hT
    clear hK
    have hK := hT
    clear hT
    refine pm_ald d_X9_notes_162 rfl ?_
    refine ps_getR (q := 328) d_X9_notes_163 at_327 f_8_0_1 rfl ?_
    refine pm_ki d_X9_notes_166 ?_
    refine pm_dup2 d_X9_notes_168 rfl rfl ?_
    refine ps_iald (x := σ19.1 328 118) d_X9_notes_169 at_328 a_8_1 (ps_in_of rfl) rfl ?_
    refine ps_topI (fun v21 ev21 => ?_)
    replace hK := ps_ltE ev21 hK
    refine pm_ki d_X9_notes_170 ?_
    refine pm_iadd d_X9_notes_171 ?_
    refine ps_iast d_X9_notes_172 at_328 a_8_1 (ps_in_of rfl) ?_
    refine ps_nmS (fun σ22 eσ22 => ?_)
    replace hK := ps_ltE eσ22 hK
    have hQ := ps_so hK
    exact ps_vret rfl d_X9_notes_173 ⟨rfl, hQ⟩
  · replace hK := ps_ifT c2 hK
    refine pm_ki d_X9_notes_12 ?_
    refine pm_ist1 d_X9_notes_13 rfl (by decide) ?_
    refine L_X9_notes_14 _ (by decide) _ _ _ (ps_ok.mono (ps_bdE hK) ?_)
    rintro v30 σ29 hT
    clear hK
    have hK := hT
    clear hT
    refine pm_ki d_X9_notes_46 ?_
    refine pm_ist1 d_X9_notes_47 rfl (by decide) ?_
    refine L_X9_notes_48 _ (by decide) _ _ _ (ps_ok.mono (ps_bdE hK) ?_)
    rintro v38 σ37 hT
    clear hK
    have hK := hT
    clear hT
    refine pm_ald d_X9_notes_74 rfl ?_
    refine ps_getR (q := 328) d_X9_notes_75 at_327 f_8_0_1 rfl ?_
    refine pm_ki d_X9_notes_78 ?_
    refine pm_dup2 d_X9_notes_80 rfl rfl ?_
    refine ps_iald (x := σ37.1 328 118) d_X9_notes_81 at_328 a_8_1 (ps_in_of rfl) rfl ?_
    refine ps_topI (fun v39 ev39 => ?_)
    replace hK := ps_ltE ev39 hK
    refine pm_ki d_X9_notes_82 ?_
    refine pm_isub d_X9_notes_83 ?_
    refine ps_iast d_X9_notes_84 at_328 a_8_1 (ps_in_of rfl) ?_
    refine ps_nmS (fun σ40 eσ40 => ?_)
    replace hK := ps_ltE eσ40 hK
    refine pm_ki d_X9_notes_85 ?_
    refine pm_ist1 d_X9_notes_86 rfl (by decide) ?_
    refine L_X9_notes_87 _ (by decide) _ _ _ (ps_ok.mono (ps_bdE hK) ?_)
    rintro v42 σ41 hT
    clear hK
    have hK := hT
    clear hT
    refine pm_ki d_X9_notes_125 ?_
    refine pm_ist1 d_X9_notes_126 rfl (by decide) ?_
    refine L_X9_notes_127 _ (by decide) _ _ _ (ps_ok.mono (ps_bdE hK) ?_)
    rintro v44 σ43 hT
    clear hK
    have hK := hT
    clear hT
    refine pm_ald d_X9_notes_162 rfl ?_
    refine ps_getR (q := 328) d_X9_notes_163 at_327 f_8_0_1 rfl ?_
    refine pm_ki d_X9_notes_166 ?_
    refine pm_dup2 d_X9_notes_168 rfl rfl ?_
    refine ps_iald (x := σ43.1 328 118) d_X9_notes_169 at_328 a_8_1 (ps_in_of rfl) rfl ?_
    refine ps_topI (fun v45 ev45 => ?_)
    replace hK := ps_ltE ev45 hK
    refine pm_ki d_X9_notes_170 ?_
    refine pm_iadd d_X9_notes_171 ?_
    refine ps_iast d_X9_notes_172 at_328 a_8_1 (ps_in_of rfl) ?_
    refine ps_nmS (fun σ46 eσ46 => ?_)
    replace hK := ps_ltE eσ46 hK
    have hQ := ps_so hK
    exact ps_vret rfl d_X9_notes_173 ⟨rfl, hQ⟩
def qX9_load_34  (y1 : Int32) (y2 : Int32) : Nat → Int32 → Int32 → ps_S → Option (((Int32 × Int32)) × ps_S)
  | 0, _, _, _ => none
  | n + 1, x3, x4, σ =>
    if y2 ≤ x4 then
    some ((x3, x4), σ)
    else
    ps_bd (qX9_drawn σ) (fun v9 σ10 =>
    ps_bd (qX9_whyNot (((v9).toInt64)) σ10) (fun v11 σ12 =>
    if v11 = 0 then
    ps_bd (qX9_does v9 σ12) (fun _ σ15 =>
    ps_let (x3 + 1) fun v16 =>
    ps_let (x4 + 1) fun v17 =>
    qX9_load_34 y1 y2 n v16 v17 σ15)
    else
    ps_let (x4 + 1) fun v18 =>
    qX9_load_34 y1 y2 n x3 v18 σ12))
set_option maxRecDepth 100000 in
theorem L_X9_load_34 {g : pm_G} (D : Nat) (hD : 9 ≤ D) {P : Int32 → ps_S → Prop}  (y1 : Int32) (y2 : Int32) : ∀ (n : Nat) (x3 : Int32) (x4 : Int32) (σ : ps_S), ps_ok (qX9_load_34 y1 y2 n x3 x4 σ) (fun res σ => match res with | (x3, x4) => pm_W g mX9_load (ps_F g D (ps_qI P)) 0 0 74 [some (.ref (g.2.2.1 + 327)), some (.int y1), some (.int y2), some (.int x3), some (.int x4), none] [] 345 (ps_E g σ)) → pm_W g mX9_load (ps_F g D (ps_qI P)) 0 0 34 [some (.ref (g.2.2.1 + 327)), some (.int y1), some (.int y2), some (.int x3), some (.int x4), none] [] 345 (ps_E g σ) := by
  intro n
  induction n with
  | zero => intro x3 x4 σ hK; exact (ps_no hK).elim
  | succ n ih =>
    intro x3 x4 σ hK
    rw [qX9_load_34] at hK
    refine pm_ild d_X9_load_34 rfl ?_
    refine pm_ild d_X9_load_36 rfl ?_
    refine pm_icmp_ge d_X9_load_37 (fun c8 => ?_) (fun c8 => ?_)
    · replace hK := ps_ifT c8 hK
      exact ps_so hK
    · replace hK := ps_ifF c8 hK
      refine pm_ald d_X9_load_40 rfl ?_
      refine ps_cVI d_X9_load_41 mv_X9_drawn at_327 ob_8_0 rfl (As := []) rfl rfl (ps_room.of (by omega) (by decide)) (Nat.le_of_ble_eq_true rfl) (C_X9_drawn σ _ (ps_bdE hK)) ?_
      intro v9 σ10 hT
      clear hK
      have hK := hT
      clear hT
      refine pm_ist5 d_X9_load_44 rfl (by decide) ?_
      refine pm_ald d_X9_load_46 rfl ?_
      refine pm_ild d_X9_load_47 rfl ?_
      refine pm_i2l d_X9_load_49 ?_
      refine ps_cVI d_X9_load_50 mv_X9_whyNot at_327 ob_8_0 rfl (As := [.long ((v9).toInt64)]) rfl rfl (ps_room.of (by omega) (by decide)) (Nat.le_of_ble_eq_true rfl) (C_X9_whyNot (((v9).toInt64)) σ10 _ (ps_bdE hK)) ?_
      intro v11 σ12 hT
      clear hK
      have hK := hT
      clear hT
      refine pm_if_eq d_X9_load_53 (fun c13 => ?_) (fun c13 => ?_)
      · replace hK := ps_ifT c13 hK
        refine pm_ald d_X9_load_59 rfl ?_
        refine pm_ild d_X9_load_60 rfl ?_
        refine ps_cVV d_X9_load_62 mv_X9_does at_327 ob_8_0 rfl (As := [.int v9]) rfl rfl (ps_room.of (by omega) (by decide)) (Nat.le_of_ble_eq_true rfl) (C_X9_does v9 σ12 _ (ps_bdE hK)) ?_
        intro σ15 hT
        clear hK
        have hK := hT
        clear hT
        refine pm_inc3 d_X9_load_65 rfl ?_
        obtain ⟨v16, ev16⟩ : ∃ y : Int32, y = x3 + 1 := ⟨_, rfl⟩
        rw [← ev16]
        replace hK := ps_ltE ev16 hK
        refine pm_inc4 d_X9_load_68 rfl ?_
        obtain ⟨v17, ev17⟩ : ∃ y : Int32, y = x4 + 1 := ⟨_, rfl⟩
        rw [← ev17]
        replace hK := ps_ltE ev17 hK
        refine pm_goto d_X9_load_71 ?_
        refine pm_wk (ls' := [some (.ref (g.2.2.1 + 327)), some (.int y1), some (.int y2), some (.int v16), some (.int v17), none]) ⟨rfl, ⟨rfl, ⟨rfl, ⟨rfl, ⟨rfl, trivial⟩⟩⟩⟩⟩ ?_
        exact ih _ _ _ hK
      · replace hK := ps_ifF c13 hK
        refine pm_goto d_X9_load_56 ?_
        refine pm_inc4 d_X9_load_68 rfl ?_
        obtain ⟨v18, ev18⟩ : ∃ y : Int32, y = x4 + 1 := ⟨_, rfl⟩
        rw [← ev18]
        replace hK := ps_ltE ev18 hK
        refine pm_goto d_X9_load_71 ?_
        refine pm_wk (ls' := [some (.ref (g.2.2.1 + 327)), some (.int y1), some (.int y2), some (.int x3), some (.int v18), none]) ⟨rfl, ⟨rfl, ⟨rfl, ⟨rfl, ⟨rfl, trivial⟩⟩⟩⟩⟩ ?_
        exact ih _ _ _ hK
def qX9_load (p1 : Int32) (p2 : Int32) (σ : ps_S) : Option (Int32 × ps_S) :=
  ps_let (ps_rI σ 327 (upd (σ.1 327) 0 0)) fun σ1 =>
  ps_bd (qX9_within (((p2).toInt64)) 1 20 σ1) (fun v2 σ3 =>
  if v2 = 0 then
  some ((-3), σ3)
  else
  ps_bd (qX9_stores σ3) (fun _ σ6 =>
  ps_let (ps_rI σ6 327 (upd (σ6.1 327) 29 p1)) fun σ7 =>
  ps_bd (qX9_load_34 p1 p2 ps_N 0 0 σ7) (fun res σ19 => match res with
  | (v20, v21) =>
    if v20 ≤ 0 then
    some (v20, σ19)
    else
    ps_bd (qX9_notes σ19) (fun _ σ24 =>
    some (v20, σ24)))))
set_option maxRecDepth 100000 in
theorem C_X9_load {g : pm_G} (p1 : Int32) (p2 : Int32) (σ : ps_S) (P : Int32 → ps_S → Prop) (hK : ps_ok (qX9_load p1 p2 σ) P) : ps_C g mX9_load 9 [.ref (g.2.2.1 + 327), .int p1, .int p2] σ (ps_qI P) := by
  unfold qX9_load at hK
  refine ps_C.of (ls := [some (.ref (g.2.2.1 + 327)), some (.int p1), some (.int p2), none, none, none]) 3 (by decide) rfl (Nat.le_of_ble_eq_true rfl) rfl ?_
  refine pm_ald d_X9_load_0 rfl ?_
  refine pm_ki d_X9_load_1 ?_
  refine ps_putI d_X9_load_2 at_327 f_8_0_0 rfl rfl ?_
  refine ps_nmS (fun σ1 eσ1 => ?_)
  replace hK := ps_ltE eσ1 hK
  refine pm_ild d_X9_load_5 rfl ?_
  refine pm_i2l d_X9_load_6 ?_
  refine pm_kl d_X9_load_7 ?_
  refine pm_kl d_X9_load_8 ?_
  refine ps_cSI d_X9_load_11 ms_X9_within (As := [.long ((p2).toInt64), .long 1, .long 20]) rfl rfl (ps_room.of (by omega) (by decide)) (Nat.le_of_ble_eq_true rfl) (C_X9_within (((p2).toInt64)) 1 20 σ1 _ (ps_bdE hK)) ?_
  intro v2 σ3 hT
  clear hK
  have hK := hT
  clear hT
  refine pm_if_ne d_X9_load_14 (fun c4 => ?_) (fun c4 => ?_)
  · replace hK := ps_ifF c4 hK
    refine pm_ald d_X9_load_20 rfl ?_
    refine ps_cVV d_X9_load_21 mv_X9_stores at_327 ob_8_0 rfl (As := []) rfl rfl (ps_room.of (by omega) (by decide)) (Nat.le_of_ble_eq_true rfl) (C_X9_stores σ3 _ (ps_bdE hK)) ?_
    intro σ6 hT
    clear hK
    have hK := hT
    clear hT
    refine pm_ald d_X9_load_24 rfl ?_
    refine pm_ild d_X9_load_25 rfl ?_
    refine ps_putI d_X9_load_26 at_327 f_8_0_29 rfl rfl ?_
    refine ps_nmS (fun σ7 eσ7 => ?_)
    replace hK := ps_ltE eσ7 hK
    refine pm_ki d_X9_load_29 ?_
    refine pm_ist3 d_X9_load_30 rfl (by decide) ?_
    refine pm_ki d_X9_load_31 ?_
    refine pm_ist4 d_X9_load_32 rfl (by decide) ?_
    refine L_X9_load_34 _ (by decide) p1 p2 _ _ _ _ (ps_ok.mono (ps_bdE hK) ?_)
    rintro ⟨v20, v21⟩ σ19 hT
    clear hK
    have hK := hT
    clear hT
    refine pm_ild d_X9_load_74 rfl ?_
    refine pm_if_le d_X9_load_75 (fun c22 => ?_) (fun c22 => ?_)
    · replace hK := ps_ifT c22 hK
      refine pm_ild d_X9_load_82 rfl ?_
      have hQ := ps_so hK
      exact ps_iret rfl d_X9_load_83 ⟨_, rfl, hQ⟩
    · replace hK := ps_ifF c22 hK
      refine pm_ald d_X9_load_78 rfl ?_
      refine ps_cVV d_X9_load_79 mv_X9_notes at_327 ob_8_0 rfl (As := []) rfl rfl (ps_room.of (by omega) (by decide)) (Nat.le_of_ble_eq_true rfl) (C_X9_notes σ19 _ (ps_bdE hK)) ?_
      intro σ24 hT
      clear hK
      have hK := hT
      clear hT
      refine pm_ild d_X9_load_82 rfl ?_
      have hQ := ps_so hK
      exact ps_iret rfl d_X9_load_83 ⟨_, rfl, hQ⟩
  · replace hK := ps_ifT c4 hK
    refine pm_ki d_X9_load_17 ?_
    have hQ := ps_so hK
    exact ps_iret rfl d_X9_load_19 ⟨_, rfl, hQ⟩
def qX9_mean (p1 : Int32) (p2 : Int32) (σ : ps_S) : Option (Int32 × ps_S) :=
  ps_let (ps_rI σ 327 (upd (σ.1 327) 0 0)) fun σ1 =>
  ps_bd (qX9_within (((p2).toInt64)) 0 1 σ1) (fun v2 σ3 =>
  if v2 = 0 then
  some ((-2), σ3)
  else
  ps_bd (qX9_within (((p1).toInt64)) 1 3 σ3) (fun v5 σ6 =>
  if v5 = 0 then
  some ((-3), σ6)
  else
  ps_bd (qX9_laysLots 0 p1 σ6) (fun _ σ9 =>
  ps_let (σ9.2.1 327 34) fun v10 =>
  ps_bd (qX9_wholeOf p1 σ9) (fun v11 σ12 =>
  ps_bd (qX9_part v10 v11 p2 σ12) (fun v13 σ14 =>
  some (v13, σ14))))))
set_option maxRecDepth 100000 in
theorem C_X9_mean {g : pm_G} (p1 : Int32) (p2 : Int32) (σ : ps_S) (P : Int32 → ps_S → Prop) (hK : ps_ok (qX9_mean p1 p2 σ) P) : ps_C g mX9_mean 103 [.ref (g.2.2.1 + 327), .int p1, .int p2] σ (ps_qI P) := by
  unfold qX9_mean at hK
  refine ps_C.of (ls := [some (.ref (g.2.2.1 + 327)), some (.int p1), some (.int p2)]) 0 (by decide) rfl (Nat.le_of_ble_eq_true rfl) rfl ?_
  refine pm_ald d_X9_mean_0 rfl ?_
  refine pm_ki d_X9_mean_1 ?_
  refine ps_putI d_X9_mean_2 at_327 f_8_0_0 rfl rfl ?_
  refine ps_nmS (fun σ1 eσ1 => ?_)
  replace hK := ps_ltE eσ1 hK
  refine pm_ild d_X9_mean_5 rfl ?_
  refine pm_i2l d_X9_mean_6 ?_
  refine pm_kl d_X9_mean_7 ?_
  refine pm_kl d_X9_mean_8 ?_
  refine ps_cSI d_X9_mean_9 ms_X9_within (As := [.long ((p2).toInt64), .long 0, .long 1]) rfl rfl (ps_room.of (by omega) (by decide)) (Nat.le_of_ble_eq_true rfl) (C_X9_within (((p2).toInt64)) 0 1 σ1 _ (ps_bdE hK)) ?_
  intro v2 σ3 hT
  clear hK
  have hK := hT
  clear hT
  refine pm_if_ne d_X9_mean_12 (fun c4 => ?_) (fun c4 => ?_)
  · replace hK := ps_ifF c4 hK
    refine pm_ild d_X9_mean_18 rfl ?_
    refine pm_i2l d_X9_mean_19 ?_
    refine pm_kl d_X9_mean_20 ?_
    refine pm_kl d_X9_mean_21 ?_
    refine ps_cSI d_X9_mean_24 ms_X9_within (As := [.long ((p1).toInt64), .long 1, .long 3]) rfl rfl (ps_room.of (by omega) (by decide)) (Nat.le_of_ble_eq_true rfl) (C_X9_within (((p1).toInt64)) 1 3 σ3 _ (ps_bdE hK)) ?_
    intro v5 σ6 hT
    clear hK
    have hK := hT
    clear hT
    refine pm_if_ne d_X9_mean_27 (fun c7 => ?_) (fun c7 => ?_)
    · replace hK := ps_ifF c7 hK
      refine pm_ald d_X9_mean_33 rfl ?_
      refine pm_ki d_X9_mean_34 ?_
      refine pm_ild d_X9_mean_35 rfl ?_
      refine ps_cVV d_X9_mean_36 mv_X9_laysLots at_327 ob_8_0 rfl (As := [.int 0, .int p1]) rfl rfl (ps_room.of (by omega) (by decide)) (Nat.le_of_ble_eq_true rfl) (C_X9_laysLots 0 p1 σ6 _ (ps_bdE hK)) ?_
      intro σ9 hT
      clear hK
      have hK := hT
      clear hT
      refine pm_ald d_X9_mean_39 rfl ?_
      refine ps_getL d_X9_mean_40 at_327 f_8_0_34 rfl ?_
      refine ps_topL (fun v10 ev10 => ?_)
      replace hK := ps_ltE ev10 hK
      refine pm_ild d_X9_mean_43 rfl ?_
      refine ps_cSL d_X9_mean_44 ms_X9_wholeOf (As := [.int p1]) rfl rfl (ps_room.of (by omega) (by decide)) (Nat.le_of_ble_eq_true rfl) (C_X9_wholeOf p1 σ9 _ (ps_bdE hK)) ?_
      intro v11 σ12 hT
      clear hK
      have hK := hT
      clear hT
      refine pm_ild d_X9_mean_47 rfl ?_
      refine ps_cSI d_X9_mean_48 ms_X9_part (As := [.long v10, .long v11, .int p2]) rfl rfl (ps_room.of (by omega) (by decide)) (Nat.le_of_ble_eq_true rfl) (C_X9_part v10 v11 p2 σ12 _ (ps_bdE hK)) ?_
      intro v13 σ14 hT
      clear hK
      have hK := hT
      clear hT
      have hQ := ps_so hK
      exact ps_iret rfl d_X9_mean_51 ⟨_, rfl, hQ⟩
    · replace hK := ps_ifT c7 hK
      refine pm_ki d_X9_mean_30 ?_
      have hQ := ps_so hK
      exact ps_iret rfl d_X9_mean_32 ⟨_, rfl, hQ⟩
  · replace hK := ps_ifT c4 hK
    refine pm_ki d_X9_mean_15 ?_
    have hQ := ps_so hK
    exact ps_iret rfl d_X9_mean_17 ⟨_, rfl, hQ⟩
def qX9_most_61  (y1 : Int32) (y2 : Int32) : Nat → Int32 → Int32 → Int32 → ps_S → Option (((Int32 × Int32 × Int32)) × ps_S)
  | 0, _, _, _, _ => none
  | n + 1, x3, x4, x5, σ =>
    ps_let (σ.1 328 3) fun v12 =>
    if v12 ≤ x5 then
    some ((x3, x4, x5), σ)
    else
    if ps_in x5 6 = true then
    ps_let (σ.1 339 (x5).toNatClampNeg) fun v14 =>
    if ps_in x3 6 = true then
    ps_let (σ.1 339 (x3).toNatClampNeg) fun v15 =>
    if v14 ≤ v15 then
    if ps_in x5 6 = true then
    ps_let (σ.1 339 (x5).toNatClampNeg) fun v17 =>
    if x4 ≤ v17 then
    ps_let (x5 + 1) fun v19 =>
    qX9_most_61 y1 y2 n x3 x4 v19 σ
    else
    if ps_in x5 6 = true then
    ps_let (σ.1 339 (x5).toNatClampNeg) fun v20 =>
    ps_let (x5 + 1) fun v21 =>
    qX9_most_61 y1 y2 n x3 v20 v21 σ
    else none
    else none
    else
    if ps_in x5 6 = true then
    ps_let (σ.1 339 (x5).toNatClampNeg) fun v24 =>
    if x4 ≤ v24 then
    ps_let (x5 + 1) fun v26 =>
    qX9_most_61 y1 y2 n x5 x4 v26 σ
    else
    if ps_in x5 6 = true then
    ps_let (σ.1 339 (x5).toNatClampNeg) fun v27 =>
    ps_let (x5 + 1) fun v28 =>
    qX9_most_61 y1 y2 n x5 v27 v28 σ
    else none
    else none
    else none
    else none
set_option maxRecDepth 100000 in
theorem L_X9_most_61 {g : pm_G} (D : Nat) (hD : 8 ≤ D) {P : Int32 → ps_S → Prop}  (y1 : Int32) (y2 : Int32) : ∀ (n : Nat) (x3 : Int32) (x4 : Int32) (x5 : Int32) (σ : ps_S), ps_ok (qX9_most_61 y1 y2 n x3 x4 x5 σ) (fun res σ => match res with | (x3, x4, x5) => pm_W g mX9_most (ps_F g D (ps_qI P)) 0 0 127 [some (.ref (g.2.2.1 + 327)), some (.int y1), some (.int y2), some (.int x3), some (.int x4), some (.int x5)] [] 345 (ps_E g σ)) → pm_W g mX9_most (ps_F g D (ps_qI P)) 0 0 61 [some (.ref (g.2.2.1 + 327)), some (.int y1), some (.int y2), some (.int x3), some (.int x4), some (.int x5)] [] 345 (ps_E g σ) := by
  intro n
  induction n with
  | zero => intro x3 x4 x5 σ hK; exact (ps_no hK).elim
  | succ n ih =>
    intro x3 x4 x5 σ hK
    rw [qX9_most_61] at hK
    refine pm_ild d_X9_most_61 rfl ?_
    refine pm_ald d_X9_most_63 rfl ?_
    refine ps_getR (q := 328) d_X9_most_64 at_327 f_8_0_1 rfl ?_
    refine pm_ki d_X9_most_67 ?_
    refine ps_iald (x := σ.1 328 3) d_X9_most_68 at_328 a_8_1 (ps_in_of rfl) rfl ?_
    refine ps_topI (fun v12 ev12 => ?_)
    replace hK := ps_ltE ev12 hK
    refine pm_icmp_ge d_X9_most_69 (fun c13 => ?_) (fun c13 => ?_)
    · replace hK := ps_ifT c13 hK
      exact ps_so hK
    · replace hK := ps_ifF c13 hK
      refine pm_ald d_X9_most_72 rfl ?_
      refine ps_getR (q := 339) d_X9_most_73 at_327 f_8_0_30 rfl ?_
      refine pm_ild d_X9_most_76 rfl ?_
      obtain ⟨b32, hT⟩ := ps_gd hK
      replace hK := hT
      clear hT
      refine ps_iald d_X9_most_78 at_339 a_8_12 (ps_in_of b32) rfl ?_
      refine ps_topI (fun v14 ev14 => ?_)
      replace hK := ps_ltE ev14 hK
      refine pm_ald d_X9_most_79 rfl ?_
      refine ps_getR (q := 339) d_X9_most_80 at_327 f_8_0_30 rfl ?_
      refine pm_ild d_X9_most_83 rfl ?_
      obtain ⟨b31, hT⟩ := ps_gd hK
      replace hK := hT
      clear hT
      refine ps_iald d_X9_most_84 at_339 a_8_12 (ps_in_of b31) rfl ?_
      refine ps_topI (fun v15 ev15 => ?_)
      replace hK := ps_ltE ev15 hK
      refine pm_icmp_le d_X9_most_85 (fun c16 => ?_) (fun c16 => ?_)
      · replace hK := ps_ifT c16 hK
        refine pm_ild d_X9_most_93 rfl ?_
        refine pm_ist3 d_X9_most_94 rfl (by decide) ?_
        refine pm_ald d_X9_most_95 rfl ?_
        refine ps_getR (q := 339) d_X9_most_96 at_327 f_8_0_30 rfl ?_
        refine pm_ild d_X9_most_99 rfl ?_
        obtain ⟨b23, hT⟩ := ps_gd hK
        replace hK := hT
        clear hT
        refine ps_iald d_X9_most_101 at_339 a_8_12 (ps_in_of b23) rfl ?_
        refine ps_topI (fun v17 ev17 => ?_)
        replace hK := ps_ltE ev17 hK
        refine pm_ild d_X9_most_102 rfl ?_
        refine pm_icmp_ge d_X9_most_104 (fun c18 => ?_) (fun c18 => ?_)
        · replace hK := ps_ifT c18 hK
          refine pm_ild d_X9_most_117 rfl ?_
          refine pm_ist4 d_X9_most_119 rfl (by decide) ?_
          refine pm_inc5 d_X9_most_121 rfl ?_
          obtain ⟨v19, ev19⟩ : ∃ y : Int32, y = x5 + 1 := ⟨_, rfl⟩
          rw [← ev19]
          replace hK := ps_ltE ev19 hK
          refine pm_goto d_X9_most_124 ?_
          exact ih _ _ _ _ hK
        · replace hK := ps_ifF c18 hK
          refine pm_ald d_X9_most_107 rfl ?_
          refine ps_getR (q := 339) d_X9_most_108 at_327 f_8_0_30 rfl ?_
          refine pm_ild d_X9_most_111 rfl ?_
          obtain ⟨b22, hT⟩ := ps_gd hK
          replace hK := hT
          clear hT
          refine ps_iald d_X9_most_113 at_339 a_8_12 (ps_in_of b22) rfl ?_
          refine ps_topI (fun v20 ev20 => ?_)
          replace hK := ps_ltE ev20 hK
          refine pm_goto d_X9_most_114 ?_
          refine pm_ist4 d_X9_most_119 rfl (by decide) ?_
          refine pm_inc5 d_X9_most_121 rfl ?_
          obtain ⟨v21, ev21⟩ : ∃ y : Int32, y = x5 + 1 := ⟨_, rfl⟩
          rw [← ev21]
          replace hK := ps_ltE ev21 hK
          refine pm_goto d_X9_most_124 ?_
          exact ih _ _ _ _ hK
      · replace hK := ps_ifF c16 hK
        refine pm_ild d_X9_most_88 rfl ?_
        refine pm_goto d_X9_most_90 ?_
        refine pm_ist3 d_X9_most_94 rfl (by decide) ?_
        refine pm_ald d_X9_most_95 rfl ?_
        refine ps_getR (q := 339) d_X9_most_96 at_327 f_8_0_30 rfl ?_
        refine pm_ild d_X9_most_99 rfl ?_
        obtain ⟨b30, hT⟩ := ps_gd hK
        replace hK := hT
        clear hT
        refine ps_iald d_X9_most_101 at_339 a_8_12 (ps_in_of b30) rfl ?_
        refine ps_topI (fun v24 ev24 => ?_)
        replace hK := ps_ltE ev24 hK
        refine pm_ild d_X9_most_102 rfl ?_
        refine pm_icmp_ge d_X9_most_104 (fun c25 => ?_) (fun c25 => ?_)
        · replace hK := ps_ifT c25 hK
          refine pm_ild d_X9_most_117 rfl ?_
          refine pm_ist4 d_X9_most_119 rfl (by decide) ?_
          refine pm_inc5 d_X9_most_121 rfl ?_
          obtain ⟨v26, ev26⟩ : ∃ y : Int32, y = x5 + 1 := ⟨_, rfl⟩
          rw [← ev26]
          replace hK := ps_ltE ev26 hK
          refine pm_goto d_X9_most_124 ?_
          exact ih _ _ _ _ hK
        · replace hK := ps_ifF c25 hK
          refine pm_ald d_X9_most_107 rfl ?_
          refine ps_getR (q := 339) d_X9_most_108 at_327 f_8_0_30 rfl ?_
          refine pm_ild d_X9_most_111 rfl ?_
          obtain ⟨b29, hT⟩ := ps_gd hK
          replace hK := hT
          clear hT
          refine ps_iald d_X9_most_113 at_339 a_8_12 (ps_in_of b29) rfl ?_
          refine ps_topI (fun v27 ev27 => ?_)
          replace hK := ps_ltE ev27 hK
          refine pm_goto d_X9_most_114 ?_
          refine pm_ist4 d_X9_most_119 rfl (by decide) ?_
          refine pm_inc5 d_X9_most_121 rfl ?_
          obtain ⟨v28, ev28⟩ : ∃ y : Int32, y = x5 + 1 := ⟨_, rfl⟩
          rw [← ev28]
          replace hK := ps_ltE ev28 hK
          refine pm_goto d_X9_most_124 ?_
          exact ih _ _ _ _ hK
def qX9_most (p1 : Int32) (p2 : Int32) (σ : ps_S) : Option (Int32 × ps_S) :=
  ps_let (ps_rI σ 327 (upd (σ.1 327) 0 0)) fun σ1 =>
  ps_bd (qX9_within (((p2).toInt64)) 0 2 σ1) (fun v2 σ3 =>
  if v2 = 0 then
  some ((-2), σ3)
  else
  ps_bd (qX9_within (((p1).toInt64)) 1 999 σ3) (fun v5 σ6 =>
  if v5 = 0 then
  some ((-3), σ6)
  else
  ps_let (σ6.1 328 3) fun v8 =>
  if v8 = 0 then
  some ((-1), σ6)
  else
  ps_bd (qX9_laysPages p1 σ6) (fun _ σ11 =>
  ps_bd (qX9_most_61 p1 p2 ps_N 0 268435456 0 σ11) (fun res σ33 => match res with
  | (v34, v35, v36) =>
    if p2 = 0 then
    some (v34, σ33)
    else
    if p2 = 1 then
    if ps_in v34 6 = true then
    ps_let (σ33.1 339 (v34).toNatClampNeg) fun v39 =>
    some (v39, σ33)
    else none
    else
    some (v35, σ33)))))
set_option maxRecDepth 100000 in
theorem C_X9_most {g : pm_G} (p1 : Int32) (p2 : Int32) (σ : ps_S) (P : Int32 → ps_S → Prop) (hK : ps_ok (qX9_most p1 p2 σ) P) : ps_C g mX9_most 8 [.ref (g.2.2.1 + 327), .int p1, .int p2] σ (ps_qI P) := by
  unfold qX9_most at hK
  refine ps_C.of (ls := [some (.ref (g.2.2.1 + 327)), some (.int p1), some (.int p2), none, none, none]) 3 (by decide) rfl (Nat.le_of_ble_eq_true rfl) rfl ?_
  refine pm_ald d_X9_most_0 rfl ?_
  refine pm_ki d_X9_most_1 ?_
  refine ps_putI d_X9_most_2 at_327 f_8_0_0 rfl rfl ?_
  refine ps_nmS (fun σ1 eσ1 => ?_)
  replace hK := ps_ltE eσ1 hK
  refine pm_ild d_X9_most_5 rfl ?_
  refine pm_i2l d_X9_most_6 ?_
  refine pm_kl d_X9_most_7 ?_
  refine pm_kl d_X9_most_8 ?_
  refine ps_cSI d_X9_most_11 ms_X9_within (As := [.long ((p2).toInt64), .long 0, .long 2]) rfl rfl (ps_room.of (by omega) (by decide)) (Nat.le_of_ble_eq_true rfl) (C_X9_within (((p2).toInt64)) 0 2 σ1 _ (ps_bdE hK)) ?_
  intro v2 σ3 hT
  clear hK
  have hK := hT
  clear hT
  refine pm_if_ne d_X9_most_14 (fun c4 => ?_) (fun c4 => ?_)
  · replace hK := ps_ifF c4 hK
    refine pm_ild d_X9_most_20 rfl ?_
    refine pm_i2l d_X9_most_21 ?_
    refine pm_kl d_X9_most_22 ?_
    refine pm_kl d_X9_most_23 ?_
    refine ps_cSI d_X9_most_26 ms_X9_within (As := [.long ((p1).toInt64), .long 1, .long 999]) rfl rfl (ps_room.of (by omega) (by decide)) (Nat.le_of_ble_eq_true rfl) (C_X9_within (((p1).toInt64)) 1 999 σ3 _ (ps_bdE hK)) ?_
    intro v5 σ6 hT
    clear hK
    have hK := hT
    clear hT
    refine pm_if_ne d_X9_most_29 (fun c7 => ?_) (fun c7 => ?_)
    · replace hK := ps_ifF c7 hK
      refine pm_ald d_X9_most_35 rfl ?_
      refine ps_getR (q := 328) d_X9_most_36 at_327 f_8_0_1 rfl ?_
      refine pm_ki d_X9_most_39 ?_
      refine ps_iald (x := σ6.1 328 3) d_X9_most_40 at_328 a_8_1 (ps_in_of rfl) rfl ?_
      refine ps_topI (fun v8 ev8 => ?_)
      replace hK := ps_ltE ev8 hK
      refine pm_if_ne d_X9_most_41 (fun c9 => ?_) (fun c9 => ?_)
      · replace hK := ps_ifF c9 hK
        refine pm_ald d_X9_most_46 rfl ?_
        refine pm_ild d_X9_most_47 rfl ?_
        refine ps_cVV d_X9_most_48 mv_X9_laysPages at_327 ob_8_0 rfl (As := [.int p1]) rfl rfl (ps_room.of (by omega) (by decide)) (Nat.le_of_ble_eq_true rfl) (C_X9_laysPages p1 σ6 _ (ps_bdE hK)) ?_
        intro σ11 hT
        clear hK
        have hK := hT
        clear hT
        refine pm_ki d_X9_most_51 ?_
        refine pm_ist3 d_X9_most_52 rfl (by decide) ?_
        refine pm_ki d_X9_most_53 ?_
        refine pm_ist4 d_X9_most_56 rfl (by decide) ?_
        refine pm_ki d_X9_most_58 ?_
        refine pm_ist5 d_X9_most_59 rfl (by decide) ?_
        refine L_X9_most_61 _ (by decide) p1 p2 _ _ _ _ _ (ps_ok.mono (ps_bdE hK) ?_)
        rintro ⟨v34, v35, v36⟩ σ33 hT
        clear hK
        have hK := hT
        clear hT
        refine pm_ild d_X9_most_127 rfl ?_
        refine pm_if_ne d_X9_most_128 (fun c37 => ?_) (fun c37 => ?_)
        · replace hK := ps_ifF c37 hK
          refine pm_ild d_X9_most_135 rfl ?_
          refine pm_ki d_X9_most_136 ?_
          refine pm_icmp_ne d_X9_most_137 (fun c38 => ?_) (fun c38 => ?_)
          · replace hK := ps_ifF c38 hK
            refine pm_ild d_X9_most_149 rfl ?_
            have hQ := ps_so hK
            exact ps_iret rfl d_X9_most_151 ⟨_, rfl, hQ⟩
          · replace hK := ps_ifT c38 hK
            refine pm_ald d_X9_most_140 rfl ?_
            refine ps_getR (q := 339) d_X9_most_141 at_327 f_8_0_30 rfl ?_
            refine pm_ild d_X9_most_144 rfl ?_
            obtain ⟨b40, hT⟩ := ps_gd hK
            replace hK := hT
            clear hT
            refine ps_iald d_X9_most_145 at_339 a_8_12 (ps_in_of b40) rfl ?_
            refine ps_topI (fun v39 ev39 => ?_)
            replace hK := ps_ltE ev39 hK
            refine pm_goto d_X9_most_146 ?_
            have hQ := ps_so hK
            exact ps_iret rfl d_X9_most_151 ⟨_, rfl, hQ⟩
        · replace hK := ps_ifT c37 hK
          refine pm_ild d_X9_most_131 rfl ?_
          refine pm_goto d_X9_most_132 ?_
          have hQ := ps_so hK
          exact ps_iret rfl d_X9_most_151 ⟨_, rfl, hQ⟩
      · replace hK := ps_ifT c9 hK
        refine pm_ki d_X9_most_44 ?_
        have hQ := ps_so hK
        exact ps_iret rfl d_X9_most_45 ⟨_, rfl, hQ⟩
    · replace hK := ps_ifT c7 hK
      refine pm_ki d_X9_most_32 ?_
      have hQ := ps_so hK
      exact ps_iret rfl d_X9_most_34 ⟨_, rfl, hQ⟩
  · replace hK := ps_ifT c4 hK
    refine pm_ki d_X9_most_17 ?_
    have hQ := ps_so hK
    exact ps_iret rfl d_X9_most_19 ⟨_, rfl, hQ⟩
def qX9_next (p1 : Int32) (σ : ps_S) : Option (Int32 × ps_S) :=
  ps_let (ps_rI σ 327 (upd (σ.1 327) 0 0)) fun σ1 =>
  ps_bd (qX9_isDevice (((p1).toInt64)) σ1) (fun v2 σ3 =>
  if v2 = 0 then
  some ((-2), σ3)
  else
  ps_bd (qX9_begins σ3) (fun _ σ6 =>
  ps_bd (qX9_nextOn p1 σ6) (fun v7 σ8 =>
  some (v7, σ8))))
set_option maxRecDepth 100000 in
theorem C_X9_next {g : pm_G} (p1 : Int32) (σ : ps_S) (P : Int32 → ps_S → Prop) (hK : ps_ok (qX9_next p1 σ) P) : ps_C g mX9_next 4 [.ref (g.2.2.1 + 327), .int p1] σ (ps_qI P) := by
  unfold qX9_next at hK
  refine ps_C.of (ls := [some (.ref (g.2.2.1 + 327)), some (.int p1)]) 0 (by decide) rfl (Nat.le_of_ble_eq_true rfl) rfl ?_
  refine pm_ald d_X9_next_0 rfl ?_
  refine pm_ki d_X9_next_1 ?_
  refine ps_putI d_X9_next_2 at_327 f_8_0_0 rfl rfl ?_
  refine ps_nmS (fun σ1 eσ1 => ?_)
  replace hK := ps_ltE eσ1 hK
  refine pm_ald d_X9_next_5 rfl ?_
  refine pm_ild d_X9_next_6 rfl ?_
  refine pm_i2l d_X9_next_7 ?_
  refine ps_cVI d_X9_next_8 mv_X9_isDevice at_327 ob_8_0 rfl (As := [.long ((p1).toInt64)]) rfl rfl (ps_room.of (by omega) (by decide)) (Nat.le_of_ble_eq_true rfl) (C_X9_isDevice (((p1).toInt64)) σ1 _ (ps_bdE hK)) ?_
  intro v2 σ3 hT
  clear hK
  have hK := hT
  clear hT
  refine pm_if_ne d_X9_next_11 (fun c4 => ?_) (fun c4 => ?_)
  · replace hK := ps_ifF c4 hK
    refine pm_ald d_X9_next_17 rfl ?_
    refine ps_cVV d_X9_next_18 mv_X9_begins at_327 ob_8_0 rfl (As := []) rfl rfl (ps_room.of (by omega) (by decide)) (Nat.le_of_ble_eq_true rfl) (C_X9_begins σ3 _ (ps_bdE hK)) ?_
    intro σ6 hT
    clear hK
    have hK := hT
    clear hT
    refine pm_ald d_X9_next_21 rfl ?_
    refine pm_ild d_X9_next_22 rfl ?_
    refine ps_cVI d_X9_next_23 mv_X9_nextOn at_327 ob_8_0 rfl (As := [.int p1]) rfl rfl (ps_room.of (by omega) (by decide)) (Nat.le_of_ble_eq_true rfl) (C_X9_nextOn p1 σ6 _ (ps_bdE hK)) ?_
    intro v7 σ8 hT
    clear hK
    have hK := hT
    clear hT
    have hQ := ps_so hK
    exact ps_iret rfl d_X9_next_26 ⟨_, rfl, hQ⟩
  · replace hK := ps_ifT c4 hK
    refine pm_ki d_X9_next_14 ?_
    have hQ := ps_so hK
    exact ps_iret rfl d_X9_next_16 ⟨_, rfl, hQ⟩
def qX9_numbers_64  (y1 : Int32) (y2 : Int32) (y3 : Int32) : Nat → Int32 → ps_S → Option (((Int32)) × ps_S)
  | 0, _, _ => none
  | n + 1, x4, σ =>
    if y3 ≤ x4 then
    some (x4, σ)
    else
    if ps_in ((((40 * y1)) + x4)) 160 = true then
    ps_let (ps_rL σ 344 (vp_updL (σ.2.1 344) ((((40 * y1)) + x4)).toNatClampNeg 0)) fun σ14 =>
    ps_let (x4 + 1) fun v15 =>
    qX9_numbers_64 y1 y2 y3 n v15 σ14
    else none
set_option maxRecDepth 100000 in
theorem L_X9_numbers_64 {g : pm_G} (D : Nat) (hD : 2 ≤ D) {P : Int32 → ps_S → Prop}  (y1 : Int32) (y2 : Int32) (y3 : Int32) : ∀ (n : Nat) (x4 : Int32) (σ : ps_S), ps_ok (qX9_numbers_64 y1 y2 y3 n x4 σ) (fun res σ => match res with | x4 => pm_W g mX9_numbers (ps_F g D (ps_qI P)) 0 0 89 [some (.ref (g.2.2.1 + 327)), some (.int y1), some (.int y2), some (.int y3), some (.int x4)] [] 345 (ps_E g σ)) → pm_W g mX9_numbers (ps_F g D (ps_qI P)) 0 0 64 [some (.ref (g.2.2.1 + 327)), some (.int y1), some (.int y2), some (.int y3), some (.int x4)] [] 345 (ps_E g σ) := by
  intro n
  induction n with
  | zero => intro x4 σ hK; exact (ps_no hK).elim
  | succ n ih =>
    intro x4 σ hK
    rw [qX9_numbers_64] at hK
    refine pm_ild d_X9_numbers_64 rfl ?_
    refine pm_ild d_X9_numbers_66 rfl ?_
    refine pm_icmp_ge d_X9_numbers_67 (fun c13 => ?_) (fun c13 => ?_)
    · replace hK := ps_ifT c13 hK
      exact ps_so hK
    · replace hK := ps_ifF c13 hK
      refine pm_ald d_X9_numbers_70 rfl ?_
      refine ps_getR (q := 344) d_X9_numbers_71 at_327 f_8_0_37 rfl ?_
      refine pm_ki d_X9_numbers_74 ?_
      refine pm_ild d_X9_numbers_76 rfl ?_
      refine pm_imul d_X9_numbers_77 ?_
      refine pm_ild d_X9_numbers_78 rfl ?_
      refine pm_iadd d_X9_numbers_80 ?_
      refine pm_kl d_X9_numbers_81 ?_
      obtain ⟨b16, hT⟩ := ps_gd hK
      replace hK := hT
      clear hT
      refine ps_last d_X9_numbers_82 at_344 a_8_17 (ps_in_of b16) ?_
      refine ps_nmS (fun σ14 eσ14 => ?_)
      replace hK := ps_ltE eσ14 hK
      refine pm_inc4 d_X9_numbers_83 rfl ?_
      obtain ⟨v15, ev15⟩ : ∃ y : Int32, y = x4 + 1 := ⟨_, rfl⟩
      rw [← ev15]
      replace hK := ps_ltE ev15 hK
      refine pm_goto d_X9_numbers_86 ?_
      exact ih _ _ hK
def qX9_numbers (p1 : Int32) (p2 : Int32) (p3 : Int32) (σ : ps_S) : Option (Int32 × ps_S) :=
  ps_let (ps_rI σ 327 (upd (σ.1 327) 0 0)) fun σ1 =>
  ps_bd (qX9_within (((p1).toInt64)) 0 3 σ1) (fun v2 σ3 =>
  if v2 = 0 then
  some ((-2), σ3)
  else
  ps_bd (qX9_within (((p2).toInt64)) 0 3 σ3) (fun v5 σ6 =>
  if v5 = 0 then
  some ((-2), σ6)
  else
  ps_bd (qX9_within (((p3).toInt64)) 0 40 σ6) (fun v8 σ9 =>
  if v8 = 0 then
  some ((-3), σ9)
  else
  if ps_in p1 4 = true then
  ps_let (ps_rI σ9 342 (upd (σ9.1 342) (p1).toNatClampNeg p2)) fun σ11 =>
  if ps_in p1 4 = true then
  ps_let (ps_rI σ11 343 (upd (σ11.1 343) (p1).toNatClampNeg p3)) fun σ12 =>
  ps_bd (qX9_numbers_64 p1 p2 p3 ps_N 0 σ12) (fun res σ17 => match res with
  | v18 =>
    some (0, σ17))
  else none
  else none)))
set_option maxRecDepth 100000 in
theorem C_X9_numbers {g : pm_G} (p1 : Int32) (p2 : Int32) (p3 : Int32) (σ : ps_S) (P : Int32 → ps_S → Prop) (hK : ps_ok (qX9_numbers p1 p2 p3 σ) P) : ps_C g mX9_numbers 2 [.ref (g.2.2.1 + 327), .int p1, .int p2, .int p3] σ (ps_qI P) := by
  unfold qX9_numbers at hK
  refine ps_C.of (ls := [some (.ref (g.2.2.1 + 327)), some (.int p1), some (.int p2), some (.int p3), none]) 1 (by decide) rfl (Nat.le_of_ble_eq_true rfl) rfl ?_
  refine pm_ald d_X9_numbers_0 rfl ?_
  refine pm_ki d_X9_numbers_1 ?_
  refine ps_putI d_X9_numbers_2 at_327 f_8_0_0 rfl rfl ?_
  refine ps_nmS (fun σ1 eσ1 => ?_)
  replace hK := ps_ltE eσ1 hK
  refine pm_ild d_X9_numbers_5 rfl ?_
  refine pm_i2l d_X9_numbers_6 ?_
  refine pm_kl d_X9_numbers_7 ?_
  refine pm_kl d_X9_numbers_8 ?_
  refine ps_cSI d_X9_numbers_11 ms_X9_within (As := [.long ((p1).toInt64), .long 0, .long 3]) rfl rfl (ps_room.of (by omega) (by decide)) (Nat.le_of_ble_eq_true rfl) (C_X9_within (((p1).toInt64)) 0 3 σ1 _ (ps_bdE hK)) ?_
  intro v2 σ3 hT
  clear hK
  have hK := hT
  clear hT
  refine pm_if_eq d_X9_numbers_14 (fun c4 => ?_) (fun c4 => ?_)
  · replace hK := ps_ifT c4 hK
    refine pm_ki d_X9_numbers_29 ?_
    have hQ := ps_so hK
    exact ps_iret rfl d_X9_numbers_31 ⟨_, rfl, hQ⟩
  · replace hK := ps_ifF c4 hK
    refine pm_ild d_X9_numbers_17 rfl ?_
    refine pm_i2l d_X9_numbers_18 ?_
    refine pm_kl d_X9_numbers_19 ?_
    refine pm_kl d_X9_numbers_20 ?_
    refine ps_cSI d_X9_numbers_23 ms_X9_within (As := [.long ((p2).toInt64), .long 0, .long 3]) rfl rfl (ps_room.of (by omega) (by decide)) (Nat.le_of_ble_eq_true rfl) (C_X9_within (((p2).toInt64)) 0 3 σ3 _ (ps_bdE hK)) ?_
    intro v5 σ6 hT
    clear hK
    have hK := hT
    clear hT
    refine pm_if_ne d_X9_numbers_26 (fun c7 => ?_) (fun c7 => ?_)
    · replace hK := ps_ifF c7 hK
      refine pm_ild d_X9_numbers_32 rfl ?_
      refine pm_i2l d_X9_numbers_33 ?_
      refine pm_kl d_X9_numbers_34 ?_
      refine pm_kl d_X9_numbers_35 ?_
      refine ps_cSI d_X9_numbers_38 ms_X9_within (As := [.long ((p3).toInt64), .long 0, .long 40]) rfl rfl (ps_room.of (by omega) (by decide)) (Nat.le_of_ble_eq_true rfl) (C_X9_within (((p3).toInt64)) 0 40 σ6 _ (ps_bdE hK)) ?_
      intro v8 σ9 hT
      clear hK
      have hK := hT
      clear hT
      refine pm_if_ne d_X9_numbers_41 (fun c10 => ?_) (fun c10 => ?_)
      · replace hK := ps_ifF c10 hK
        refine pm_ald d_X9_numbers_47 rfl ?_
        refine ps_getR (q := 342) d_X9_numbers_48 at_327 f_8_0_35 rfl ?_
        refine pm_ild d_X9_numbers_51 rfl ?_
        refine pm_ild d_X9_numbers_52 rfl ?_
        obtain ⟨b20, hT⟩ := ps_gd hK
        replace hK := hT
        clear hT
        refine ps_iast d_X9_numbers_53 at_342 a_8_15 (ps_in_of b20) ?_
        refine ps_nmS (fun σ11 eσ11 => ?_)
        replace hK := ps_ltE eσ11 hK
        refine pm_ald d_X9_numbers_54 rfl ?_
        refine ps_getR (q := 343) d_X9_numbers_55 at_327 f_8_0_36 rfl ?_
        refine pm_ild d_X9_numbers_58 rfl ?_
        refine pm_ild d_X9_numbers_59 rfl ?_
        obtain ⟨b19, hT⟩ := ps_gd hK
        replace hK := hT
        clear hT
        refine ps_iast d_X9_numbers_60 at_343 a_8_16 (ps_in_of b19) ?_
        refine ps_nmS (fun σ12 eσ12 => ?_)
        replace hK := ps_ltE eσ12 hK
        refine pm_ki d_X9_numbers_61 ?_
        refine pm_ist4 d_X9_numbers_62 rfl (by decide) ?_
        refine L_X9_numbers_64 _ (by decide) p1 p2 p3 _ _ _ (ps_ok.mono (ps_bdE hK) ?_)
        rintro v18 σ17 hT
        clear hK
        have hK := hT
        clear hT
        refine pm_ki d_X9_numbers_89 ?_
        have hQ := ps_so hK
        exact ps_iret rfl d_X9_numbers_90 ⟨_, rfl, hQ⟩
      · replace hK := ps_ifT c10 hK
        refine pm_ki d_X9_numbers_44 ?_
        have hQ := ps_so hK
        exact ps_iret rfl d_X9_numbers_46 ⟨_, rfl, hQ⟩
    · replace hK := ps_ifT c7 hK
      refine pm_ki d_X9_numbers_29 ?_
      have hQ := ps_so hK
      exact ps_iret rfl d_X9_numbers_31 ⟨_, rfl, hQ⟩
def qX9_oldest_40  (y1 : Int32) (y3 : Int32) : Nat → Int32 → Int32 → ps_S → Option (((Int32 × Int32)) × ps_S)
  | 0, _, _, _ => none
  | n + 1, x2, x4, σ =>
    ps_let (σ.1 328 2) fun v10 =>
    if v10 ≤ x4 then
    some ((x2, x4), σ)
    else
    ps_let (σ.1 335 0) fun v12 =>
    if ps_in ((13 + x4)) 83 = true then
    ps_let (σ.1 335 ((13 + x4)).toNatClampNeg) fun v13 =>
    ps_let ((v12 - v13)) fun v14 =>
    if ps_in ((1 + x4)) 83 = true then
    ps_let (σ.1 335 ((1 + x4)).toNatClampNeg) fun v15 =>
    if v15 ≤ 0 then
    ps_let (x4 + 1) fun v17 =>
    qX9_oldest_40 y1 y3 n x2 v17 σ
    else
    if v14 ≤ x2 then
    ps_let (x4 + 1) fun v19 =>
    qX9_oldest_40 y1 y3 n x2 v19 σ
    else
    ps_let (x4 + 1) fun v20 =>
    qX9_oldest_40 y1 y3 n v14 v20 σ
    else none
    else none
set_option maxRecDepth 100000 in
theorem L_X9_oldest_40 {g : pm_G} (D : Nat) (hD : 6 ≤ D) {P : Int32 → ps_S → Prop}  (y1 : Int32) (y3 : Int32) : ∀ (n : Nat) (x2 : Int32) (x4 : Int32) (σ : ps_S), ps_ok (qX9_oldest_40 y1 y3 n x2 x4 σ) (fun res σ => match res with | (x2, x4) => pm_W g mX9_oldest (ps_F g D (ps_qI P)) 0 0 101 [some (.ref (g.2.2.1 + 327)), some (.int y1), some (.int x2), some (.int y3), some (.int x4), none] [] 345 (ps_E g σ)) → pm_W g mX9_oldest (ps_F g D (ps_qI P)) 0 0 40 [some (.ref (g.2.2.1 + 327)), some (.int y1), some (.int x2), some (.int y3), some (.int x4), none] [] 345 (ps_E g σ) := by
  intro n
  induction n with
  | zero => intro x2 x4 σ hK; exact (ps_no hK).elim
  | succ n ih =>
    intro x2 x4 σ hK
    rw [qX9_oldest_40] at hK
    refine pm_ild d_X9_oldest_40 rfl ?_
    refine pm_ald d_X9_oldest_42 rfl ?_
    refine ps_getR (q := 328) d_X9_oldest_43 at_327 f_8_0_1 rfl ?_
    refine pm_ki d_X9_oldest_46 ?_
    refine ps_iald (x := σ.1 328 2) d_X9_oldest_47 at_328 a_8_1 (ps_in_of rfl) rfl ?_
    refine ps_topI (fun v10 ev10 => ?_)
    replace hK := ps_ltE ev10 hK
    refine pm_icmp_ge d_X9_oldest_48 (fun c11 => ?_) (fun c11 => ?_)
    · replace hK := ps_ifT c11 hK
      exact ps_so hK
    · replace hK := ps_ifF c11 hK
      refine pm_ald d_X9_oldest_51 rfl ?_
      refine ps_getR (q := 335) d_X9_oldest_52 at_327 f_8_0_19 rfl ?_
      refine pm_ki d_X9_oldest_55 ?_
      refine ps_iald (x := σ.1 335 0) d_X9_oldest_56 at_335 a_8_8 (ps_in_of rfl) rfl ?_
      refine ps_topI (fun v12 ev12 => ?_)
      replace hK := ps_ltE ev12 hK
      refine pm_ald d_X9_oldest_57 rfl ?_
      refine ps_getR (q := 335) d_X9_oldest_58 at_327 f_8_0_19 rfl ?_
      refine pm_ki d_X9_oldest_61 ?_
      refine pm_ild d_X9_oldest_63 rfl ?_
      refine pm_iadd d_X9_oldest_65 ?_
      obtain ⟨b22, hT⟩ := ps_gd hK
      replace hK := hT
      clear hT
      refine ps_iald d_X9_oldest_66 at_335 a_8_8 (ps_in_of b22) rfl ?_
      refine ps_topI (fun v13 ev13 => ?_)
      replace hK := ps_ltE ev13 hK
      refine pm_isub d_X9_oldest_67 ?_
      refine ps_topI (fun v14 ev14 => ?_)
      replace hK := ps_ltE ev14 hK
      refine pm_ist5 d_X9_oldest_68 rfl (by decide) ?_
      refine pm_ald d_X9_oldest_70 rfl ?_
      refine ps_getR (q := 335) d_X9_oldest_71 at_327 f_8_0_19 rfl ?_
      refine pm_ki d_X9_oldest_74 ?_
      refine pm_ild d_X9_oldest_75 rfl ?_
      refine pm_iadd d_X9_oldest_77 ?_
      obtain ⟨b21, hT⟩ := ps_gd hK
      replace hK := hT
      clear hT
      refine ps_iald d_X9_oldest_78 at_335 a_8_8 (ps_in_of b21) rfl ?_
      refine ps_topI (fun v15 ev15 => ?_)
      replace hK := ps_ltE ev15 hK
      refine pm_if_le d_X9_oldest_79 (fun c16 => ?_) (fun c16 => ?_)
      · replace hK := ps_ifT c16 hK
        refine pm_ild d_X9_oldest_93 rfl ?_
        refine pm_ist2 d_X9_oldest_94 rfl (by decide) ?_
        refine pm_inc4 d_X9_oldest_95 rfl ?_
        obtain ⟨v17, ev17⟩ : ∃ y : Int32, y = x4 + 1 := ⟨_, rfl⟩
        rw [← ev17]
        replace hK := ps_ltE ev17 hK
        refine pm_goto d_X9_oldest_98 ?_
        refine pm_wk (ls' := [some (.ref (g.2.2.1 + 327)), some (.int y1), some (.int x2), some (.int y3), some (.int v17), none]) ⟨rfl, ⟨rfl, ⟨rfl, ⟨rfl, ⟨rfl, trivial⟩⟩⟩⟩⟩ ?_
        exact ih _ _ _ hK
      · replace hK := ps_ifF c16 hK
        refine pm_ild d_X9_oldest_82 rfl ?_
        refine pm_ild d_X9_oldest_84 rfl ?_
        refine pm_icmp_le d_X9_oldest_85 (fun c18 => ?_) (fun c18 => ?_)
        · replace hK := ps_ifT c18 hK
          refine pm_ild d_X9_oldest_93 rfl ?_
          refine pm_ist2 d_X9_oldest_94 rfl (by decide) ?_
          refine pm_inc4 d_X9_oldest_95 rfl ?_
          obtain ⟨v19, ev19⟩ : ∃ y : Int32, y = x4 + 1 := ⟨_, rfl⟩
          rw [← ev19]
          replace hK := ps_ltE ev19 hK
          refine pm_goto d_X9_oldest_98 ?_
          refine pm_wk (ls' := [some (.ref (g.2.2.1 + 327)), some (.int y1), some (.int x2), some (.int y3), some (.int v19), none]) ⟨rfl, ⟨rfl, ⟨rfl, ⟨rfl, ⟨rfl, trivial⟩⟩⟩⟩⟩ ?_
          exact ih _ _ _ hK
        · replace hK := ps_ifF c18 hK
          refine pm_ild d_X9_oldest_88 rfl ?_
          refine pm_goto d_X9_oldest_90 ?_
          refine pm_ist2 d_X9_oldest_94 rfl (by decide) ?_
          refine pm_inc4 d_X9_oldest_95 rfl ?_
          obtain ⟨v20, ev20⟩ : ∃ y : Int32, y = x4 + 1 := ⟨_, rfl⟩
          rw [← ev20]
          replace hK := ps_ltE ev20 hK
          refine pm_goto d_X9_oldest_98 ?_
          refine pm_wk (ls' := [some (.ref (g.2.2.1 + 327)), some (.int y1), some (.int v14), some (.int y3), some (.int v20), none]) ⟨rfl, ⟨rfl, ⟨rfl, ⟨rfl, ⟨rfl, trivial⟩⟩⟩⟩⟩ ?_
          exact ih _ _ _ hK
def qX9_oldest_28  (y1 : Int32) : Nat → Int32 → Int32 → ps_S → Option (((Int32 × Int32)) × ps_S)
  | 0, _, _, _ => none
  | n + 1, x2, x3, σ =>
    if y1 ≤ x3 then
    some ((x2, x3), σ)
    else
    ps_bd (qX9_ticksOnce σ) (fun _ σ9 =>
    ps_bd (qX9_oldest_40 y1 x3 ps_N x2 0 σ9) (fun res σ23 => match res with
    | (v24, v25) =>
      ps_let (x3 + 1) fun v26 =>
      qX9_oldest_28 y1 n v24 v26 σ23))
set_option maxRecDepth 100000 in
theorem L_X9_oldest_28 {g : pm_G} (D : Nat) (hD : 6 ≤ D) {P : Int32 → ps_S → Prop}  (y1 : Int32) : ∀ (n : Nat) (x2 : Int32) (x3 : Int32) (σ : ps_S), ps_ok (qX9_oldest_28 y1 n x2 x3 σ) (fun res σ => match res with | (x2, x3) => pm_W g mX9_oldest (ps_F g D (ps_qI P)) 0 0 107 [some (.ref (g.2.2.1 + 327)), some (.int y1), some (.int x2), some (.int x3), none, none] [] 345 (ps_E g σ)) → pm_W g mX9_oldest (ps_F g D (ps_qI P)) 0 0 28 [some (.ref (g.2.2.1 + 327)), some (.int y1), some (.int x2), some (.int x3), none, none] [] 345 (ps_E g σ) := by
  intro n
  induction n with
  | zero => intro x2 x3 σ hK; exact (ps_no hK).elim
  | succ n ih =>
    intro x2 x3 σ hK
    rw [qX9_oldest_28] at hK
    refine pm_ild d_X9_oldest_28 rfl ?_
    refine pm_ild d_X9_oldest_29 rfl ?_
    refine pm_icmp_ge d_X9_oldest_30 (fun c7 => ?_) (fun c7 => ?_)
    · replace hK := ps_ifT c7 hK
      exact ps_so hK
    · replace hK := ps_ifF c7 hK
      refine pm_ald d_X9_oldest_33 rfl ?_
      refine ps_cVV d_X9_oldest_34 mv_X9_ticksOnce at_327 ob_8_0 rfl (As := []) rfl rfl (ps_room.of (by omega) (by decide)) (Nat.le_of_ble_eq_true rfl) (C_X9_ticksOnce σ _ (ps_bdE hK)) ?_
      intro σ9 hT
      clear hK
      have hK := hT
      clear hT
      refine pm_ki d_X9_oldest_37 ?_
      refine pm_ist4 d_X9_oldest_38 rfl (by decide) ?_
      refine L_X9_oldest_40 D hD y1 x3 _ _ _ _ (ps_ok.mono (ps_bdE hK) ?_)
      rintro ⟨v24, v25⟩ σ23 hT
      clear hK
      have hK := hT
      clear hT
      refine pm_inc3 d_X9_oldest_101 rfl ?_
      obtain ⟨v26, ev26⟩ : ∃ y : Int32, y = x3 + 1 := ⟨_, rfl⟩
      rw [← ev26]
      replace hK := ps_ltE ev26 hK
      refine pm_goto d_X9_oldest_104 ?_
      refine pm_wk (ls' := [some (.ref (g.2.2.1 + 327)), some (.int y1), some (.int v24), some (.int v26), none, none]) ⟨rfl, ⟨rfl, ⟨rfl, ⟨rfl, trivial⟩⟩⟩⟩ ?_
      exact ih _ _ _ hK
def qX9_oldest (p1 : Int32) (σ : ps_S) : Option (Int32 × ps_S) :=
  ps_let (ps_rI σ 327 (upd (σ.1 327) 0 0)) fun σ1 =>
  ps_bd (qX9_within (((p1).toInt64)) 1 999 σ1) (fun v2 σ3 =>
  if v2 = 0 then
  some ((-3), σ3)
  else
  ps_bd (qX9_begins σ3) (fun _ σ6 =>
  ps_bd (qX9_oldest_28 p1 ps_N ((-1)) 0 σ6) (fun res σ27 => match res with
  | (v28, v29) =>
    some (v28, σ27))))
set_option maxRecDepth 100000 in
theorem C_X9_oldest {g : pm_G} (p1 : Int32) (σ : ps_S) (P : Int32 → ps_S → Prop) (hK : ps_ok (qX9_oldest p1 σ) P) : ps_C g mX9_oldest 6 [.ref (g.2.2.1 + 327), .int p1] σ (ps_qI P) := by
  unfold qX9_oldest at hK
  refine ps_C.of (ls := [some (.ref (g.2.2.1 + 327)), some (.int p1), none, none, none, none]) 4 (by decide) rfl (Nat.le_of_ble_eq_true rfl) rfl ?_
  refine pm_ald d_X9_oldest_0 rfl ?_
  refine pm_ki d_X9_oldest_1 ?_
  refine ps_putI d_X9_oldest_2 at_327 f_8_0_0 rfl rfl ?_
  refine ps_nmS (fun σ1 eσ1 => ?_)
  replace hK := ps_ltE eσ1 hK
  refine pm_ild d_X9_oldest_5 rfl ?_
  refine pm_i2l d_X9_oldest_6 ?_
  refine pm_kl d_X9_oldest_7 ?_
  refine pm_kl d_X9_oldest_8 ?_
  refine ps_cSI d_X9_oldest_11 ms_X9_within (As := [.long ((p1).toInt64), .long 1, .long 999]) rfl rfl (ps_room.of (by omega) (by decide)) (Nat.le_of_ble_eq_true rfl) (C_X9_within (((p1).toInt64)) 1 999 σ1 _ (ps_bdE hK)) ?_
  intro v2 σ3 hT
  clear hK
  have hK := hT
  clear hT
  refine pm_if_ne d_X9_oldest_14 (fun c4 => ?_) (fun c4 => ?_)
  · replace hK := ps_ifF c4 hK
    refine pm_ald d_X9_oldest_20 rfl ?_
    refine ps_cVV d_X9_oldest_21 mv_X9_begins at_327 ob_8_0 rfl (As := []) rfl rfl (ps_room.of (by omega) (by decide)) (Nat.le_of_ble_eq_true rfl) (C_X9_begins σ3 _ (ps_bdE hK)) ?_
    intro σ6 hT
    clear hK
    have hK := hT
    clear hT
    refine pm_ki d_X9_oldest_24 ?_
    refine pm_ist2 d_X9_oldest_25 rfl (by decide) ?_
    refine pm_ki d_X9_oldest_26 ?_
    refine pm_ist3 d_X9_oldest_27 rfl (by decide) ?_
    refine L_X9_oldest_28 _ (by decide) p1 _ _ _ _ (ps_ok.mono (ps_bdE hK) ?_)
    rintro ⟨v28, v29⟩ σ27 hT
    clear hK
    have hK := hT
    clear hT
    refine pm_ild d_X9_oldest_107 rfl ?_
    have hQ := ps_so hK
    exact ps_iret rfl d_X9_oldest_108 ⟨_, rfl, hQ⟩
  · replace hK := ps_ifT c4 hK
    refine pm_ki d_X9_oldest_17 ?_
    have hQ := ps_so hK
    exact ps_iret rfl d_X9_oldest_19 ⟨_, rfl, hQ⟩
def qX9_passes_26  (y1 : Int32) : Nat → Int32 → ps_S → Option ((Int32 ⊕ (Int32)) × ps_S)
  | 0, _, _ => none
  | n + 1, x2, σ =>
    if 999 < x2 then
    some (.inr x2, σ)
    else
    ps_bd (qX9_allNow σ) (fun v8 σ9 =>
    if v8 ≤ y1 then
    ps_bd (qX9_ticksOnce σ9) (fun _ σ12 =>
    ps_let (x2 + 1) fun v13 =>
    qX9_passes_26 y1 n v13 σ12)
    else
    some (.inl x2, σ9))
set_option maxRecDepth 100000 in
theorem L_X9_passes_26 {g : pm_G} (D : Nat) (hD : 6 ≤ D) {P : Int32 → ps_S → Prop}  (y1 : Int32) : ∀ (n : Nat) (x2 : Int32) (σ : ps_S), ps_ok (qX9_passes_26 y1 n x2 σ) (fun res σ => match res with | .inl r => P r σ | .inr x2 => pm_W g mX9_passes (ps_F g D (ps_qI P)) 0 0 53 [some (.ref (g.2.2.1 + 327)), some (.int y1), some (.int x2)] [] 345 (ps_E g σ)) → pm_W g mX9_passes (ps_F g D (ps_qI P)) 0 0 26 [some (.ref (g.2.2.1 + 327)), some (.int y1), some (.int x2)] [] 345 (ps_E g σ) := by
  intro n
  induction n with
  | zero => intro x2 σ hK; exact (ps_no hK).elim
  | succ n ih =>
    intro x2 σ hK
    rw [qX9_passes_26] at hK
    refine pm_ild d_X9_passes_26 rfl ?_
    refine pm_ki d_X9_passes_27 ?_
    refine pm_icmp_gt d_X9_passes_30 (fun c7 => ?_) (fun c7 => ?_)
    · replace hK := ps_ifT c7 hK
      exact ps_so hK
    · replace hK := ps_ifF c7 hK
      refine pm_ald d_X9_passes_33 rfl ?_
      refine ps_cVI d_X9_passes_34 mv_X9_allNow at_327 ob_8_0 rfl (As := []) rfl rfl (ps_room.of (by omega) (by decide)) (Nat.le_of_ble_eq_true rfl) (C_X9_allNow σ _ (ps_bdE hK)) ?_
      intro v8 σ9 hT
      clear hK
      have hK := hT
      clear hT
      refine pm_ild d_X9_passes_37 rfl ?_
      refine pm_icmp_le d_X9_passes_38 (fun c10 => ?_) (fun c10 => ?_)
      · replace hK := ps_ifT c10 hK
        refine pm_ald d_X9_passes_43 rfl ?_
        refine ps_cVV d_X9_passes_44 mv_X9_ticksOnce at_327 ob_8_0 rfl (As := []) rfl rfl (ps_room.of (by omega) (by decide)) (Nat.le_of_ble_eq_true rfl) (C_X9_ticksOnce σ9 _ (ps_bdE hK)) ?_
        intro σ12 hT
        clear hK
        have hK := hT
        clear hT
        refine pm_inc2 d_X9_passes_47 rfl ?_
        obtain ⟨v13, ev13⟩ : ∃ y : Int32, y = x2 + 1 := ⟨_, rfl⟩
        rw [← ev13]
        replace hK := ps_ltE ev13 hK
        refine pm_goto d_X9_passes_50 ?_
        exact ih _ _ hK
      · replace hK := ps_ifF c10 hK
        refine pm_ild d_X9_passes_41 rfl ?_
        have hQ := ps_so hK
        exact ps_iret rfl d_X9_passes_42 ⟨_, rfl, hQ⟩
def qX9_passes (p1 : Int32) (σ : ps_S) : Option (Int32 × ps_S) :=
  ps_let (ps_rI σ 327 (upd (σ.1 327) 0 0)) fun σ1 =>
  ps_bd (qX9_within (((p1).toInt64)) 0 999 σ1) (fun v2 σ3 =>
  if v2 = 0 then
  some ((-3), σ3)
  else
  ps_bd (qX9_begins σ3) (fun _ σ6 =>
  ps_bd (qX9_passes_26 p1 ps_N 0 σ6) (fun res σ14 => match res with
  | .inl r => some (r, σ14)
  | .inr v15 =>
    some ((-1), σ14))))
set_option maxRecDepth 100000 in
theorem C_X9_passes {g : pm_G} (p1 : Int32) (σ : ps_S) (P : Int32 → ps_S → Prop) (hK : ps_ok (qX9_passes p1 σ) P) : ps_C g mX9_passes 6 [.ref (g.2.2.1 + 327), .int p1] σ (ps_qI P) := by
  unfold qX9_passes at hK
  refine ps_C.of (ls := [some (.ref (g.2.2.1 + 327)), some (.int p1), none]) 1 (by decide) rfl (Nat.le_of_ble_eq_true rfl) rfl ?_
  refine pm_ald d_X9_passes_0 rfl ?_
  refine pm_ki d_X9_passes_1 ?_
  refine ps_putI d_X9_passes_2 at_327 f_8_0_0 rfl rfl ?_
  refine ps_nmS (fun σ1 eσ1 => ?_)
  replace hK := ps_ltE eσ1 hK
  refine pm_ild d_X9_passes_5 rfl ?_
  refine pm_i2l d_X9_passes_6 ?_
  refine pm_kl d_X9_passes_7 ?_
  refine pm_kl d_X9_passes_8 ?_
  refine ps_cSI d_X9_passes_11 ms_X9_within (As := [.long ((p1).toInt64), .long 0, .long 999]) rfl rfl (ps_room.of (by omega) (by decide)) (Nat.le_of_ble_eq_true rfl) (C_X9_within (((p1).toInt64)) 0 999 σ1 _ (ps_bdE hK)) ?_
  intro v2 σ3 hT
  clear hK
  have hK := hT
  clear hT
  refine pm_if_ne d_X9_passes_14 (fun c4 => ?_) (fun c4 => ?_)
  · replace hK := ps_ifF c4 hK
    refine pm_ald d_X9_passes_20 rfl ?_
    refine ps_cVV d_X9_passes_21 mv_X9_begins at_327 ob_8_0 rfl (As := []) rfl rfl (ps_room.of (by omega) (by decide)) (Nat.le_of_ble_eq_true rfl) (C_X9_begins σ3 _ (ps_bdE hK)) ?_
    intro σ6 hT
    clear hK
    have hK := hT
    clear hT
    refine pm_ki d_X9_passes_24 ?_
    refine pm_ist2 d_X9_passes_25 rfl (by decide) ?_
    refine L_X9_passes_26 _ (by decide) p1 _ _ _ (ps_ok.mono (ps_bdE hK) ?_)
    intro res σ14 hT
    clear hK
    match res, hT with
    | .inl r, hT => exact ps_so hT
    | .inr v15, hT =>
      have hK := hT
      clear hT
      refine pm_ki d_X9_passes_53 ?_
      have hQ := ps_so hK
      exact ps_iret rfl d_X9_passes_54 ⟨_, rfl, hQ⟩
  · replace hK := ps_ifT c4 hK
    refine pm_ki d_X9_passes_17 ?_
    have hQ := ps_so hK
    exact ps_iret rfl d_X9_passes_19 ⟨_, rfl, hQ⟩
def qX9_pause (p1 : Int32) (p2 : Int32) (σ : ps_S) : Option (Int32 × ps_S) :=
  ps_let (ps_rI σ 327 (upd (σ.1 327) 0 0)) fun σ1 =>
  ps_bd (qX9_isWriter (((p1).toInt64)) σ1) (fun v2 σ3 =>
  if v2 = 0 then
  some ((-2), σ3)
  else
  ps_bd (qX9_within (((p2).toInt64)) 1 99 σ3) (fun v5 σ6 =>
  if v5 = 0 then
  some ((-3), σ6)
  else
  ps_bd (qX9_begins σ6) (fun _ σ9 =>
  ps_bd (qX9_allNow σ9) (fun v10 σ11 =>
  ps_bd (qX9_freeNow σ11) (fun v12 σ13 =>
  if v10 ≤ v12 then
  some (0, σ13)
  else
  ps_bd (qX9_pauseOf p1 p2 σ13) (fun v15 σ16 =>
  some (v15, σ16)))))))
set_option maxRecDepth 100000 in
theorem C_X9_pause {g : pm_G} (p1 : Int32) (p2 : Int32) (σ : ps_S) (P : Int32 → ps_S → Prop) (hK : ps_ok (qX9_pause p1 p2 σ) P) : ps_C g mX9_pause 4 [.ref (g.2.2.1 + 327), .int p1, .int p2] σ (ps_qI P) := by
  unfold qX9_pause at hK
  refine ps_C.of (ls := [some (.ref (g.2.2.1 + 327)), some (.int p1), some (.int p2)]) 0 (by decide) rfl (Nat.le_of_ble_eq_true rfl) rfl ?_
  refine pm_ald d_X9_pause_0 rfl ?_
  refine pm_ki d_X9_pause_1 ?_
  refine ps_putI d_X9_pause_2 at_327 f_8_0_0 rfl rfl ?_
  refine ps_nmS (fun σ1 eσ1 => ?_)
  replace hK := ps_ltE eσ1 hK
  refine pm_ald d_X9_pause_5 rfl ?_
  refine pm_ild d_X9_pause_6 rfl ?_
  refine pm_i2l d_X9_pause_7 ?_
  refine ps_cVI d_X9_pause_8 mv_X9_isWriter at_327 ob_8_0 rfl (As := [.long ((p1).toInt64)]) rfl rfl (ps_room.of (by omega) (by decide)) (Nat.le_of_ble_eq_true rfl) (C_X9_isWriter (((p1).toInt64)) σ1 _ (ps_bdE hK)) ?_
  intro v2 σ3 hT
  clear hK
  have hK := hT
  clear hT
  refine pm_if_ne d_X9_pause_11 (fun c4 => ?_) (fun c4 => ?_)
  · replace hK := ps_ifF c4 hK
    refine pm_ild d_X9_pause_17 rfl ?_
    refine pm_i2l d_X9_pause_18 ?_
    refine pm_kl d_X9_pause_19 ?_
    refine pm_kl d_X9_pause_20 ?_
    refine ps_cSI d_X9_pause_23 ms_X9_within (As := [.long ((p2).toInt64), .long 1, .long 99]) rfl rfl (ps_room.of (by omega) (by decide)) (Nat.le_of_ble_eq_true rfl) (C_X9_within (((p2).toInt64)) 1 99 σ3 _ (ps_bdE hK)) ?_
    intro v5 σ6 hT
    clear hK
    have hK := hT
    clear hT
    refine pm_if_ne d_X9_pause_26 (fun c7 => ?_) (fun c7 => ?_)
    · replace hK := ps_ifF c7 hK
      refine pm_ald d_X9_pause_32 rfl ?_
      refine ps_cVV d_X9_pause_33 mv_X9_begins at_327 ob_8_0 rfl (As := []) rfl rfl (ps_room.of (by omega) (by decide)) (Nat.le_of_ble_eq_true rfl) (C_X9_begins σ6 _ (ps_bdE hK)) ?_
      intro σ9 hT
      clear hK
      have hK := hT
      clear hT
      refine pm_ald d_X9_pause_36 rfl ?_
      refine ps_cVI d_X9_pause_37 mv_X9_allNow at_327 ob_8_0 rfl (As := []) rfl rfl (ps_room.of (by omega) (by decide)) (Nat.le_of_ble_eq_true rfl) (C_X9_allNow σ9 _ (ps_bdE hK)) ?_
      intro v10 σ11 hT
      clear hK
      have hK := hT
      clear hT
      refine pm_ald d_X9_pause_40 rfl ?_
      refine ps_cVI d_X9_pause_41 mv_X9_freeNow at_327 ob_8_0 rfl (As := []) rfl rfl (ps_room.of (by omega) (by decide)) (Nat.le_of_ble_eq_true rfl) (C_X9_freeNow σ11 _ (ps_bdE hK)) ?_
      intro v12 σ13 hT
      clear hK
      have hK := hT
      clear hT
      refine pm_icmp_le d_X9_pause_44 (fun c14 => ?_) (fun c14 => ?_)
      · replace hK := ps_ifT c14 hK
        refine pm_ki d_X9_pause_56 ?_
        have hQ := ps_so hK
        exact ps_iret rfl d_X9_pause_57 ⟨_, rfl, hQ⟩
      · replace hK := ps_ifF c14 hK
        refine pm_ald d_X9_pause_47 rfl ?_
        refine pm_ild d_X9_pause_48 rfl ?_
        refine pm_ild d_X9_pause_49 rfl ?_
        refine ps_cVI d_X9_pause_50 mv_X9_pauseOf at_327 ob_8_0 rfl (As := [.int p1, .int p2]) rfl rfl (ps_room.of (by omega) (by decide)) (Nat.le_of_ble_eq_true rfl) (C_X9_pauseOf p1 p2 σ13 _ (ps_bdE hK)) ?_
        intro v15 σ16 hT
        clear hK
        have hK := hT
        clear hT
        refine pm_goto d_X9_pause_53 ?_
        have hQ := ps_so hK
        exact ps_iret rfl d_X9_pause_57 ⟨_, rfl, hQ⟩
    · replace hK := ps_ifT c7 hK
      refine pm_ki d_X9_pause_29 ?_
      have hQ := ps_so hK
      exact ps_iret rfl d_X9_pause_31 ⟨_, rfl, hQ⟩
  · replace hK := ps_ifT c4 hK
    refine pm_ki d_X9_pause_14 ?_
    have hQ := ps_so hK
    exact ps_iret rfl d_X9_pause_16 ⟨_, rfl, hQ⟩
def qX9_perform (p1 : Int32) (σ : ps_S) : Option (Int32 × ps_S) :=
  ps_let (ps_rI σ 327 (upd (σ.1 327) 0 0)) fun σ1 =>
  ps_bd (qX9_noTray p1 σ1) (fun v2 σ3 =>
  if v2 = 0 then
  ps_bd (qX9_stores σ3) (fun _ σ6 =>
  ps_bd (qX9_tells p1 σ6) (fun v7 σ8 =>
  if v7 ≤ 0 then
  some (v7, σ8)
  else
  ps_bd (qX9_notes σ8) (fun _ σ11 =>
  some (v7, σ11))))
  else
  some (v2, σ3))
set_option maxRecDepth 100000 in
theorem C_X9_perform {g : pm_G} (p1 : Int32) (σ : ps_S) (P : Int32 → ps_S → Prop) (hK : ps_ok (qX9_perform p1 σ) P) : ps_C g mX9_perform 10 [.ref (g.2.2.1 + 327), .int p1] σ (ps_qI P) := by
  unfold qX9_perform at hK
  refine ps_C.of (ls := [some (.ref (g.2.2.1 + 327)), some (.int p1), none, none]) 2 (by decide) rfl (Nat.le_of_ble_eq_true rfl) rfl ?_
  refine pm_ald d_X9_perform_0 rfl ?_
  refine pm_ki d_X9_perform_1 ?_
  refine ps_putI d_X9_perform_2 at_327 f_8_0_0 rfl rfl ?_
  refine ps_nmS (fun σ1 eσ1 => ?_)
  replace hK := ps_ltE eσ1 hK
  refine pm_ald d_X9_perform_5 rfl ?_
  refine pm_ild d_X9_perform_6 rfl ?_
  refine ps_cVI d_X9_perform_7 mv_X9_noTray at_327 ob_8_0 rfl (As := [.int p1]) rfl rfl (ps_room.of (by omega) (by decide)) (Nat.le_of_ble_eq_true rfl) (C_X9_noTray p1 σ1 _ (ps_bdE hK)) ?_
  intro v2 σ3 hT
  clear hK
  have hK := hT
  clear hT
  refine pm_ist2 d_X9_perform_10 rfl (by decide) ?_
  refine pm_ild d_X9_perform_11 rfl ?_
  refine pm_if_eq d_X9_perform_12 (fun c4 => ?_) (fun c4 => ?_)
  · replace hK := ps_ifT c4 hK
    refine pm_ald d_X9_perform_17 rfl ?_
    refine ps_cVV d_X9_perform_18 mv_X9_stores at_327 ob_8_0 rfl (As := []) rfl rfl (ps_room.of (by omega) (by decide)) (Nat.le_of_ble_eq_true rfl) (C_X9_stores σ3 _ (ps_bdE hK)) ?_
    intro σ6 hT
    clear hK
    have hK := hT
    clear hT
    refine pm_ald d_X9_perform_21 rfl ?_
    refine pm_ild d_X9_perform_22 rfl ?_
    refine ps_cVI d_X9_perform_23 mv_X9_tells at_327 ob_8_0 rfl (As := [.int p1]) rfl rfl (ps_room.of (by omega) (by decide)) (Nat.le_of_ble_eq_true rfl) (C_X9_tells p1 σ6 _ (ps_bdE hK)) ?_
    intro v7 σ8 hT
    clear hK
    have hK := hT
    clear hT
    refine pm_ist3 d_X9_perform_26 rfl (by decide) ?_
    refine pm_ild d_X9_perform_27 rfl ?_
    refine pm_if_le d_X9_perform_28 (fun c9 => ?_) (fun c9 => ?_)
    · replace hK := ps_ifT c9 hK
      refine pm_ild d_X9_perform_35 rfl ?_
      have hQ := ps_so hK
      exact ps_iret rfl d_X9_perform_36 ⟨_, rfl, hQ⟩
    · replace hK := ps_ifF c9 hK
      refine pm_ald d_X9_perform_31 rfl ?_
      refine ps_cVV d_X9_perform_32 mv_X9_notes at_327 ob_8_0 rfl (As := []) rfl rfl (ps_room.of (by omega) (by decide)) (Nat.le_of_ble_eq_true rfl) (C_X9_notes σ8 _ (ps_bdE hK)) ?_
      intro σ11 hT
      clear hK
      have hK := hT
      clear hT
      refine pm_ild d_X9_perform_35 rfl ?_
      have hQ := ps_so hK
      exact ps_iret rfl d_X9_perform_36 ⟨_, rfl, hQ⟩
  · replace hK := ps_ifF c4 hK
    refine pm_ild d_X9_perform_15 rfl ?_
    have hQ := ps_so hK
    exact ps_iret rfl d_X9_perform_16 ⟨_, rfl, hQ⟩
def qX9_restore_32  (y1 : Int32) : Nat → Int32 → ps_S → Option (((Int32)) × ps_S)
  | 0, _, _ => none
  | n + 1, x2, σ =>
    if 1850 ≤ x2 then
    some (x2, σ)
    else
    if ps_in ((((1850 * ((y1 + 1)))) + x2)) 5550 = true then
    ps_let (σ.1 328 ((((1850 * ((y1 + 1)))) + x2)).toNatClampNeg) fun v8 =>
    if ps_in x2 5550 = true then
    ps_let (ps_rI σ 328 (upd (σ.1 328) (x2).toNatClampNeg v8)) fun σ9 =>
    ps_let (x2 + 1) fun v10 =>
    qX9_restore_32 y1 n v10 σ9
    else none
    else none
set_option maxRecDepth 100000 in
theorem L_X9_restore_32 {g : pm_G} (D : Nat) (hD : 2 ≤ D) {P : Int32 → ps_S → Prop}  (y1 : Int32) : ∀ (n : Nat) (x2 : Int32) (σ : ps_S), ps_ok (qX9_restore_32 y1 n x2 σ) (fun res σ => match res with | x2 => pm_W g mX9_restore (ps_F g D (ps_qI P)) 0 0 65 [some (.ref (g.2.2.1 + 327)), some (.int y1), some (.int x2)] [] 345 (ps_E g σ)) → pm_W g mX9_restore (ps_F g D (ps_qI P)) 0 0 32 [some (.ref (g.2.2.1 + 327)), some (.int y1), some (.int x2)] [] 345 (ps_E g σ) := by
  intro n
  induction n with
  | zero => intro x2 σ hK; exact (ps_no hK).elim
  | succ n ih =>
    intro x2 σ hK
    rw [qX9_restore_32] at hK
    refine pm_ild d_X9_restore_32 rfl ?_
    refine pm_ki d_X9_restore_33 ?_
    refine pm_icmp_ge d_X9_restore_36 (fun c7 => ?_) (fun c7 => ?_)
    · replace hK := ps_ifT c7 hK
      exact ps_so hK
    · replace hK := ps_ifF c7 hK
      refine pm_ald d_X9_restore_39 rfl ?_
      refine ps_getR (q := 328) d_X9_restore_40 at_327 f_8_0_1 rfl ?_
      refine pm_ild d_X9_restore_43 rfl ?_
      refine pm_ald d_X9_restore_44 rfl ?_
      refine ps_getR (q := 328) d_X9_restore_45 at_327 f_8_0_1 rfl ?_
      refine pm_ki d_X9_restore_48 ?_
      refine pm_ild d_X9_restore_51 rfl ?_
      refine pm_ki d_X9_restore_52 ?_
      refine pm_iadd d_X9_restore_53 ?_
      refine pm_imul d_X9_restore_54 ?_
      refine pm_ild d_X9_restore_55 rfl ?_
      refine pm_iadd d_X9_restore_56 ?_
      obtain ⟨b12, hT⟩ := ps_gd hK
      replace hK := hT
      clear hT
      refine ps_iald d_X9_restore_57 at_328 a_8_1 (ps_in_of b12) rfl ?_
      refine ps_topI (fun v8 ev8 => ?_)
      replace hK := ps_ltE ev8 hK
      obtain ⟨b11, hT⟩ := ps_gd hK
      replace hK := hT
      clear hT
      refine ps_iast d_X9_restore_58 at_328 a_8_1 (ps_in_of b11) ?_
      refine ps_nmS (fun σ9 eσ9 => ?_)
      replace hK := ps_ltE eσ9 hK
      refine pm_inc2 d_X9_restore_59 rfl ?_
      obtain ⟨v10, ev10⟩ : ∃ y : Int32, y = x2 + 1 := ⟨_, rfl⟩
      rw [← ev10]
      replace hK := ps_ltE ev10 hK
      refine pm_goto d_X9_restore_62 ?_
      exact ih _ _ hK
def qX9_restore_67  (y1 : Int32) : Nat → Int32 → ps_S → Option (((Int32)) × ps_S)
  | 0, _, _ => none
  | n + 1, x2, σ =>
    if 44 ≤ x2 then
    some (x2, σ)
    else
    if ps_in ((((44 * ((y1 + 1)))) + x2)) 132 = true then
    ps_let (σ.2.2 329 ((((44 * ((y1 + 1)))) + x2)).toNatClampNeg) fun v16 =>
    if ps_in x2 132 = true then
    ps_let (ps_rD σ 329 (vf_upd (σ.2.2 329) (x2).toNatClampNeg v16)) fun σ17 =>
    ps_let (x2 + 1) fun v18 =>
    qX9_restore_67 y1 n v18 σ17
    else none
    else none
set_option maxRecDepth 100000 in
theorem L_X9_restore_67 {g : pm_G} (D : Nat) (hD : 2 ≤ D) {P : Int32 → ps_S → Prop}  (y1 : Int32) : ∀ (n : Nat) (x2 : Int32) (σ : ps_S), ps_ok (qX9_restore_67 y1 n x2 σ) (fun res σ => match res with | x2 => pm_W g mX9_restore (ps_F g D (ps_qI P)) 0 0 98 [some (.ref (g.2.2.1 + 327)), some (.int y1), some (.int x2)] [] 345 (ps_E g σ)) → pm_W g mX9_restore (ps_F g D (ps_qI P)) 0 0 67 [some (.ref (g.2.2.1 + 327)), some (.int y1), some (.int x2)] [] 345 (ps_E g σ) := by
  intro n
  induction n with
  | zero => intro x2 σ hK; exact (ps_no hK).elim
  | succ n ih =>
    intro x2 σ hK
    rw [qX9_restore_67] at hK
    refine pm_ild d_X9_restore_67 rfl ?_
    refine pm_ki d_X9_restore_68 ?_
    refine pm_icmp_ge d_X9_restore_70 (fun c15 => ?_) (fun c15 => ?_)
    · replace hK := ps_ifT c15 hK
      exact ps_so hK
    · replace hK := ps_ifF c15 hK
      refine pm_ald d_X9_restore_73 rfl ?_
      refine ps_getR (q := 329) d_X9_restore_74 at_327 f_8_0_2 rfl ?_
      refine pm_ild d_X9_restore_77 rfl ?_
      refine pm_ald d_X9_restore_78 rfl ?_
      refine ps_getR (q := 329) d_X9_restore_79 at_327 f_8_0_2 rfl ?_
      refine pm_ki d_X9_restore_82 ?_
      refine pm_ild d_X9_restore_84 rfl ?_
      refine pm_ki d_X9_restore_85 ?_
      refine pm_iadd d_X9_restore_86 ?_
      refine pm_imul d_X9_restore_87 ?_
      refine pm_ild d_X9_restore_88 rfl ?_
      refine pm_iadd d_X9_restore_89 ?_
      obtain ⟨b20, hT⟩ := ps_gd hK
      replace hK := hT
      clear hT
      refine ps_dald d_X9_restore_90 at_329 a_8_2 (ps_in_of b20) rfl ?_
      refine ps_topD (fun v16 ev16 => ?_)
      replace hK := ps_ltE ev16 hK
      obtain ⟨b19, hT⟩ := ps_gd hK
      replace hK := hT
      clear hT
      refine ps_dast d_X9_restore_91 at_329 a_8_2 (ps_in_of b19) ?_
      refine ps_nmS (fun σ17 eσ17 => ?_)
      replace hK := ps_ltE eσ17 hK
      refine pm_inc2 d_X9_restore_92 rfl ?_
      obtain ⟨v18, ev18⟩ : ∃ y : Int32, y = x2 + 1 := ⟨_, rfl⟩
      rw [← ev18]
      replace hK := ps_ltE ev18 hK
      refine pm_goto d_X9_restore_95 ?_
      exact ih _ _ hK
def qX9_restore (p1 : Int32) (σ : ps_S) : Option (Int32 × ps_S) :=
  ps_let (ps_rI σ 327 (upd (σ.1 327) 0 0)) fun σ1 =>
  ps_bd (qX9_within (((p1).toInt64)) 0 1 σ1) (fun v2 σ3 =>
  if v2 = 0 then
  some ((-2), σ3)
  else
  if ps_in p1 2 = true then
  ps_let (σ3.1 330 (p1).toNatClampNeg) fun v5 =>
  if v5 = 0 then
  some ((-5), σ3)
  else
  ps_bd (qX9_restore_32 p1 ps_N 0 σ3) (fun res σ13 => match res with
  | v14 =>
    ps_bd (qX9_restore_67 p1 ps_N 0 σ13) (fun res σ21 => match res with
    | v22 =>
      ps_let (ps_rI σ21 328 (upd (σ21.1 328) 118 0)) fun σ23 =>
      some (0, σ23)))
  else none)
set_option maxRecDepth 100000 in
theorem C_X9_restore {g : pm_G} (p1 : Int32) (σ : ps_S) (P : Int32 → ps_S → Prop) (hK : ps_ok (qX9_restore p1 σ) P) : ps_C g mX9_restore 2 [.ref (g.2.2.1 + 327), .int p1] σ (ps_qI P) := by
  unfold qX9_restore at hK
  refine ps_C.of (ls := [some (.ref (g.2.2.1 + 327)), some (.int p1), none]) 1 (by decide) rfl (Nat.le_of_ble_eq_true rfl) rfl ?_
  refine pm_ald d_X9_restore_0 rfl ?_
  refine pm_ki d_X9_restore_1 ?_
  refine ps_putI d_X9_restore_2 at_327 f_8_0_0 rfl rfl ?_
  refine ps_nmS (fun σ1 eσ1 => ?_)
  replace hK := ps_ltE eσ1 hK
  refine pm_ild d_X9_restore_5 rfl ?_
  refine pm_i2l d_X9_restore_6 ?_
  refine pm_kl d_X9_restore_7 ?_
  refine pm_kl d_X9_restore_8 ?_
  refine ps_cSI d_X9_restore_9 ms_X9_within (As := [.long ((p1).toInt64), .long 0, .long 1]) rfl rfl (ps_room.of (by omega) (by decide)) (Nat.le_of_ble_eq_true rfl) (C_X9_within (((p1).toInt64)) 0 1 σ1 _ (ps_bdE hK)) ?_
  intro v2 σ3 hT
  clear hK
  have hK := hT
  clear hT
  refine pm_if_ne d_X9_restore_12 (fun c4 => ?_) (fun c4 => ?_)
  · replace hK := ps_ifF c4 hK
    refine pm_ald d_X9_restore_18 rfl ?_
    refine ps_getR (q := 330) d_X9_restore_19 at_327 f_8_0_3 rfl ?_
    refine pm_ild d_X9_restore_22 rfl ?_
    obtain ⟨b24, hT⟩ := ps_gd hK
    replace hK := hT
    clear hT
    refine ps_zald d_X9_restore_23 at_330 a_8_3 (ps_in_of b24) rfl ?_
    refine ps_topI (fun v5 ev5 => ?_)
    replace hK := ps_ltE ev5 hK
    refine pm_if_ne d_X9_restore_24 (fun c6 => ?_) (fun c6 => ?_)
    · replace hK := ps_ifF c6 hK
      refine pm_ki d_X9_restore_30 ?_
      refine pm_ist2 d_X9_restore_31 rfl (by decide) ?_
      refine L_X9_restore_32 _ (by decide) p1 _ _ _ (ps_ok.mono (ps_bdE hK) ?_)
      rintro v14 σ13 hT
      clear hK
      have hK := hT
      clear hT
      refine pm_ki d_X9_restore_65 ?_
      refine pm_ist2 d_X9_restore_66 rfl (by decide) ?_
      refine L_X9_restore_67 _ (by decide) p1 _ _ _ (ps_ok.mono (ps_bdE hK) ?_)
      rintro v22 σ21 hT
      clear hK
      have hK := hT
      clear hT
      refine pm_ald d_X9_restore_98 rfl ?_
      refine ps_getR (q := 328) d_X9_restore_99 at_327 f_8_0_1 rfl ?_
      refine pm_ki d_X9_restore_102 ?_
      refine pm_ki d_X9_restore_104 ?_
      refine ps_iast d_X9_restore_105 at_328 a_8_1 (ps_in_of rfl) ?_
      refine ps_nmS (fun σ23 eσ23 => ?_)
      replace hK := ps_ltE eσ23 hK
      refine pm_ki d_X9_restore_106 ?_
      have hQ := ps_so hK
      exact ps_iret rfl d_X9_restore_107 ⟨_, rfl, hQ⟩
    · replace hK := ps_ifT c6 hK
      refine pm_ki d_X9_restore_27 ?_
      have hQ := ps_so hK
      exact ps_iret rfl d_X9_restore_29 ⟨_, rfl, hQ⟩
  · replace hK := ps_ifT c4 hK
    refine pm_ki d_X9_restore_15 ?_
    have hQ := ps_so hK
    exact ps_iret rfl d_X9_restore_17 ⟨_, rfl, hQ⟩
def qX9_set (p1 : Int32) (σ : ps_S) : Option (Int32 × ps_S) :=
  ps_let (ps_rI σ 327 (upd (σ.1 327) 0 0)) fun σ1 =>
  ps_bd (qX9_within (((p1).toInt64)) 0 7 σ1) (fun v2 σ3 =>
  if v2 = 0 then
  some ((-2), σ3)
  else
  if 7 ≤ p1 then
  ps_let (σ3.1 328 11) fun v6 =>
  ps_let (σ3.1 328 10) fun v7 =>
  some ((((v6 + v7)) / 2), σ3)
  else
  if ps_in ((10 + p1)) 5550 = true then
  ps_let (σ3.1 328 ((10 + p1)).toNatClampNeg) fun v8 =>
  some (v8, σ3)
  else none)
set_option maxRecDepth 100000 in
theorem C_X9_set {g : pm_G} (p1 : Int32) (σ : ps_S) (P : Int32 → ps_S → Prop) (hK : ps_ok (qX9_set p1 σ) P) : ps_C g mX9_set 2 [.ref (g.2.2.1 + 327), .int p1] σ (ps_qI P) := by
  unfold qX9_set at hK
  refine ps_C.of (ls := [some (.ref (g.2.2.1 + 327)), some (.int p1)]) 0 (by decide) rfl (Nat.le_of_ble_eq_true rfl) rfl ?_
  refine pm_ald d_X9_set_0 rfl ?_
  refine pm_ki d_X9_set_1 ?_
  refine ps_putI d_X9_set_2 at_327 f_8_0_0 rfl rfl ?_
  refine ps_nmS (fun σ1 eσ1 => ?_)
  replace hK := ps_ltE eσ1 hK
  refine pm_ild d_X9_set_5 rfl ?_
  refine pm_i2l d_X9_set_6 ?_
  refine pm_kl d_X9_set_7 ?_
  refine pm_kl d_X9_set_8 ?_
  refine ps_cSI d_X9_set_11 ms_X9_within (As := [.long ((p1).toInt64), .long 0, .long 7]) rfl rfl (ps_room.of (by omega) (by decide)) (Nat.le_of_ble_eq_true rfl) (C_X9_within (((p1).toInt64)) 0 7 σ1 _ (ps_bdE hK)) ?_
  intro v2 σ3 hT
  clear hK
  have hK := hT
  clear hT
  refine pm_if_ne d_X9_set_14 (fun c4 => ?_) (fun c4 => ?_)
  · replace hK := ps_ifF c4 hK
    refine pm_ild d_X9_set_20 rfl ?_
    refine pm_ki d_X9_set_21 ?_
    refine pm_icmp_ge d_X9_set_23 (fun c5 => ?_) (fun c5 => ?_)
    · replace hK := ps_ifT c5 hK
      refine pm_ald d_X9_set_38 rfl ?_
      refine ps_getR (q := 328) d_X9_set_39 at_327 f_8_0_1 rfl ?_
      refine pm_ki d_X9_set_42 ?_
      refine ps_iald (x := σ3.1 328 11) d_X9_set_44 at_328 a_8_1 (ps_in_of rfl) rfl ?_
      refine ps_topI (fun v6 ev6 => ?_)
      replace hK := ps_ltE ev6 hK
      refine pm_ald d_X9_set_45 rfl ?_
      refine ps_getR (q := 328) d_X9_set_46 at_327 f_8_0_1 rfl ?_
      refine pm_ki d_X9_set_49 ?_
      refine ps_iald (x := σ3.1 328 10) d_X9_set_51 at_328 a_8_1 (ps_in_of rfl) rfl ?_
      refine ps_topI (fun v7 ev7 => ?_)
      replace hK := ps_ltE ev7 hK
      refine pm_iadd d_X9_set_52 ?_
      refine pm_ki d_X9_set_53 ?_
      refine pm_idiv d_X9_set_54 (by decide) ?_
      have hQ := ps_so hK
      exact ps_iret rfl d_X9_set_55 ⟨_, rfl, hQ⟩
    · replace hK := ps_ifF c5 hK
      refine pm_ald d_X9_set_26 rfl ?_
      refine ps_getR (q := 328) d_X9_set_27 at_327 f_8_0_1 rfl ?_
      refine pm_ki d_X9_set_30 ?_
      refine pm_ild d_X9_set_32 rfl ?_
      refine pm_iadd d_X9_set_33 ?_
      obtain ⟨b9, hT⟩ := ps_gd hK
      replace hK := hT
      clear hT
      refine ps_iald d_X9_set_34 at_328 a_8_1 (ps_in_of b9) rfl ?_
      refine ps_topI (fun v8 ev8 => ?_)
      replace hK := ps_ltE ev8 hK
      refine pm_goto d_X9_set_35 ?_
      have hQ := ps_so hK
      exact ps_iret rfl d_X9_set_55 ⟨_, rfl, hQ⟩
  · replace hK := ps_ifT c4 hK
    refine pm_ki d_X9_set_17 ?_
    have hQ := ps_so hK
    exact ps_iret rfl d_X9_set_19 ⟨_, rfl, hQ⟩
def qX9_speed (p1 : Int32) (p2 : Int32) (σ : ps_S) : Option (Int32 × ps_S) :=
  ps_let (ps_rI σ 327 (upd (σ.1 327) 0 0)) fun σ1 =>
  ps_bd (qX9_isDevice (((p1).toInt64)) σ1) (fun v2 σ3 =>
  if v2 = 0 then
  some ((-11), σ3)
  else
  ps_bd (qX9_within (((p2).toInt64)) 0 999 σ3) (fun v5 σ6 =>
  if v5 = 0 then
  some ((-11), σ6)
  else
  ps_bd (qX9_stores σ6) (fun _ σ9 =>
  if ps_in ((60 + p1)) 5550 = true then
  ps_let (ps_rI σ9 328 (upd (σ9.1 328) ((60 + p1)).toNatClampNeg p2)) fun σ10 =>
  ps_bd (qX9_notes σ10) (fun _ σ12 =>
  if ps_in ((25 + p1)) 83 = true then
  ps_let (σ12.1 337 ((25 + p1)).toNatClampNeg) fun v13 =>
  some (v13, σ12)
  else none)
  else none)))
set_option maxRecDepth 100000 in
theorem C_X9_speed {g : pm_G} (p1 : Int32) (p2 : Int32) (σ : ps_S) (P : Int32 → ps_S → Prop) (hK : ps_ok (qX9_speed p1 p2 σ) P) : ps_C g mX9_speed 3 [.ref (g.2.2.1 + 327), .int p1, .int p2] σ (ps_qI P) := by
  unfold qX9_speed at hK
  refine ps_C.of (ls := [some (.ref (g.2.2.1 + 327)), some (.int p1), some (.int p2)]) 0 (by decide) rfl (Nat.le_of_ble_eq_true rfl) rfl ?_
  refine pm_ald d_X9_speed_0 rfl ?_
  refine pm_ki d_X9_speed_1 ?_
  refine ps_putI d_X9_speed_2 at_327 f_8_0_0 rfl rfl ?_
  refine ps_nmS (fun σ1 eσ1 => ?_)
  replace hK := ps_ltE eσ1 hK
  refine pm_ald d_X9_speed_5 rfl ?_
  refine pm_ild d_X9_speed_6 rfl ?_
  refine pm_i2l d_X9_speed_7 ?_
  refine ps_cVI d_X9_speed_8 mv_X9_isDevice at_327 ob_8_0 rfl (As := [.long ((p1).toInt64)]) rfl rfl (ps_room.of (by omega) (by decide)) (Nat.le_of_ble_eq_true rfl) (C_X9_isDevice (((p1).toInt64)) σ1 _ (ps_bdE hK)) ?_
  intro v2 σ3 hT
  clear hK
  have hK := hT
  clear hT
  refine pm_if_eq d_X9_speed_11 (fun c4 => ?_) (fun c4 => ?_)
  · replace hK := ps_ifT c4 hK
    refine pm_ki d_X9_speed_26 ?_
    have hQ := ps_so hK
    exact ps_iret rfl d_X9_speed_28 ⟨_, rfl, hQ⟩
  · replace hK := ps_ifF c4 hK
    refine pm_ild d_X9_speed_14 rfl ?_
    refine pm_i2l d_X9_speed_15 ?_
    refine pm_kl d_X9_speed_16 ?_
    refine pm_kl d_X9_speed_17 ?_
    refine ps_cSI d_X9_speed_20 ms_X9_within (As := [.long ((p2).toInt64), .long 0, .long 999]) rfl rfl (ps_room.of (by omega) (by decide)) (Nat.le_of_ble_eq_true rfl) (C_X9_within (((p2).toInt64)) 0 999 σ3 _ (ps_bdE hK)) ?_
    intro v5 σ6 hT
    clear hK
    have hK := hT
    clear hT
    refine pm_if_ne d_X9_speed_23 (fun c7 => ?_) (fun c7 => ?_)
    · replace hK := ps_ifF c7 hK
      refine pm_ald d_X9_speed_29 rfl ?_
      refine ps_cVV d_X9_speed_30 mv_X9_stores at_327 ob_8_0 rfl (As := []) rfl rfl (ps_room.of (by omega) (by decide)) (Nat.le_of_ble_eq_true rfl) (C_X9_stores σ6 _ (ps_bdE hK)) ?_
      intro σ9 hT
      clear hK
      have hK := hT
      clear hT
      refine pm_ald d_X9_speed_33 rfl ?_
      refine ps_getR (q := 328) d_X9_speed_34 at_327 f_8_0_1 rfl ?_
      refine pm_ki d_X9_speed_37 ?_
      refine pm_ild d_X9_speed_39 rfl ?_
      refine pm_iadd d_X9_speed_40 ?_
      refine pm_ild d_X9_speed_41 rfl ?_
      obtain ⟨b15, hT⟩ := ps_gd hK
      replace hK := hT
      clear hT
      refine ps_iast d_X9_speed_42 at_328 a_8_1 (ps_in_of b15) ?_
      refine ps_nmS (fun σ10 eσ10 => ?_)
      replace hK := ps_ltE eσ10 hK
      refine pm_ald d_X9_speed_43 rfl ?_
      refine ps_cVV d_X9_speed_44 mv_X9_notes at_327 ob_8_0 rfl (As := []) rfl rfl (ps_room.of (by omega) (by decide)) (Nat.le_of_ble_eq_true rfl) (C_X9_notes σ10 _ (ps_bdE hK)) ?_
      intro σ12 hT
      clear hK
      have hK := hT
      clear hT
      refine pm_ald d_X9_speed_47 rfl ?_
      refine ps_getR (q := 337) d_X9_speed_48 at_327 f_8_0_26 rfl ?_
      refine pm_ki d_X9_speed_51 ?_
      refine pm_ild d_X9_speed_53 rfl ?_
      refine pm_iadd d_X9_speed_54 ?_
      obtain ⟨b14, hT⟩ := ps_gd hK
      replace hK := hT
      clear hT
      refine ps_iald d_X9_speed_55 at_337 a_8_10 (ps_in_of b14) rfl ?_
      refine ps_topI (fun v13 ev13 => ?_)
      replace hK := ps_ltE ev13 hK
      have hQ := ps_so hK
      exact ps_iret rfl d_X9_speed_56 ⟨_, rfl, hQ⟩
    · replace hK := ps_ifT c7 hK
      refine pm_ki d_X9_speed_26 ?_
      have hQ := ps_so hK
      exact ps_iret rfl d_X9_speed_28 ⟨_, rfl, hQ⟩
