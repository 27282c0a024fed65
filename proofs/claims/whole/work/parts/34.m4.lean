def qX5_itemOfAtom  (σ : ps_S) : Option (Int32 × ps_S) :=
  ps_let (σ.1 11 5) fun v1 =>
  if v1 = 2 then
  ps_let (σ.1 11 8) fun v17 =>
  some (v17, σ)
  else
  ps_bd (qX5_isWord 23 σ) (fun v3 σ4 =>
  if v3 = 0 then
  ps_bd (qX5_isWord 24 σ4) (fun v6 σ7 =>
  if v6 = 0 then
  ps_bd (qX5_isWord 9 σ7) (fun v9 σ10 =>
  if v9 = 0 then
  ps_let (σ10.1 11 11) fun v12 =>
  if v12 = 0 then
  some ((-1), σ10)
  else
  ps_bd (qX5_isWord 13 σ10) (fun v14 σ15 =>
  if v14 = 0 then
  some ((-1), σ15)
  else
  some (1003, σ15))
  else
  some (1002, σ10))
  else
  some (1001, σ7))
  else
  some (1000, σ4))
set_option maxRecDepth 100000 in
theorem C_X5_itemOfAtom {g : pm_G}  (σ : ps_S) (P : Int32 → ps_S → Prop) (hK : ps_ok (qX5_itemOfAtom  σ) P) : ps_C g mX5_itemOfAtom 6 [.ref (g.2.2.1 + 11)] σ (ps_qI P) := by
  unfold qX5_itemOfAtom at hK
  refine ps_C.of (ls := [some (.ref (g.2.2.1 + 11))]) 0 (by decide) rfl (Nat.le_of_ble_eq_true rfl) rfl ?_
  refine pm_ald d_X5_itemOfAtom_0 rfl ?_
  refine ps_getI d_X5_itemOfAtom_1 at_11 f_3_0_5 rfl ?_
  refine ps_topI (fun v1 ev1 => ?_)
  replace hK := ps_ltE ev1 hK
  refine pm_ki d_X5_itemOfAtom_4 ?_
  refine pm_icmp_ne d_X5_itemOfAtom_5 (fun c2 => ?_) (fun c2 => ?_)
  · replace hK := ps_ifF c2 hK
    refine pm_ald d_X5_itemOfAtom_13 rfl ?_
    refine pm_ks d_X5_itemOfAtom_14 ?_
    refine ps_cVI d_X5_itemOfAtom_16 mv_X5_isWord at_11 ob_3_0 rfl (As := [.ref (g.2.2.2.1 23)]) rfl rfl (ps_room.of (by omega) (by decide)) (Nat.le_of_ble_eq_true rfl) (C_X5_isWord 23 (by decide) σ _ (ps_bdE hK)) ?_
    intro v3 σ4 hT
    clear hK
    have hK := hT
    clear hT
    refine pm_if_eq d_X5_itemOfAtom_19 (fun c5 => ?_) (fun c5 => ?_)
    · replace hK := ps_ifT c5 hK
      refine pm_ald d_X5_itemOfAtom_26 rfl ?_
      refine pm_ks d_X5_itemOfAtom_27 ?_
      refine ps_cVI d_X5_itemOfAtom_29 mv_X5_isWord at_11 ob_3_0 rfl (As := [.ref (g.2.2.2.1 24)]) rfl rfl (ps_room.of (by omega) (by decide)) (Nat.le_of_ble_eq_true rfl) (C_X5_isWord 24 (by decide) σ4 _ (ps_bdE hK)) ?_
      intro v6 σ7 hT
      clear hK
      have hK := hT
      clear hT
      refine pm_if_eq d_X5_itemOfAtom_32 (fun c8 => ?_) (fun c8 => ?_)
      · replace hK := ps_ifT c8 hK
        refine pm_ald d_X5_itemOfAtom_39 rfl ?_
        refine pm_ks d_X5_itemOfAtom_40 ?_
        refine ps_cVI d_X5_itemOfAtom_42 mv_X5_isWord at_11 ob_3_0 rfl (As := [.ref (g.2.2.2.1 9)]) rfl rfl (ps_room.of (by omega) (by decide)) (Nat.le_of_ble_eq_true rfl) (C_X5_isWord 9 (by decide) σ7 _ (ps_bdE hK)) ?_
        intro v9 σ10 hT
        clear hK
        have hK := hT
        clear hT
        refine pm_if_eq d_X5_itemOfAtom_45 (fun c11 => ?_) (fun c11 => ?_)
        · replace hK := ps_ifT c11 hK
          refine pm_ald d_X5_itemOfAtom_52 rfl ?_
          refine ps_getI d_X5_itemOfAtom_53 at_11 f_3_0_11 rfl ?_
          refine ps_topI (fun v12 ev12 => ?_)
          replace hK := ps_ltE ev12 hK
          refine pm_if_eq d_X5_itemOfAtom_56 (fun c13 => ?_) (fun c13 => ?_)
          · replace hK := ps_ifT c13 hK
            refine pm_ki d_X5_itemOfAtom_74 ?_
            have hQ := ps_so hK
            exact ps_iret rfl d_X5_itemOfAtom_75 ⟨_, rfl, hQ⟩
          · replace hK := ps_ifF c13 hK
            refine pm_ald d_X5_itemOfAtom_59 rfl ?_
            refine pm_ks d_X5_itemOfAtom_60 ?_
            refine ps_cVI d_X5_itemOfAtom_62 mv_X5_isWord at_11 ob_3_0 rfl (As := [.ref (g.2.2.2.1 13)]) rfl rfl (ps_room.of (by omega) (by decide)) (Nat.le_of_ble_eq_true rfl) (C_X5_isWord 13 (by decide) σ10 _ (ps_bdE hK)) ?_
            intro v14 σ15 hT
            clear hK
            have hK := hT
            clear hT
            refine pm_if_eq d_X5_itemOfAtom_65 (fun c16 => ?_) (fun c16 => ?_)
            · replace hK := ps_ifT c16 hK
              refine pm_ki d_X5_itemOfAtom_74 ?_
              have hQ := ps_so hK
              exact ps_iret rfl d_X5_itemOfAtom_75 ⟨_, rfl, hQ⟩
            · replace hK := ps_ifF c16 hK
              refine pm_ki d_X5_itemOfAtom_68 ?_
              refine pm_goto d_X5_itemOfAtom_71 ?_
              have hQ := ps_so hK
              exact ps_iret rfl d_X5_itemOfAtom_75 ⟨_, rfl, hQ⟩
        · replace hK := ps_ifF c11 hK
          refine pm_ki d_X5_itemOfAtom_48 ?_
          have hQ := ps_so hK
          exact ps_iret rfl d_X5_itemOfAtom_51 ⟨_, rfl, hQ⟩
      · replace hK := ps_ifF c8 hK
        refine pm_ki d_X5_itemOfAtom_35 ?_
        have hQ := ps_so hK
        exact ps_iret rfl d_X5_itemOfAtom_38 ⟨_, rfl, hQ⟩
    · replace hK := ps_ifF c5 hK
      refine pm_ki d_X5_itemOfAtom_22 ?_
      have hQ := ps_so hK
      exact ps_iret rfl d_X5_itemOfAtom_25 ⟨_, rfl, hQ⟩
  · replace hK := ps_ifT c2 hK
    refine pm_ald d_X5_itemOfAtom_8 rfl ?_
    refine ps_getI d_X5_itemOfAtom_9 at_11 f_3_0_8 rfl ?_
    refine ps_topI (fun v17 ev17 => ?_)
    replace hK := ps_ltE ev17 hK
    have hQ := ps_so hK
    exact ps_iret rfl d_X5_itemOfAtom_12 ⟨_, rfl, hQ⟩
def qX5_readSum_7 (rec : Nat → ps_S → Option (Int32 × ps_S))  : Nat → Int32 → Int32 → ps_S → Option (((Int32 × Int32)) × ps_S)
  | 0, _, _, _ => none
  | n + 1, x1, x2, σ =>
    if 900 ≤ x2 then
    some ((x1, x2), σ)
    else
    if x1 = 0 then
    some ((x1, x2), σ)
    else
    ps_bd (qX5_isSign 43 σ) (fun v5 σ6 =>
    if v5 = 0 then
    ps_bd (qX5_isSign 45 σ6) (fun v25 σ26 =>
    if v25 = 0 then
    some ((x1, x2), σ26)
    else
    ps_bd (qX5_isSign 43 σ26) (fun v28 σ29 =>
    if v28 = 0 then
    ps_bd (qX5_advance σ29) (fun _ σ32 =>
    ps_bd (rec 1 σ32) (fun v33 σ34 =>
    ps_bd (qX3_append 2 1007 σ34) (fun _ σ36 =>
    ps_let (x2 + 1) fun v37 =>
    qX5_readSum_7 rec n v33 v37 σ36)))
    else
    ps_bd (qX5_advance σ29) (fun _ σ39 =>
    ps_bd (rec 1 σ39) (fun v40 σ41 =>
    ps_bd (qX3_append 2 1006 σ41) (fun _ σ43 =>
    ps_let (x2 + 1) fun v44 =>
    qX5_readSum_7 rec n v40 v44 σ43)))))
    else
    ps_bd (qX5_isSign 43 σ6) (fun v8 σ9 =>
    if v8 = 0 then
    ps_bd (qX5_advance σ9) (fun _ σ12 =>
    ps_bd (rec 1 σ12) (fun v13 σ14 =>
    ps_bd (qX3_append 2 1007 σ14) (fun _ σ16 =>
    ps_let (x2 + 1) fun v17 =>
    qX5_readSum_7 rec n v13 v17 σ16)))
    else
    ps_bd (qX5_advance σ9) (fun _ σ19 =>
    ps_bd (rec 1 σ19) (fun v20 σ21 =>
    ps_bd (qX3_append 2 1006 σ21) (fun _ σ23 =>
    ps_let (x2 + 1) fun v24 =>
    qX5_readSum_7 rec n v20 v24 σ23)))))
set_option maxRecDepth 100000 in
theorem L_X5_readSum_7 {g : pm_G} (D : Nat) (hD : 7 ≤ D) {P : Int32 → ps_S → Prop} (rec : Nat → ps_S → Option (Int32 × ps_S)) (D0 : Nat) (hD0 : D0 < D) (hrec_X5_readSum : ∀  (σ : ps_S) (P : Int32 → ps_S → Prop), ps_ok (rec 0 σ) P → ps_C g mX5_readSum D0 [.ref (g.2.2.1 + 11)] σ (ps_qI P)) (hrec_X5_readTerm : ∀  (σ : ps_S) (P : Int32 → ps_S → Prop), ps_ok (rec 1 σ) P → ps_C g mX5_readTerm D0 [.ref (g.2.2.1 + 11)] σ (ps_qI P)) (hrec_X5_readAtom : ∀  (σ : ps_S) (P : Int32 → ps_S → Prop), ps_ok (rec 2 σ) P → ps_C g mX5_readAtom D0 [.ref (g.2.2.1 + 11)] σ (ps_qI P)) (hrec_X5_readChoice : ∀  (σ : ps_S) (P : Int32 → ps_S → Prop), ps_ok (rec 3 σ) P → ps_C g mX5_readChoice D0 [.ref (g.2.2.1 + 11)] σ (ps_qI P)) (hrec_X5_readTruth : ∀  (σ : ps_S) (P : Int32 → ps_S → Prop), ps_ok (rec 4 σ) P → ps_C g mX5_readTruth D0 [.ref (g.2.2.1 + 11)] σ (ps_qI P)) (hrec_X5_readBoth : ∀  (σ : ps_S) (P : Int32 → ps_S → Prop), ps_ok (rec 5 σ) P → ps_C g mX5_readBoth D0 [.ref (g.2.2.1 + 11)] σ (ps_qI P)) (hrec_X5_readUnit : ∀  (σ : ps_S) (P : Int32 → ps_S → Prop), ps_ok (rec 6 σ) P → ps_C g mX5_readUnit D0 [.ref (g.2.2.1 + 11)] σ (ps_qI P)) (hrec_X5_readCompared : ∀  (σ : ps_S) (P : Int32 → ps_S → Prop), ps_ok (rec 7 σ) P → ps_C g mX5_readCompared D0 [.ref (g.2.2.1 + 11)] σ (ps_qI P))  : ∀ (n : Nat) (x1 : Int32) (x2 : Int32) (σ : ps_S), ps_ok (qX5_readSum_7 rec n x1 x2 σ) (fun res σ => match res with | (x1, x2) => pm_W g mX5_readSum (ps_F g D (ps_qI P)) 0 0 81 [some (.ref (g.2.2.1 + 11)), some (.int x1), some (.int x2), none] [] 345 (ps_E g σ)) → pm_W g mX5_readSum (ps_F g D (ps_qI P)) 0 0 7 [some (.ref (g.2.2.1 + 11)), some (.int x1), some (.int x2), none] [] 345 (ps_E g σ) := by
  intro n
  induction n with
  | zero => intro x1 x2 σ hK; exact (ps_no hK).elim
  | succ n ih =>
    intro x1 x2 σ hK
    rw [qX5_readSum_7] at hK
    refine pm_ild d_X5_readSum_7 rfl ?_
    refine pm_ki d_X5_readSum_8 ?_
    refine pm_icmp_ge d_X5_readSum_11 (fun c3 => ?_) (fun c3 => ?_)
    · replace hK := ps_ifT c3 hK
      exact ps_so hK
    · replace hK := ps_ifF c3 hK
      refine pm_ild d_X5_readSum_14 rfl ?_
      refine pm_if_eq d_X5_readSum_15 (fun c4 => ?_) (fun c4 => ?_)
      · replace hK := ps_ifT c4 hK
        exact ps_so hK
      · replace hK := ps_ifF c4 hK
        refine pm_ald d_X5_readSum_18 rfl ?_
        refine pm_ki d_X5_readSum_19 ?_
        refine ps_cVI d_X5_readSum_21 mv_X5_isSign at_11 ob_3_0 rfl (As := [.int 43]) rfl rfl (ps_room.of (by omega) (by decide)) (Nat.le_of_ble_eq_true rfl) (C_X5_isSign 43 σ _ (ps_bdE hK)) ?_
        intro v5 σ6 hT
        clear hK
        have hK := hT
        clear hT
        refine pm_if_ne d_X5_readSum_24 (fun c7 => ?_) (fun c7 => ?_)
        · replace hK := ps_ifF c7 hK
          refine pm_ald d_X5_readSum_36 rfl ?_
          refine pm_ki d_X5_readSum_37 ?_
          refine ps_cVI d_X5_readSum_39 mv_X5_isSign at_11 ob_3_0 rfl (As := [.int 43]) rfl rfl (ps_room.of (by omega) (by decide)) (Nat.le_of_ble_eq_true rfl) (C_X5_isSign 43 σ6 _ (ps_bdE hK)) ?_
          intro v8 σ9 hT
          clear hK
          have hK := hT
          clear hT
          refine pm_if_eq d_X5_readSum_42 (fun c10 => ?_) (fun c10 => ?_)
          · replace hK := ps_ifT c10 hK
            refine pm_ki d_X5_readSum_51 ?_
            refine pm_ist3 d_X5_readSum_54 rfl (by decide) ?_
            refine pm_ald d_X5_readSum_55 rfl ?_
            refine ps_cVV d_X5_readSum_56 mv_X5_advance at_11 ob_3_0 rfl (As := []) rfl rfl (ps_room.of (by omega) (by decide)) (Nat.le_of_ble_eq_true rfl) (C_X5_advance σ9 _ (ps_bdE hK)) ?_
            intro σ12 hT
            clear hK
            have hK := hT
            clear hT
            refine pm_ald d_X5_readSum_59 rfl ?_
            refine ps_cVI d_X5_readSum_60 mv_X5_readTerm at_11 ob_3_0 rfl (As := []) rfl rfl (ps_room.of (by omega) (by decide)) (Nat.le_of_ble_eq_true rfl) (hrec_X5_readTerm σ12 _ (ps_bdE hK)) ?_
            intro v13 σ14 hT
            clear hK
            have hK := hT
            clear hT
            refine pm_ist1 d_X5_readSum_63 rfl (by decide) ?_
            refine pm_ald d_X5_readSum_64 rfl ?_
            refine ps_getR (q := 2) d_X5_readSum_65 at_11 f_3_0_3 rfl ?_
            refine ps_getR (q := (2 + 7)) d_X5_readSum_68 ps_Ho2.at0 f_2_0_17 rfl ?_
            refine pm_ild d_X5_readSum_71 rfl ?_
            refine ps_cVV d_X5_readSum_72 mv_X3_append (ps_Ho2.at 7 (by decide)) ob_2_7 rfl (As := [.int 1007]) rfl rfl (ps_room.of (by omega) (by decide)) (Nat.le_of_ble_eq_true rfl) (C_X3_append 2 ps_Ho2 1007 σ14 _ (ps_bdE hK)) ?_
            intro σ16 hT
            clear hK
            have hK := hT
            clear hT
            refine pm_inc2 d_X5_readSum_75 rfl ?_
            obtain ⟨v17, ev17⟩ : ∃ y : Int32, y = x2 + 1 := ⟨_, rfl⟩
            rw [← ev17]
            replace hK := ps_ltE ev17 hK
            refine pm_goto d_X5_readSum_78 ?_
            refine pm_wk (ls' := [some (.ref (g.2.2.1 + 11)), some (.int v13), some (.int v17), none]) ⟨rfl, ⟨rfl, ⟨rfl, trivial⟩⟩⟩ ?_
            exact ih _ _ _ hK
          · replace hK := ps_ifF c10 hK
            refine pm_ki d_X5_readSum_45 ?_
            refine pm_goto d_X5_readSum_48 ?_
            refine pm_ist3 d_X5_readSum_54 rfl (by decide) ?_
            refine pm_ald d_X5_readSum_55 rfl ?_
            refine ps_cVV d_X5_readSum_56 mv_X5_advance at_11 ob_3_0 rfl (As := []) rfl rfl (ps_room.of (by omega) (by decide)) (Nat.le_of_ble_eq_true rfl) (C_X5_advance σ9 _ (ps_bdE hK)) ?_
            intro σ19 hT
            clear hK
            have hK := hT
            clear hT
            refine pm_ald d_X5_readSum_59 rfl ?_
            refine ps_cVI d_X5_readSum_60 mv_X5_readTerm at_11 ob_3_0 rfl (As := []) rfl rfl (ps_room.of (by omega) (by decide)) (Nat.le_of_ble_eq_true rfl) (hrec_X5_readTerm σ19 _ (ps_bdE hK)) ?_
            intro v20 σ21 hT
            clear hK
            have hK := hT
            clear hT
            refine pm_ist1 d_X5_readSum_63 rfl (by decide) ?_
            refine pm_ald d_X5_readSum_64 rfl ?_
            refine ps_getR (q := 2) d_X5_readSum_65 at_11 f_3_0_3 rfl ?_
            refine ps_getR (q := (2 + 7)) d_X5_readSum_68 ps_Ho2.at0 f_2_0_17 rfl ?_
            refine pm_ild d_X5_readSum_71 rfl ?_
            refine ps_cVV d_X5_readSum_72 mv_X3_append (ps_Ho2.at 7 (by decide)) ob_2_7 rfl (As := [.int 1006]) rfl rfl (ps_room.of (by omega) (by decide)) (Nat.le_of_ble_eq_true rfl) (C_X3_append 2 ps_Ho2 1006 σ21 _ (ps_bdE hK)) ?_
            intro σ23 hT
            clear hK
            have hK := hT
            clear hT
            refine pm_inc2 d_X5_readSum_75 rfl ?_
            obtain ⟨v24, ev24⟩ : ∃ y : Int32, y = x2 + 1 := ⟨_, rfl⟩
            rw [← ev24]
            replace hK := ps_ltE ev24 hK
            refine pm_goto d_X5_readSum_78 ?_
            refine pm_wk (ls' := [some (.ref (g.2.2.1 + 11)), some (.int v20), some (.int v24), none]) ⟨rfl, ⟨rfl, ⟨rfl, trivial⟩⟩⟩ ?_
            exact ih _ _ _ hK
        · replace hK := ps_ifT c7 hK
          refine pm_ald d_X5_readSum_27 rfl ?_
          refine pm_ki d_X5_readSum_28 ?_
          refine ps_cVI d_X5_readSum_30 mv_X5_isSign at_11 ob_3_0 rfl (As := [.int 45]) rfl rfl (ps_room.of (by omega) (by decide)) (Nat.le_of_ble_eq_true rfl) (C_X5_isSign 45 σ6 _ (ps_bdE hK)) ?_
          intro v25 σ26 hT
          clear hK
          have hK := hT
          clear hT
          refine pm_if_eq d_X5_readSum_33 (fun c27 => ?_) (fun c27 => ?_)
          · replace hK := ps_ifT c27 hK
            exact ps_so hK
          · replace hK := ps_ifF c27 hK
            refine pm_ald d_X5_readSum_36 rfl ?_
            refine pm_ki d_X5_readSum_37 ?_
            refine ps_cVI d_X5_readSum_39 mv_X5_isSign at_11 ob_3_0 rfl (As := [.int 43]) rfl rfl (ps_room.of (by omega) (by decide)) (Nat.le_of_ble_eq_true rfl) (C_X5_isSign 43 σ26 _ (ps_bdE hK)) ?_
            intro v28 σ29 hT
            clear hK
            have hK := hT
            clear hT
            refine pm_if_eq d_X5_readSum_42 (fun c30 => ?_) (fun c30 => ?_)
            · replace hK := ps_ifT c30 hK
              refine pm_ki d_X5_readSum_51 ?_
              refine pm_ist3 d_X5_readSum_54 rfl (by decide) ?_
              refine pm_ald d_X5_readSum_55 rfl ?_
              refine ps_cVV d_X5_readSum_56 mv_X5_advance at_11 ob_3_0 rfl (As := []) rfl rfl (ps_room.of (by omega) (by decide)) (Nat.le_of_ble_eq_true rfl) (C_X5_advance σ29 _ (ps_bdE hK)) ?_
              intro σ32 hT
              clear hK
              have hK := hT
              clear hT
              refine pm_ald d_X5_readSum_59 rfl ?_
              refine ps_cVI d_X5_readSum_60 mv_X5_readTerm at_11 ob_3_0 rfl (As := []) rfl rfl (ps_room.of (by omega) (by decide)) (Nat.le_of_ble_eq_true rfl) (hrec_X5_readTerm σ32 _ (ps_bdE hK)) ?_
              intro v33 σ34 hT
              clear hK
              have hK := hT
              clear hT
              refine pm_ist1 d_X5_readSum_63 rfl (by decide) ?_
              refine pm_ald d_X5_readSum_64 rfl ?_
              refine ps_getR (q := 2) d_X5_readSum_65 at_11 f_3_0_3 rfl ?_
              refine ps_getR (q := (2 + 7)) d_X5_readSum_68 ps_Ho2.at0 f_2_0_17 rfl ?_
              refine pm_ild d_X5_readSum_71 rfl ?_
              refine ps_cVV d_X5_readSum_72 mv_X3_append (ps_Ho2.at 7 (by decide)) ob_2_7 rfl (As := [.int 1007]) rfl rfl (ps_room.of (by omega) (by decide)) (Nat.le_of_ble_eq_true rfl) (C_X3_append 2 ps_Ho2 1007 σ34 _ (ps_bdE hK)) ?_
              intro σ36 hT
              clear hK
              have hK := hT
              clear hT
              refine pm_inc2 d_X5_readSum_75 rfl ?_
              obtain ⟨v37, ev37⟩ : ∃ y : Int32, y = x2 + 1 := ⟨_, rfl⟩
              rw [← ev37]
              replace hK := ps_ltE ev37 hK
              refine pm_goto d_X5_readSum_78 ?_
              refine pm_wk (ls' := [some (.ref (g.2.2.1 + 11)), some (.int v33), some (.int v37), none]) ⟨rfl, ⟨rfl, ⟨rfl, trivial⟩⟩⟩ ?_
              exact ih _ _ _ hK
            · replace hK := ps_ifF c30 hK
              refine pm_ki d_X5_readSum_45 ?_
              refine pm_goto d_X5_readSum_48 ?_
              refine pm_ist3 d_X5_readSum_54 rfl (by decide) ?_
              refine pm_ald d_X5_readSum_55 rfl ?_
              refine ps_cVV d_X5_readSum_56 mv_X5_advance at_11 ob_3_0 rfl (As := []) rfl rfl (ps_room.of (by omega) (by decide)) (Nat.le_of_ble_eq_true rfl) (C_X5_advance σ29 _ (ps_bdE hK)) ?_
              intro σ39 hT
              clear hK
              have hK := hT
              clear hT
              refine pm_ald d_X5_readSum_59 rfl ?_
              refine ps_cVI d_X5_readSum_60 mv_X5_readTerm at_11 ob_3_0 rfl (As := []) rfl rfl (ps_room.of (by omega) (by decide)) (Nat.le_of_ble_eq_true rfl) (hrec_X5_readTerm σ39 _ (ps_bdE hK)) ?_
              intro v40 σ41 hT
              clear hK
              have hK := hT
              clear hT
              refine pm_ist1 d_X5_readSum_63 rfl (by decide) ?_
              refine pm_ald d_X5_readSum_64 rfl ?_
              refine ps_getR (q := 2) d_X5_readSum_65 at_11 f_3_0_3 rfl ?_
              refine ps_getR (q := (2 + 7)) d_X5_readSum_68 ps_Ho2.at0 f_2_0_17 rfl ?_
              refine pm_ild d_X5_readSum_71 rfl ?_
              refine ps_cVV d_X5_readSum_72 mv_X3_append (ps_Ho2.at 7 (by decide)) ob_2_7 rfl (As := [.int 1006]) rfl rfl (ps_room.of (by omega) (by decide)) (Nat.le_of_ble_eq_true rfl) (C_X3_append 2 ps_Ho2 1006 σ41 _ (ps_bdE hK)) ?_
              intro σ43 hT
              clear hK
              have hK := hT
              clear hT
              refine pm_inc2 d_X5_readSum_75 rfl ?_
              obtain ⟨v44, ev44⟩ : ∃ y : Int32, y = x2 + 1 := ⟨_, rfl⟩
              rw [← ev44]
              replace hK := ps_ltE ev44 hK
              refine pm_goto d_X5_readSum_78 ?_
              refine pm_wk (ls' := [some (.ref (g.2.2.1 + 11)), some (.int v40), some (.int v44), none]) ⟨rfl, ⟨rfl, ⟨rfl, trivial⟩⟩⟩ ?_
              exact ih _ _ _ hK
def bX5_readSum (rec : Nat → ps_S → Option (Int32 × ps_S))  (σ : ps_S) : Option (Int32 × ps_S) :=
  ps_bd (rec 1 σ) (fun v1 σ2 =>
  ps_bd (qX5_readSum_7 rec ps_N v1 0 σ2) (fun res σ45 => match res with
  | (v46, v47) =>
    if ps_b01 v46 = true then some (v46, σ45) else none))
set_option maxRecDepth 100000 in
theorem B_X5_readSum {g : pm_G} (D : Nat) (hD : 7 ≤ D) (rec : Nat → ps_S → Option (Int32 × ps_S)) (D0 : Nat) (hD0 : D0 < D) (hrec_X5_readSum : ∀  (σ : ps_S) (P : Int32 → ps_S → Prop), ps_ok (rec 0 σ) P → ps_C g mX5_readSum D0 [.ref (g.2.2.1 + 11)] σ (ps_qI P)) (hrec_X5_readTerm : ∀  (σ : ps_S) (P : Int32 → ps_S → Prop), ps_ok (rec 1 σ) P → ps_C g mX5_readTerm D0 [.ref (g.2.2.1 + 11)] σ (ps_qI P)) (hrec_X5_readAtom : ∀  (σ : ps_S) (P : Int32 → ps_S → Prop), ps_ok (rec 2 σ) P → ps_C g mX5_readAtom D0 [.ref (g.2.2.1 + 11)] σ (ps_qI P)) (hrec_X5_readChoice : ∀  (σ : ps_S) (P : Int32 → ps_S → Prop), ps_ok (rec 3 σ) P → ps_C g mX5_readChoice D0 [.ref (g.2.2.1 + 11)] σ (ps_qI P)) (hrec_X5_readTruth : ∀  (σ : ps_S) (P : Int32 → ps_S → Prop), ps_ok (rec 4 σ) P → ps_C g mX5_readTruth D0 [.ref (g.2.2.1 + 11)] σ (ps_qI P)) (hrec_X5_readBoth : ∀  (σ : ps_S) (P : Int32 → ps_S → Prop), ps_ok (rec 5 σ) P → ps_C g mX5_readBoth D0 [.ref (g.2.2.1 + 11)] σ (ps_qI P)) (hrec_X5_readUnit : ∀  (σ : ps_S) (P : Int32 → ps_S → Prop), ps_ok (rec 6 σ) P → ps_C g mX5_readUnit D0 [.ref (g.2.2.1 + 11)] σ (ps_qI P)) (hrec_X5_readCompared : ∀  (σ : ps_S) (P : Int32 → ps_S → Prop), ps_ok (rec 7 σ) P → ps_C g mX5_readCompared D0 [.ref (g.2.2.1 + 11)] σ (ps_qI P))  (σ : ps_S) (P : Int32 → ps_S → Prop) (hK : ps_ok (bX5_readSum rec  σ) P) : ps_C g mX5_readSum D [.ref (g.2.2.1 + 11)] σ (ps_qI P) := by
  unfold bX5_readSum at hK
  refine ps_C.of (ls := [some (.ref (g.2.2.1 + 11)), none, none, none]) 3 (by decide) rfl (Nat.le_of_ble_eq_true rfl) rfl ?_
  refine pm_ald d_X5_readSum_0 rfl ?_
  refine ps_cVI d_X5_readSum_1 mv_X5_readTerm at_11 ob_3_0 rfl (As := []) rfl rfl (ps_room.of (by omega) (by decide)) (Nat.le_of_ble_eq_true rfl) (hrec_X5_readTerm σ _ (ps_bdE hK)) ?_
  intro v1 σ2 hT
  clear hK
  have hK := hT
  clear hT
  refine pm_ist1 d_X5_readSum_4 rfl (by decide) ?_
  refine pm_ki d_X5_readSum_5 ?_
  refine pm_ist2 d_X5_readSum_6 rfl (by decide) ?_
  refine L_X5_readSum_7 D hD rec D0 hD0 hrec_X5_readSum hrec_X5_readTerm hrec_X5_readAtom hrec_X5_readChoice hrec_X5_readTruth hrec_X5_readBoth hrec_X5_readUnit hrec_X5_readCompared _ _ _ _ (ps_ok.mono (ps_bdE hK) ?_)
  rintro ⟨v46, v47⟩ σ45 hT
  clear hK
  have hK := hT
  clear hT
  refine pm_ild d_X5_readSum_81 rfl ?_
  obtain ⟨b48, hT⟩ := ps_gd hK
  have hQ := ps_so hT
  exact ps_zret rfl (ps_nb b48) d_X5_readSum_82 ⟨_, rfl, hQ⟩
def qX5_readTerm_7 (rec : Nat → ps_S → Option (Int32 × ps_S))  : Nat → Int32 → Int32 → ps_S → Option (((Int32 × Int32)) × ps_S)
  | 0, _, _, _ => none
  | n + 1, x1, x2, σ =>
    if 900 ≤ x2 then
    some ((x1, x2), σ)
    else
    if x1 = 0 then
    some ((x1, x2), σ)
    else
    ps_bd (qX5_isSign 42 σ) (fun v5 σ6 =>
    if v5 = 0 then
    some ((x1, x2), σ6)
    else
    ps_bd (qX5_advance σ6) (fun _ σ9 =>
    ps_bd (rec 2 σ9) (fun v10 σ11 =>
    ps_bd (qX3_append 2 1008 σ11) (fun _ σ13 =>
    ps_let (x2 + 1) fun v14 =>
    qX5_readTerm_7 rec n v10 v14 σ13))))
set_option maxRecDepth 100000 in
theorem L_X5_readTerm_7 {g : pm_G} (D : Nat) (hD : 7 ≤ D) {P : Int32 → ps_S → Prop} (rec : Nat → ps_S → Option (Int32 × ps_S)) (D0 : Nat) (hD0 : D0 < D) (hrec_X5_readSum : ∀  (σ : ps_S) (P : Int32 → ps_S → Prop), ps_ok (rec 0 σ) P → ps_C g mX5_readSum D0 [.ref (g.2.2.1 + 11)] σ (ps_qI P)) (hrec_X5_readTerm : ∀  (σ : ps_S) (P : Int32 → ps_S → Prop), ps_ok (rec 1 σ) P → ps_C g mX5_readTerm D0 [.ref (g.2.2.1 + 11)] σ (ps_qI P)) (hrec_X5_readAtom : ∀  (σ : ps_S) (P : Int32 → ps_S → Prop), ps_ok (rec 2 σ) P → ps_C g mX5_readAtom D0 [.ref (g.2.2.1 + 11)] σ (ps_qI P)) (hrec_X5_readChoice : ∀  (σ : ps_S) (P : Int32 → ps_S → Prop), ps_ok (rec 3 σ) P → ps_C g mX5_readChoice D0 [.ref (g.2.2.1 + 11)] σ (ps_qI P)) (hrec_X5_readTruth : ∀  (σ : ps_S) (P : Int32 → ps_S → Prop), ps_ok (rec 4 σ) P → ps_C g mX5_readTruth D0 [.ref (g.2.2.1 + 11)] σ (ps_qI P)) (hrec_X5_readBoth : ∀  (σ : ps_S) (P : Int32 → ps_S → Prop), ps_ok (rec 5 σ) P → ps_C g mX5_readBoth D0 [.ref (g.2.2.1 + 11)] σ (ps_qI P)) (hrec_X5_readUnit : ∀  (σ : ps_S) (P : Int32 → ps_S → Prop), ps_ok (rec 6 σ) P → ps_C g mX5_readUnit D0 [.ref (g.2.2.1 + 11)] σ (ps_qI P)) (hrec_X5_readCompared : ∀  (σ : ps_S) (P : Int32 → ps_S → Prop), ps_ok (rec 7 σ) P → ps_C g mX5_readCompared D0 [.ref (g.2.2.1 + 11)] σ (ps_qI P))  : ∀ (n : Nat) (x1 : Int32) (x2 : Int32) (σ : ps_S), ps_ok (qX5_readTerm_7 rec n x1 x2 σ) (fun res σ => match res with | (x1, x2) => pm_W g mX5_readTerm (ps_F g D (ps_qI P)) 0 0 55 [some (.ref (g.2.2.1 + 11)), some (.int x1), some (.int x2)] [] 345 (ps_E g σ)) → pm_W g mX5_readTerm (ps_F g D (ps_qI P)) 0 0 7 [some (.ref (g.2.2.1 + 11)), some (.int x1), some (.int x2)] [] 345 (ps_E g σ) := by
  intro n
  induction n with
  | zero => intro x1 x2 σ hK; exact (ps_no hK).elim
  | succ n ih =>
    intro x1 x2 σ hK
    rw [qX5_readTerm_7] at hK
    refine pm_ild d_X5_readTerm_7 rfl ?_
    refine pm_ki d_X5_readTerm_8 ?_
    refine pm_icmp_ge d_X5_readTerm_11 (fun c3 => ?_) (fun c3 => ?_)
    · replace hK := ps_ifT c3 hK
      exact ps_so hK
    · replace hK := ps_ifF c3 hK
      refine pm_ild d_X5_readTerm_14 rfl ?_
      refine pm_if_eq d_X5_readTerm_15 (fun c4 => ?_) (fun c4 => ?_)
      · replace hK := ps_ifT c4 hK
        exact ps_so hK
      · replace hK := ps_ifF c4 hK
        refine pm_ald d_X5_readTerm_18 rfl ?_
        refine pm_ki d_X5_readTerm_19 ?_
        refine ps_cVI d_X5_readTerm_21 mv_X5_isSign at_11 ob_3_0 rfl (As := [.int 42]) rfl rfl (ps_room.of (by omega) (by decide)) (Nat.le_of_ble_eq_true rfl) (C_X5_isSign 42 σ _ (ps_bdE hK)) ?_
        intro v5 σ6 hT
        clear hK
        have hK := hT
        clear hT
        refine pm_if_eq d_X5_readTerm_24 (fun c7 => ?_) (fun c7 => ?_)
        · replace hK := ps_ifT c7 hK
          exact ps_so hK
        · replace hK := ps_ifF c7 hK
          refine pm_ald d_X5_readTerm_27 rfl ?_
          refine ps_cVV d_X5_readTerm_28 mv_X5_advance at_11 ob_3_0 rfl (As := []) rfl rfl (ps_room.of (by omega) (by decide)) (Nat.le_of_ble_eq_true rfl) (C_X5_advance σ6 _ (ps_bdE hK)) ?_
          intro σ9 hT
          clear hK
          have hK := hT
          clear hT
          refine pm_ald d_X5_readTerm_31 rfl ?_
          refine ps_cVI d_X5_readTerm_32 mv_X5_readAtom at_11 ob_3_0 rfl (As := []) rfl rfl (ps_room.of (by omega) (by decide)) (Nat.le_of_ble_eq_true rfl) (hrec_X5_readAtom σ9 _ (ps_bdE hK)) ?_
          intro v10 σ11 hT
          clear hK
          have hK := hT
          clear hT
          refine pm_ist1 d_X5_readTerm_35 rfl (by decide) ?_
          refine pm_ald d_X5_readTerm_36 rfl ?_
          refine ps_getR (q := 2) d_X5_readTerm_37 at_11 f_3_0_3 rfl ?_
          refine ps_getR (q := (2 + 7)) d_X5_readTerm_40 ps_Ho2.at0 f_2_0_17 rfl ?_
          refine pm_ki d_X5_readTerm_43 ?_
          refine ps_cVV d_X5_readTerm_46 mv_X3_append (ps_Ho2.at 7 (by decide)) ob_2_7 rfl (As := [.int 1008]) rfl rfl (ps_room.of (by omega) (by decide)) (Nat.le_of_ble_eq_true rfl) (C_X3_append 2 ps_Ho2 1008 σ11 _ (ps_bdE hK)) ?_
          intro σ13 hT
          clear hK
          have hK := hT
          clear hT
          refine pm_inc2 d_X5_readTerm_49 rfl ?_
          obtain ⟨v14, ev14⟩ : ∃ y : Int32, y = x2 + 1 := ⟨_, rfl⟩
          rw [← ev14]
          replace hK := ps_ltE ev14 hK
          refine pm_goto d_X5_readTerm_52 ?_
          exact ih _ _ _ hK
def bX5_readTerm (rec : Nat → ps_S → Option (Int32 × ps_S))  (σ : ps_S) : Option (Int32 × ps_S) :=
  ps_bd (rec 2 σ) (fun v1 σ2 =>
  ps_bd (qX5_readTerm_7 rec ps_N v1 0 σ2) (fun res σ15 => match res with
  | (v16, v17) =>
    if ps_b01 v16 = true then some (v16, σ15) else none))
set_option maxRecDepth 100000 in
theorem B_X5_readTerm {g : pm_G} (D : Nat) (hD : 7 ≤ D) (rec : Nat → ps_S → Option (Int32 × ps_S)) (D0 : Nat) (hD0 : D0 < D) (hrec_X5_readSum : ∀  (σ : ps_S) (P : Int32 → ps_S → Prop), ps_ok (rec 0 σ) P → ps_C g mX5_readSum D0 [.ref (g.2.2.1 + 11)] σ (ps_qI P)) (hrec_X5_readTerm : ∀  (σ : ps_S) (P : Int32 → ps_S → Prop), ps_ok (rec 1 σ) P → ps_C g mX5_readTerm D0 [.ref (g.2.2.1 + 11)] σ (ps_qI P)) (hrec_X5_readAtom : ∀  (σ : ps_S) (P : Int32 → ps_S → Prop), ps_ok (rec 2 σ) P → ps_C g mX5_readAtom D0 [.ref (g.2.2.1 + 11)] σ (ps_qI P)) (hrec_X5_readChoice : ∀  (σ : ps_S) (P : Int32 → ps_S → Prop), ps_ok (rec 3 σ) P → ps_C g mX5_readChoice D0 [.ref (g.2.2.1 + 11)] σ (ps_qI P)) (hrec_X5_readTruth : ∀  (σ : ps_S) (P : Int32 → ps_S → Prop), ps_ok (rec 4 σ) P → ps_C g mX5_readTruth D0 [.ref (g.2.2.1 + 11)] σ (ps_qI P)) (hrec_X5_readBoth : ∀  (σ : ps_S) (P : Int32 → ps_S → Prop), ps_ok (rec 5 σ) P → ps_C g mX5_readBoth D0 [.ref (g.2.2.1 + 11)] σ (ps_qI P)) (hrec_X5_readUnit : ∀  (σ : ps_S) (P : Int32 → ps_S → Prop), ps_ok (rec 6 σ) P → ps_C g mX5_readUnit D0 [.ref (g.2.2.1 + 11)] σ (ps_qI P)) (hrec_X5_readCompared : ∀  (σ : ps_S) (P : Int32 → ps_S → Prop), ps_ok (rec 7 σ) P → ps_C g mX5_readCompared D0 [.ref (g.2.2.1 + 11)] σ (ps_qI P))  (σ : ps_S) (P : Int32 → ps_S → Prop) (hK : ps_ok (bX5_readTerm rec  σ) P) : ps_C g mX5_readTerm D [.ref (g.2.2.1 + 11)] σ (ps_qI P) := by
  unfold bX5_readTerm at hK
  refine ps_C.of (ls := [some (.ref (g.2.2.1 + 11)), none, none]) 2 (by decide) rfl (Nat.le_of_ble_eq_true rfl) rfl ?_
  refine pm_ald d_X5_readTerm_0 rfl ?_
  refine ps_cVI d_X5_readTerm_1 mv_X5_readAtom at_11 ob_3_0 rfl (As := []) rfl rfl (ps_room.of (by omega) (by decide)) (Nat.le_of_ble_eq_true rfl) (hrec_X5_readAtom σ _ (ps_bdE hK)) ?_
  intro v1 σ2 hT
  clear hK
  have hK := hT
  clear hT
  refine pm_ist1 d_X5_readTerm_4 rfl (by decide) ?_
  refine pm_ki d_X5_readTerm_5 ?_
  refine pm_ist2 d_X5_readTerm_6 rfl (by decide) ?_
  refine L_X5_readTerm_7 D hD rec D0 hD0 hrec_X5_readSum hrec_X5_readTerm hrec_X5_readAtom hrec_X5_readChoice hrec_X5_readTruth hrec_X5_readBoth hrec_X5_readUnit hrec_X5_readCompared _ _ _ _ (ps_ok.mono (ps_bdE hK) ?_)
  rintro ⟨v16, v17⟩ σ15 hT
  clear hK
  have hK := hT
  clear hT
  refine pm_ild d_X5_readTerm_55 rfl ?_
  obtain ⟨b18, hT⟩ := ps_gd hK
  have hQ := ps_so hT
  exact ps_zret rfl (ps_nb b18) d_X5_readTerm_56 ⟨_, rfl, hQ⟩
def bX5_readAtom (rec : Nat → ps_S → Option (Int32 × ps_S))  (σ : ps_S) : Option (Int32 × ps_S) :=
  ps_bd (qX5_isSign 40 σ) (fun v1 σ2 =>
  if v1 = 0 then
  ps_bd (qX5_isWord 16 σ2) (fun v4 σ5 =>
  if v4 = 0 then
  ps_bd (qX5_itemOfAtom σ5) (fun v7 σ8 =>
  if v7 = ((-1)) then
  ps_bd (qX5_refuse 2 σ8) (fun v14 σ15 =>
  if ps_b01 v14 = true then some (v14, σ15) else none)
  else
  ps_bd (qX3_append 2 v7 σ8) (fun _ σ11 =>
  ps_bd (qX5_advance σ11) (fun _ σ13 =>
  some (1, σ13))))
  else
  ps_bd (rec 3 σ5) (fun v17 σ18 =>
  if ps_b01 v17 = true then some (v17, σ18) else none))
  else
  ps_bd (qX5_goDeeper σ2) (fun v20 σ21 =>
  if v20 = 0 then
  some (0, σ21)
  else
  ps_bd (rec 0 σ21) (fun v23 σ24 =>
  if v23 = 0 then
  some (0, σ24)
  else
  ps_let (σ24.1 11 10) fun v26 =>
  ps_let (ps_rI σ24 11 (upd (σ24.1 11) 10 ((v26 - 1)))) fun σ27 =>
  ps_bd (qX5_takeSign 41 σ27) (fun v28 σ29 =>
  if ps_b01 v28 = true then some (v28, σ29) else none))))
set_option maxRecDepth 100000 in
theorem B_X5_readAtom {g : pm_G} (D : Nat) (hD : 7 ≤ D) (rec : Nat → ps_S → Option (Int32 × ps_S)) (D0 : Nat) (hD0 : D0 < D) (hrec_X5_readSum : ∀  (σ : ps_S) (P : Int32 → ps_S → Prop), ps_ok (rec 0 σ) P → ps_C g mX5_readSum D0 [.ref (g.2.2.1 + 11)] σ (ps_qI P)) (hrec_X5_readTerm : ∀  (σ : ps_S) (P : Int32 → ps_S → Prop), ps_ok (rec 1 σ) P → ps_C g mX5_readTerm D0 [.ref (g.2.2.1 + 11)] σ (ps_qI P)) (hrec_X5_readAtom : ∀  (σ : ps_S) (P : Int32 → ps_S → Prop), ps_ok (rec 2 σ) P → ps_C g mX5_readAtom D0 [.ref (g.2.2.1 + 11)] σ (ps_qI P)) (hrec_X5_readChoice : ∀  (σ : ps_S) (P : Int32 → ps_S → Prop), ps_ok (rec 3 σ) P → ps_C g mX5_readChoice D0 [.ref (g.2.2.1 + 11)] σ (ps_qI P)) (hrec_X5_readTruth : ∀  (σ : ps_S) (P : Int32 → ps_S → Prop), ps_ok (rec 4 σ) P → ps_C g mX5_readTruth D0 [.ref (g.2.2.1 + 11)] σ (ps_qI P)) (hrec_X5_readBoth : ∀  (σ : ps_S) (P : Int32 → ps_S → Prop), ps_ok (rec 5 σ) P → ps_C g mX5_readBoth D0 [.ref (g.2.2.1 + 11)] σ (ps_qI P)) (hrec_X5_readUnit : ∀  (σ : ps_S) (P : Int32 → ps_S → Prop), ps_ok (rec 6 σ) P → ps_C g mX5_readUnit D0 [.ref (g.2.2.1 + 11)] σ (ps_qI P)) (hrec_X5_readCompared : ∀  (σ : ps_S) (P : Int32 → ps_S → Prop), ps_ok (rec 7 σ) P → ps_C g mX5_readCompared D0 [.ref (g.2.2.1 + 11)] σ (ps_qI P))  (σ : ps_S) (P : Int32 → ps_S → Prop) (hK : ps_ok (bX5_readAtom rec  σ) P) : ps_C g mX5_readAtom D [.ref (g.2.2.1 + 11)] σ (ps_qI P) := by
  unfold bX5_readAtom at hK
  refine ps_C.of (ls := [some (.ref (g.2.2.1 + 11)), none]) 1 (by decide) rfl (Nat.le_of_ble_eq_true rfl) rfl ?_
  refine pm_ald d_X5_readAtom_0 rfl ?_
  refine pm_ki d_X5_readAtom_1 ?_
  refine ps_cVI d_X5_readAtom_3 mv_X5_isSign at_11 ob_3_0 rfl (As := [.int 40]) rfl rfl (ps_room.of (by omega) (by decide)) (Nat.le_of_ble_eq_true rfl) (C_X5_isSign 40 σ _ (ps_bdE hK)) ?_
  intro v1 σ2 hT
  clear hK
  have hK := hT
  clear hT
  refine pm_if_eq d_X5_readAtom_6 (fun c3 => ?_) (fun c3 => ?_)
  · replace hK := ps_ifT c3 hK
    refine pm_ald d_X5_readAtom_42 rfl ?_
    refine pm_ks d_X5_readAtom_43 ?_
    refine ps_cVI d_X5_readAtom_45 mv_X5_isWord at_11 ob_3_0 rfl (As := [.ref (g.2.2.2.1 16)]) rfl rfl (ps_room.of (by omega) (by decide)) (Nat.le_of_ble_eq_true rfl) (C_X5_isWord 16 (by decide) σ2 _ (ps_bdE hK)) ?_
    intro v4 σ5 hT
    clear hK
    have hK := hT
    clear hT
    refine pm_if_eq d_X5_readAtom_48 (fun c6 => ?_) (fun c6 => ?_)
    · replace hK := ps_ifT c6 hK
      refine pm_ald d_X5_readAtom_56 rfl ?_
      refine ps_cVI d_X5_readAtom_57 mv_X5_itemOfAtom at_11 ob_3_0 rfl (As := []) rfl rfl (ps_room.of (by omega) (by decide)) (Nat.le_of_ble_eq_true rfl) (C_X5_itemOfAtom σ5 _ (ps_bdE hK)) ?_
      intro v7 σ8 hT
      clear hK
      have hK := hT
      clear hT
      refine pm_ist1 d_X5_readAtom_60 rfl (by decide) ?_
      refine pm_ild d_X5_readAtom_61 rfl ?_
      refine pm_ki d_X5_readAtom_62 ?_
      refine pm_icmp_ne d_X5_readAtom_63 (fun c9 => ?_) (fun c9 => ?_)
      · replace hK := ps_ifF c9 hK
        refine pm_ald d_X5_readAtom_72 rfl ?_
        refine ps_getR (q := 2) d_X5_readAtom_73 at_11 f_3_0_3 rfl ?_
        refine ps_getR (q := (2 + 7)) d_X5_readAtom_76 ps_Ho2.at0 f_2_0_17 rfl ?_
        refine pm_ild d_X5_readAtom_79 rfl ?_
        refine ps_cVV d_X5_readAtom_80 mv_X3_append (ps_Ho2.at 7 (by decide)) ob_2_7 rfl (As := [.int v7]) rfl rfl (ps_room.of (by omega) (by decide)) (Nat.le_of_ble_eq_true rfl) (C_X3_append 2 ps_Ho2 v7 σ8 _ (ps_bdE hK)) ?_
        intro σ11 hT
        clear hK
        have hK := hT
        clear hT
        refine pm_ald d_X5_readAtom_83 rfl ?_
        refine ps_cVV d_X5_readAtom_84 mv_X5_advance at_11 ob_3_0 rfl (As := []) rfl rfl (ps_room.of (by omega) (by decide)) (Nat.le_of_ble_eq_true rfl) (C_X5_advance σ11 _ (ps_bdE hK)) ?_
        intro σ13 hT
        clear hK
        have hK := hT
        clear hT
        refine pm_ki d_X5_readAtom_87 ?_
        have hQ := ps_so hK
        exact ps_zret rfl rfl d_X5_readAtom_88 ⟨_, rfl, hQ⟩
      · replace hK := ps_ifT c9 hK
        refine pm_ald d_X5_readAtom_66 rfl ?_
        refine pm_ki d_X5_readAtom_67 ?_
        refine ps_cVI d_X5_readAtom_68 mv_X5_refuse at_11 ob_3_0 rfl (As := [.int 2]) rfl rfl (ps_room.of (by omega) (by decide)) (Nat.le_of_ble_eq_true rfl) (C_X5_refuse 2 σ8 _ (ps_bdE hK)) ?_
        intro v14 σ15 hT
        clear hK
        have hK := hT
        clear hT
        obtain ⟨b16, hT⟩ := ps_gd hK
        have hQ := ps_so hT
        exact ps_zret rfl (ps_nb b16) d_X5_readAtom_71 ⟨_, rfl, hQ⟩
    · replace hK := ps_ifF c6 hK
      refine pm_ald d_X5_readAtom_51 rfl ?_
      refine ps_cVI d_X5_readAtom_52 mv_X5_readChoice at_11 ob_3_0 rfl (As := []) rfl rfl (ps_room.of (by omega) (by decide)) (Nat.le_of_ble_eq_true rfl) (hrec_X5_readChoice σ5 _ (ps_bdE hK)) ?_
      intro v17 σ18 hT
      clear hK
      have hK := hT
      clear hT
      obtain ⟨b19, hT⟩ := ps_gd hK
      have hQ := ps_so hT
      exact ps_zret rfl (ps_nb b19) d_X5_readAtom_55 ⟨_, rfl, hQ⟩
  · replace hK := ps_ifF c3 hK
    refine pm_ald d_X5_readAtom_9 rfl ?_
    refine ps_cVI d_X5_readAtom_10 mv_X5_goDeeper at_11 ob_3_0 rfl (As := []) rfl rfl (ps_room.of (by omega) (by decide)) (Nat.le_of_ble_eq_true rfl) (C_X5_goDeeper σ2 _ (ps_bdE hK)) ?_
    intro v20 σ21 hT
    clear hK
    have hK := hT
    clear hT
    refine pm_if_eq d_X5_readAtom_13 (fun c22 => ?_) (fun c22 => ?_)
    · replace hK := ps_ifT c22 hK
      refine pm_ki d_X5_readAtom_23 ?_
      have hQ := ps_so hK
      exact ps_zret rfl rfl d_X5_readAtom_24 ⟨_, rfl, hQ⟩
    · replace hK := ps_ifF c22 hK
      refine pm_ald d_X5_readAtom_16 rfl ?_
      refine ps_cVI d_X5_readAtom_17 mv_X5_readSum at_11 ob_3_0 rfl (As := []) rfl rfl (ps_room.of (by omega) (by decide)) (Nat.le_of_ble_eq_true rfl) (hrec_X5_readSum σ21 _ (ps_bdE hK)) ?_
      intro v23 σ24 hT
      clear hK
      have hK := hT
      clear hT
      refine pm_if_ne d_X5_readAtom_20 (fun c25 => ?_) (fun c25 => ?_)
      · replace hK := ps_ifF c25 hK
        refine pm_ald d_X5_readAtom_25 rfl ?_
        refine pm_dup d_X5_readAtom_26 rfl ?_
        refine ps_getI d_X5_readAtom_27 at_11 f_3_0_10 rfl ?_
        refine ps_topI (fun v26 ev26 => ?_)
        replace hK := ps_ltE ev26 hK
        refine pm_ki d_X5_readAtom_30 ?_
        refine pm_isub d_X5_readAtom_31 ?_
        refine ps_putI d_X5_readAtom_32 at_11 f_3_0_10 rfl rfl ?_
        refine ps_nmS (fun σ27 eσ27 => ?_)
        replace hK := ps_ltE eσ27 hK
        refine pm_ald d_X5_readAtom_35 rfl ?_
        refine pm_ki d_X5_readAtom_36 ?_
        refine ps_cVI d_X5_readAtom_38 mv_X5_takeSign at_11 ob_3_0 rfl (As := [.int 41]) rfl rfl (ps_room.of (by omega) (by decide)) (Nat.le_of_ble_eq_true rfl) (C_X5_takeSign 41 σ27 _ (ps_bdE hK)) ?_
        intro v28 σ29 hT
        clear hK
        have hK := hT
        clear hT
        obtain ⟨b30, hT⟩ := ps_gd hK
        have hQ := ps_so hT
        exact ps_zret rfl (ps_nb b30) d_X5_readAtom_41 ⟨_, rfl, hQ⟩
      · replace hK := ps_ifT c25 hK
        refine pm_ki d_X5_readAtom_23 ?_
        have hQ := ps_so hK
        exact ps_zret rfl rfl d_X5_readAtom_24 ⟨_, rfl, hQ⟩
def bX5_readChoice (rec : Nat → ps_S → Option (Int32 × ps_S))  (σ : ps_S) : Option (Int32 × ps_S) :=
  ps_bd (qX5_goDeeper σ) (fun v1 σ2 =>
  if v1 = 0 then
  some (0, σ2)
  else
  ps_bd (rec 4 σ2) (fun v4 σ5 =>
  if v4 = 0 then
  some (0, σ5)
  else
  ps_bd (qX5_takeWord 20 σ5) (fun v7 σ8 =>
  if v7 = 0 then
  some (0, σ8)
  else
  ps_bd (rec 0 σ8) (fun v10 σ11 =>
  if v10 = 0 then
  some (0, σ11)
  else
  ps_bd (qX5_takeWord 21 σ11) (fun v13 σ14 =>
  if v13 = 0 then
  some (0, σ14)
  else
  ps_bd (rec 0 σ14) (fun v16 σ17 =>
  if v16 = 0 then
  some (0, σ17)
  else
  ps_bd (qX5_takeWord 22 σ17) (fun v19 σ20 =>
  if v19 = 0 then
  some (0, σ20)
  else
  ps_let (σ20.1 11 10) fun v22 =>
  ps_let (ps_rI σ20 11 (upd (σ20.1 11) 10 ((v22 - 1)))) fun σ23 =>
  ps_bd (qX3_append 2 1005 σ23) (fun _ σ25 =>
  some (1, σ25)))))))))
set_option maxRecDepth 100000 in
theorem B_X5_readChoice {g : pm_G} (D : Nat) (hD : 7 ≤ D) (rec : Nat → ps_S → Option (Int32 × ps_S)) (D0 : Nat) (hD0 : D0 < D) (hrec_X5_readSum : ∀  (σ : ps_S) (P : Int32 → ps_S → Prop), ps_ok (rec 0 σ) P → ps_C g mX5_readSum D0 [.ref (g.2.2.1 + 11)] σ (ps_qI P)) (hrec_X5_readTerm : ∀  (σ : ps_S) (P : Int32 → ps_S → Prop), ps_ok (rec 1 σ) P → ps_C g mX5_readTerm D0 [.ref (g.2.2.1 + 11)] σ (ps_qI P)) (hrec_X5_readAtom : ∀  (σ : ps_S) (P : Int32 → ps_S → Prop), ps_ok (rec 2 σ) P → ps_C g mX5_readAtom D0 [.ref (g.2.2.1 + 11)] σ (ps_qI P)) (hrec_X5_readChoice : ∀  (σ : ps_S) (P : Int32 → ps_S → Prop), ps_ok (rec 3 σ) P → ps_C g mX5_readChoice D0 [.ref (g.2.2.1 + 11)] σ (ps_qI P)) (hrec_X5_readTruth : ∀  (σ : ps_S) (P : Int32 → ps_S → Prop), ps_ok (rec 4 σ) P → ps_C g mX5_readTruth D0 [.ref (g.2.2.1 + 11)] σ (ps_qI P)) (hrec_X5_readBoth : ∀  (σ : ps_S) (P : Int32 → ps_S → Prop), ps_ok (rec 5 σ) P → ps_C g mX5_readBoth D0 [.ref (g.2.2.1 + 11)] σ (ps_qI P)) (hrec_X5_readUnit : ∀  (σ : ps_S) (P : Int32 → ps_S → Prop), ps_ok (rec 6 σ) P → ps_C g mX5_readUnit D0 [.ref (g.2.2.1 + 11)] σ (ps_qI P)) (hrec_X5_readCompared : ∀  (σ : ps_S) (P : Int32 → ps_S → Prop), ps_ok (rec 7 σ) P → ps_C g mX5_readCompared D0 [.ref (g.2.2.1 + 11)] σ (ps_qI P))  (σ : ps_S) (P : Int32 → ps_S → Prop) (hK : ps_ok (bX5_readChoice rec  σ) P) : ps_C g mX5_readChoice D [.ref (g.2.2.1 + 11)] σ (ps_qI P) := by
  unfold bX5_readChoice at hK
  refine ps_C.of (ls := [some (.ref (g.2.2.1 + 11))]) 0 (by decide) rfl (Nat.le_of_ble_eq_true rfl) rfl ?_
  refine pm_ald d_X5_readChoice_0 rfl ?_
  refine ps_cVI d_X5_readChoice_1 mv_X5_goDeeper at_11 ob_3_0 rfl (As := []) rfl rfl (ps_room.of (by omega) (by decide)) (Nat.le_of_ble_eq_true rfl) (C_X5_goDeeper σ _ (ps_bdE hK)) ?_
  intro v1 σ2 hT
  clear hK
  have hK := hT
  clear hT
  refine pm_if_eq d_X5_readChoice_4 (fun c3 => ?_) (fun c3 => ?_)
  · replace hK := ps_ifT c3 hK
    refine pm_ki d_X5_readChoice_30 ?_
    have hQ := ps_so hK
    exact ps_zret rfl rfl d_X5_readChoice_31 ⟨_, rfl, hQ⟩
  · replace hK := ps_ifF c3 hK
    refine pm_ald d_X5_readChoice_7 rfl ?_
    refine ps_cVI d_X5_readChoice_8 mv_X5_readTruth at_11 ob_3_0 rfl (As := []) rfl rfl (ps_room.of (by omega) (by decide)) (Nat.le_of_ble_eq_true rfl) (hrec_X5_readTruth σ2 _ (ps_bdE hK)) ?_
    intro v4 σ5 hT
    clear hK
    have hK := hT
    clear hT
    refine pm_if_eq d_X5_readChoice_11 (fun c6 => ?_) (fun c6 => ?_)
    · replace hK := ps_ifT c6 hK
      refine pm_ki d_X5_readChoice_30 ?_
      have hQ := ps_so hK
      exact ps_zret rfl rfl d_X5_readChoice_31 ⟨_, rfl, hQ⟩
    · replace hK := ps_ifF c6 hK
      refine pm_ald d_X5_readChoice_14 rfl ?_
      refine pm_ks d_X5_readChoice_15 ?_
      refine ps_cVI d_X5_readChoice_17 mv_X5_takeWord at_11 ob_3_0 rfl (As := [.ref (g.2.2.2.1 20)]) rfl rfl (ps_room.of (by omega) (by decide)) (Nat.le_of_ble_eq_true rfl) (C_X5_takeWord 20 (by decide) σ5 _ (ps_bdE hK)) ?_
      intro v7 σ8 hT
      clear hK
      have hK := hT
      clear hT
      refine pm_if_eq d_X5_readChoice_20 (fun c9 => ?_) (fun c9 => ?_)
      · replace hK := ps_ifT c9 hK
        refine pm_ki d_X5_readChoice_30 ?_
        have hQ := ps_so hK
        exact ps_zret rfl rfl d_X5_readChoice_31 ⟨_, rfl, hQ⟩
      · replace hK := ps_ifF c9 hK
        refine pm_ald d_X5_readChoice_23 rfl ?_
        refine ps_cVI d_X5_readChoice_24 mv_X5_readSum at_11 ob_3_0 rfl (As := []) rfl rfl (ps_room.of (by omega) (by decide)) (Nat.le_of_ble_eq_true rfl) (hrec_X5_readSum σ8 _ (ps_bdE hK)) ?_
        intro v10 σ11 hT
        clear hK
        have hK := hT
        clear hT
        refine pm_if_ne d_X5_readChoice_27 (fun c12 => ?_) (fun c12 => ?_)
        · replace hK := ps_ifF c12 hK
          refine pm_ald d_X5_readChoice_32 rfl ?_
          refine pm_ks d_X5_readChoice_33 ?_
          refine ps_cVI d_X5_readChoice_35 mv_X5_takeWord at_11 ob_3_0 rfl (As := [.ref (g.2.2.2.1 21)]) rfl rfl (ps_room.of (by omega) (by decide)) (Nat.le_of_ble_eq_true rfl) (C_X5_takeWord 21 (by decide) σ11 _ (ps_bdE hK)) ?_
          intro v13 σ14 hT
          clear hK
          have hK := hT
          clear hT
          refine pm_if_eq d_X5_readChoice_38 (fun c15 => ?_) (fun c15 => ?_)
          · replace hK := ps_ifT c15 hK
            refine pm_ki d_X5_readChoice_57 ?_
            have hQ := ps_so hK
            exact ps_zret rfl rfl d_X5_readChoice_58 ⟨_, rfl, hQ⟩
          · replace hK := ps_ifF c15 hK
            refine pm_ald d_X5_readChoice_41 rfl ?_
            refine ps_cVI d_X5_readChoice_42 mv_X5_readSum at_11 ob_3_0 rfl (As := []) rfl rfl (ps_room.of (by omega) (by decide)) (Nat.le_of_ble_eq_true rfl) (hrec_X5_readSum σ14 _ (ps_bdE hK)) ?_
            intro v16 σ17 hT
            clear hK
            have hK := hT
            clear hT
            refine pm_if_eq d_X5_readChoice_45 (fun c18 => ?_) (fun c18 => ?_)
            · replace hK := ps_ifT c18 hK
              refine pm_ki d_X5_readChoice_57 ?_
              have hQ := ps_so hK
              exact ps_zret rfl rfl d_X5_readChoice_58 ⟨_, rfl, hQ⟩
            · replace hK := ps_ifF c18 hK
              refine pm_ald d_X5_readChoice_48 rfl ?_
              refine pm_ks d_X5_readChoice_49 ?_
              refine ps_cVI d_X5_readChoice_51 mv_X5_takeWord at_11 ob_3_0 rfl (As := [.ref (g.2.2.2.1 22)]) rfl rfl (ps_room.of (by omega) (by decide)) (Nat.le_of_ble_eq_true rfl) (C_X5_takeWord 22 (by decide) σ17 _ (ps_bdE hK)) ?_
              intro v19 σ20 hT
              clear hK
              have hK := hT
              clear hT
              refine pm_if_ne d_X5_readChoice_54 (fun c21 => ?_) (fun c21 => ?_)
              · replace hK := ps_ifF c21 hK
                refine pm_ald d_X5_readChoice_59 rfl ?_
                refine pm_dup d_X5_readChoice_60 rfl ?_
                refine ps_getI d_X5_readChoice_61 at_11 f_3_0_10 rfl ?_
                refine ps_topI (fun v22 ev22 => ?_)
                replace hK := ps_ltE ev22 hK
                refine pm_ki d_X5_readChoice_64 ?_
                refine pm_isub d_X5_readChoice_65 ?_
                refine ps_putI d_X5_readChoice_66 at_11 f_3_0_10 rfl rfl ?_
                refine ps_nmS (fun σ23 eσ23 => ?_)
                replace hK := ps_ltE eσ23 hK
                refine pm_ald d_X5_readChoice_69 rfl ?_
                refine ps_getR (q := 2) d_X5_readChoice_70 at_11 f_3_0_3 rfl ?_
                refine ps_getR (q := (2 + 7)) d_X5_readChoice_73 ps_Ho2.at0 f_2_0_17 rfl ?_
                refine pm_ki d_X5_readChoice_76 ?_
                refine ps_cVV d_X5_readChoice_79 mv_X3_append (ps_Ho2.at 7 (by decide)) ob_2_7 rfl (As := [.int 1005]) rfl rfl (ps_room.of (by omega) (by decide)) (Nat.le_of_ble_eq_true rfl) (C_X3_append 2 ps_Ho2 1005 σ23 _ (ps_bdE hK)) ?_
                intro σ25 hT
                clear hK
                have hK := hT
                clear hT
                refine pm_ki d_X5_readChoice_82 ?_
                have hQ := ps_so hK
                exact ps_zret rfl rfl d_X5_readChoice_83 ⟨_, rfl, hQ⟩
              · replace hK := ps_ifT c21 hK
                refine pm_ki d_X5_readChoice_57 ?_
                have hQ := ps_so hK
                exact ps_zret rfl rfl d_X5_readChoice_58 ⟨_, rfl, hQ⟩
        · replace hK := ps_ifT c12 hK
          refine pm_ki d_X5_readChoice_30 ?_
          have hQ := ps_so hK
          exact ps_zret rfl rfl d_X5_readChoice_31 ⟨_, rfl, hQ⟩
def qX5_readTruth_7 (rec : Nat → ps_S → Option (Int32 × ps_S))  : Nat → Int32 → Int32 → ps_S → Option (((Int32 × Int32)) × ps_S)
  | 0, _, _, _ => none
  | n + 1, x1, x2, σ =>
    if 900 ≤ x2 then
    some ((x1, x2), σ)
    else
    if x1 = 0 then
    some ((x1, x2), σ)
    else
    ps_bd (qX5_isWord 19 σ) (fun v5 σ6 =>
    if v5 = 0 then
    some ((x1, x2), σ6)
    else
    ps_bd (qX5_advance σ6) (fun _ σ9 =>
    ps_bd (rec 5 σ9) (fun v10 σ11 =>
    ps_bd (qX3_append 2 1013 σ11) (fun _ σ13 =>
    ps_let (x2 + 1) fun v14 =>
    qX5_readTruth_7 rec n v10 v14 σ13))))
set_option maxRecDepth 100000 in
theorem L_X5_readTruth_7 {g : pm_G} (D : Nat) (hD : 7 ≤ D) {P : Int32 → ps_S → Prop} (rec : Nat → ps_S → Option (Int32 × ps_S)) (D0 : Nat) (hD0 : D0 < D) (hrec_X5_readSum : ∀  (σ : ps_S) (P : Int32 → ps_S → Prop), ps_ok (rec 0 σ) P → ps_C g mX5_readSum D0 [.ref (g.2.2.1 + 11)] σ (ps_qI P)) (hrec_X5_readTerm : ∀  (σ : ps_S) (P : Int32 → ps_S → Prop), ps_ok (rec 1 σ) P → ps_C g mX5_readTerm D0 [.ref (g.2.2.1 + 11)] σ (ps_qI P)) (hrec_X5_readAtom : ∀  (σ : ps_S) (P : Int32 → ps_S → Prop), ps_ok (rec 2 σ) P → ps_C g mX5_readAtom D0 [.ref (g.2.2.1 + 11)] σ (ps_qI P)) (hrec_X5_readChoice : ∀  (σ : ps_S) (P : Int32 → ps_S → Prop), ps_ok (rec 3 σ) P → ps_C g mX5_readChoice D0 [.ref (g.2.2.1 + 11)] σ (ps_qI P)) (hrec_X5_readTruth : ∀  (σ : ps_S) (P : Int32 → ps_S → Prop), ps_ok (rec 4 σ) P → ps_C g mX5_readTruth D0 [.ref (g.2.2.1 + 11)] σ (ps_qI P)) (hrec_X5_readBoth : ∀  (σ : ps_S) (P : Int32 → ps_S → Prop), ps_ok (rec 5 σ) P → ps_C g mX5_readBoth D0 [.ref (g.2.2.1 + 11)] σ (ps_qI P)) (hrec_X5_readUnit : ∀  (σ : ps_S) (P : Int32 → ps_S → Prop), ps_ok (rec 6 σ) P → ps_C g mX5_readUnit D0 [.ref (g.2.2.1 + 11)] σ (ps_qI P)) (hrec_X5_readCompared : ∀  (σ : ps_S) (P : Int32 → ps_S → Prop), ps_ok (rec 7 σ) P → ps_C g mX5_readCompared D0 [.ref (g.2.2.1 + 11)] σ (ps_qI P))  : ∀ (n : Nat) (x1 : Int32) (x2 : Int32) (σ : ps_S), ps_ok (qX5_readTruth_7 rec n x1 x2 σ) (fun res σ => match res with | (x1, x2) => pm_W g mX5_readTruth (ps_F g D (ps_qI P)) 0 0 55 [some (.ref (g.2.2.1 + 11)), some (.int x1), some (.int x2)] [] 345 (ps_E g σ)) → pm_W g mX5_readTruth (ps_F g D (ps_qI P)) 0 0 7 [some (.ref (g.2.2.1 + 11)), some (.int x1), some (.int x2)] [] 345 (ps_E g σ) := by
  intro n
  induction n with
  | zero => intro x1 x2 σ hK; exact (ps_no hK).elim
  | succ n ih =>
    intro x1 x2 σ hK
    rw [qX5_readTruth_7] at hK
    refine pm_ild d_X5_readTruth_7 rfl ?_
    refine pm_ki d_X5_readTruth_8 ?_
    refine pm_icmp_ge d_X5_readTruth_11 (fun c3 => ?_) (fun c3 => ?_)
    · replace hK := ps_ifT c3 hK
      exact ps_so hK
    · replace hK := ps_ifF c3 hK
      refine pm_ild d_X5_readTruth_14 rfl ?_
      refine pm_if_eq d_X5_readTruth_15 (fun c4 => ?_) (fun c4 => ?_)
      · replace hK := ps_ifT c4 hK
        exact ps_so hK
      · replace hK := ps_ifF c4 hK
        refine pm_ald d_X5_readTruth_18 rfl ?_
        refine pm_ks d_X5_readTruth_19 ?_
        refine ps_cVI d_X5_readTruth_21 mv_X5_isWord at_11 ob_3_0 rfl (As := [.ref (g.2.2.2.1 19)]) rfl rfl (ps_room.of (by omega) (by decide)) (Nat.le_of_ble_eq_true rfl) (C_X5_isWord 19 (by decide) σ _ (ps_bdE hK)) ?_
        intro v5 σ6 hT
        clear hK
        have hK := hT
        clear hT
        refine pm_if_eq d_X5_readTruth_24 (fun c7 => ?_) (fun c7 => ?_)
        · replace hK := ps_ifT c7 hK
          exact ps_so hK
        · replace hK := ps_ifF c7 hK
          refine pm_ald d_X5_readTruth_27 rfl ?_
          refine ps_cVV d_X5_readTruth_28 mv_X5_advance at_11 ob_3_0 rfl (As := []) rfl rfl (ps_room.of (by omega) (by decide)) (Nat.le_of_ble_eq_true rfl) (C_X5_advance σ6 _ (ps_bdE hK)) ?_
          intro σ9 hT
          clear hK
          have hK := hT
          clear hT
          refine pm_ald d_X5_readTruth_31 rfl ?_
          refine ps_cVI d_X5_readTruth_32 mv_X5_readBoth at_11 ob_3_0 rfl (As := []) rfl rfl (ps_room.of (by omega) (by decide)) (Nat.le_of_ble_eq_true rfl) (hrec_X5_readBoth σ9 _ (ps_bdE hK)) ?_
          intro v10 σ11 hT
          clear hK
          have hK := hT
          clear hT
          refine pm_ist1 d_X5_readTruth_35 rfl (by decide) ?_
          refine pm_ald d_X5_readTruth_36 rfl ?_
          refine ps_getR (q := 2) d_X5_readTruth_37 at_11 f_3_0_3 rfl ?_
          refine ps_getR (q := (2 + 7)) d_X5_readTruth_40 ps_Ho2.at0 f_2_0_17 rfl ?_
          refine pm_ki d_X5_readTruth_43 ?_
          refine ps_cVV d_X5_readTruth_46 mv_X3_append (ps_Ho2.at 7 (by decide)) ob_2_7 rfl (As := [.int 1013]) rfl rfl (ps_room.of (by omega) (by decide)) (Nat.le_of_ble_eq_true rfl) (C_X3_append 2 ps_Ho2 1013 σ11 _ (ps_bdE hK)) ?_
          intro σ13 hT
          clear hK
          have hK := hT
          clear hT
          refine pm_inc2 d_X5_readTruth_49 rfl ?_
          obtain ⟨v14, ev14⟩ : ∃ y : Int32, y = x2 + 1 := ⟨_, rfl⟩
          rw [← ev14]
          replace hK := ps_ltE ev14 hK
          refine pm_goto d_X5_readTruth_52 ?_
          exact ih _ _ _ hK
def bX5_readTruth (rec : Nat → ps_S → Option (Int32 × ps_S))  (σ : ps_S) : Option (Int32 × ps_S) :=
  ps_bd (rec 5 σ) (fun v1 σ2 =>
  ps_bd (qX5_readTruth_7 rec ps_N v1 0 σ2) (fun res σ15 => match res with
  | (v16, v17) =>
    if ps_b01 v16 = true then some (v16, σ15) else none))
set_option maxRecDepth 100000 in
theorem B_X5_readTruth {g : pm_G} (D : Nat) (hD : 7 ≤ D) (rec : Nat → ps_S → Option (Int32 × ps_S)) (D0 : Nat) (hD0 : D0 < D) (hrec_X5_readSum : ∀  (σ : ps_S) (P : Int32 → ps_S → Prop), ps_ok (rec 0 σ) P → ps_C g mX5_readSum D0 [.ref (g.2.2.1 + 11)] σ (ps_qI P)) (hrec_X5_readTerm : ∀  (σ : ps_S) (P : Int32 → ps_S → Prop), ps_ok (rec 1 σ) P → ps_C g mX5_readTerm D0 [.ref (g.2.2.1 + 11)] σ (ps_qI P)) (hrec_X5_readAtom : ∀  (σ : ps_S) (P : Int32 → ps_S → Prop), ps_ok (rec 2 σ) P → ps_C g mX5_readAtom D0 [.ref (g.2.2.1 + 11)] σ (ps_qI P)) (hrec_X5_readChoice : ∀  (σ : ps_S) (P : Int32 → ps_S → Prop), ps_ok (rec 3 σ) P → ps_C g mX5_readChoice D0 [.ref (g.2.2.1 + 11)] σ (ps_qI P)) (hrec_X5_readTruth : ∀  (σ : ps_S) (P : Int32 → ps_S → Prop), ps_ok (rec 4 σ) P → ps_C g mX5_readTruth D0 [.ref (g.2.2.1 + 11)] σ (ps_qI P)) (hrec_X5_readBoth : ∀  (σ : ps_S) (P : Int32 → ps_S → Prop), ps_ok (rec 5 σ) P → ps_C g mX5_readBoth D0 [.ref (g.2.2.1 + 11)] σ (ps_qI P)) (hrec_X5_readUnit : ∀  (σ : ps_S) (P : Int32 → ps_S → Prop), ps_ok (rec 6 σ) P → ps_C g mX5_readUnit D0 [.ref (g.2.2.1 + 11)] σ (ps_qI P)) (hrec_X5_readCompared : ∀  (σ : ps_S) (P : Int32 → ps_S → Prop), ps_ok (rec 7 σ) P → ps_C g mX5_readCompared D0 [.ref (g.2.2.1 + 11)] σ (ps_qI P))  (σ : ps_S) (P : Int32 → ps_S → Prop) (hK : ps_ok (bX5_readTruth rec  σ) P) : ps_C g mX5_readTruth D [.ref (g.2.2.1 + 11)] σ (ps_qI P) := by
  unfold bX5_readTruth at hK
  refine ps_C.of (ls := [some (.ref (g.2.2.1 + 11)), none, none]) 2 (by decide) rfl (Nat.le_of_ble_eq_true rfl) rfl ?_
  refine pm_ald d_X5_readTruth_0 rfl ?_
  refine ps_cVI d_X5_readTruth_1 mv_X5_readBoth at_11 ob_3_0 rfl (As := []) rfl rfl (ps_room.of (by omega) (by decide)) (Nat.le_of_ble_eq_true rfl) (hrec_X5_readBoth σ _ (ps_bdE hK)) ?_
  intro v1 σ2 hT
  clear hK
  have hK := hT
  clear hT
  refine pm_ist1 d_X5_readTruth_4 rfl (by decide) ?_
  refine pm_ki d_X5_readTruth_5 ?_
  refine pm_ist2 d_X5_readTruth_6 rfl (by decide) ?_
  refine L_X5_readTruth_7 D hD rec D0 hD0 hrec_X5_readSum hrec_X5_readTerm hrec_X5_readAtom hrec_X5_readChoice hrec_X5_readTruth hrec_X5_readBoth hrec_X5_readUnit hrec_X5_readCompared _ _ _ _ (ps_ok.mono (ps_bdE hK) ?_)
  rintro ⟨v16, v17⟩ σ15 hT
  clear hK
  have hK := hT
  clear hT
  refine pm_ild d_X5_readTruth_55 rfl ?_
  obtain ⟨b18, hT⟩ := ps_gd hK
  have hQ := ps_so hT
  exact ps_zret rfl (ps_nb b18) d_X5_readTruth_56 ⟨_, rfl, hQ⟩
def qX5_readBoth_7 (rec : Nat → ps_S → Option (Int32 × ps_S))  : Nat → Int32 → Int32 → ps_S → Option (((Int32 × Int32)) × ps_S)
  | 0, _, _, _ => none
  | n + 1, x1, x2, σ =>
    if 900 ≤ x2 then
    some ((x1, x2), σ)
    else
    if x1 = 0 then
    some ((x1, x2), σ)
    else
    ps_bd (qX5_isWord 18 σ) (fun v5 σ6 =>
    if v5 = 0 then
    some ((x1, x2), σ6)
    else
    ps_bd (qX5_advance σ6) (fun _ σ9 =>
    ps_bd (rec 6 σ9) (fun v10 σ11 =>
    ps_bd (qX3_append 2 1012 σ11) (fun _ σ13 =>
    ps_let (x2 + 1) fun v14 =>
    qX5_readBoth_7 rec n v10 v14 σ13))))
set_option maxRecDepth 100000 in
theorem L_X5_readBoth_7 {g : pm_G} (D : Nat) (hD : 7 ≤ D) {P : Int32 → ps_S → Prop} (rec : Nat → ps_S → Option (Int32 × ps_S)) (D0 : Nat) (hD0 : D0 < D) (hrec_X5_readSum : ∀  (σ : ps_S) (P : Int32 → ps_S → Prop), ps_ok (rec 0 σ) P → ps_C g mX5_readSum D0 [.ref (g.2.2.1 + 11)] σ (ps_qI P)) (hrec_X5_readTerm : ∀  (σ : ps_S) (P : Int32 → ps_S → Prop), ps_ok (rec 1 σ) P → ps_C g mX5_readTerm D0 [.ref (g.2.2.1 + 11)] σ (ps_qI P)) (hrec_X5_readAtom : ∀  (σ : ps_S) (P : Int32 → ps_S → Prop), ps_ok (rec 2 σ) P → ps_C g mX5_readAtom D0 [.ref (g.2.2.1 + 11)] σ (ps_qI P)) (hrec_X5_readChoice : ∀  (σ : ps_S) (P : Int32 → ps_S → Prop), ps_ok (rec 3 σ) P → ps_C g mX5_readChoice D0 [.ref (g.2.2.1 + 11)] σ (ps_qI P)) (hrec_X5_readTruth : ∀  (σ : ps_S) (P : Int32 → ps_S → Prop), ps_ok (rec 4 σ) P → ps_C g mX5_readTruth D0 [.ref (g.2.2.1 + 11)] σ (ps_qI P)) (hrec_X5_readBoth : ∀  (σ : ps_S) (P : Int32 → ps_S → Prop), ps_ok (rec 5 σ) P → ps_C g mX5_readBoth D0 [.ref (g.2.2.1 + 11)] σ (ps_qI P)) (hrec_X5_readUnit : ∀  (σ : ps_S) (P : Int32 → ps_S → Prop), ps_ok (rec 6 σ) P → ps_C g mX5_readUnit D0 [.ref (g.2.2.1 + 11)] σ (ps_qI P)) (hrec_X5_readCompared : ∀  (σ : ps_S) (P : Int32 → ps_S → Prop), ps_ok (rec 7 σ) P → ps_C g mX5_readCompared D0 [.ref (g.2.2.1 + 11)] σ (ps_qI P))  : ∀ (n : Nat) (x1 : Int32) (x2 : Int32) (σ : ps_S), ps_ok (qX5_readBoth_7 rec n x1 x2 σ) (fun res σ => match res with | (x1, x2) => pm_W g mX5_readBoth (ps_F g D (ps_qI P)) 0 0 55 [some (.ref (g.2.2.1 + 11)), some (.int x1), some (.int x2)] [] 345 (ps_E g σ)) → pm_W g mX5_readBoth (ps_F g D (ps_qI P)) 0 0 7 [some (.ref (g.2.2.1 + 11)), some (.int x1), some (.int x2)] [] 345 (ps_E g σ) := by
  intro n
  induction n with
  | zero => intro x1 x2 σ hK; exact (ps_no hK).elim
  | succ n ih =>
    intro x1 x2 σ hK
    rw [qX5_readBoth_7] at hK
    refine pm_ild d_X5_readBoth_7 rfl ?_
    refine pm_ki d_X5_readBoth_8 ?_
    refine pm_icmp_ge d_X5_readBoth_11 (fun c3 => ?_) (fun c3 => ?_)
    · replace hK := ps_ifT c3 hK
      exact ps_so hK
    · replace hK := ps_ifF c3 hK
      refine pm_ild d_X5_readBoth_14 rfl ?_
      refine pm_if_eq d_X5_readBoth_15 (fun c4 => ?_) (fun c4 => ?_)
      · replace hK := ps_ifT c4 hK
        exact ps_so hK
      · replace hK := ps_ifF c4 hK
        refine pm_ald d_X5_readBoth_18 rfl ?_
        refine pm_ks d_X5_readBoth_19 ?_
        refine ps_cVI d_X5_readBoth_21 mv_X5_isWord at_11 ob_3_0 rfl (As := [.ref (g.2.2.2.1 18)]) rfl rfl (ps_room.of (by omega) (by decide)) (Nat.le_of_ble_eq_true rfl) (C_X5_isWord 18 (by decide) σ _ (ps_bdE hK)) ?_
        intro v5 σ6 hT
        clear hK
        have hK := hT
        clear hT
        refine pm_if_eq d_X5_readBoth_24 (fun c7 => ?_) (fun c7 => ?_)
        · replace hK := ps_ifT c7 hK
          exact ps_so hK
        · replace hK := ps_ifF c7 hK
          refine pm_ald d_X5_readBoth_27 rfl ?_
          refine ps_cVV d_X5_readBoth_28 mv_X5_advance at_11 ob_3_0 rfl (As := []) rfl rfl (ps_room.of (by omega) (by decide)) (Nat.le_of_ble_eq_true rfl) (C_X5_advance σ6 _ (ps_bdE hK)) ?_
          intro σ9 hT
          clear hK
          have hK := hT
          clear hT
          refine pm_ald d_X5_readBoth_31 rfl ?_
          refine ps_cVI d_X5_readBoth_32 mv_X5_readUnit at_11 ob_3_0 rfl (As := []) rfl rfl (ps_room.of (by omega) (by decide)) (Nat.le_of_ble_eq_true rfl) (hrec_X5_readUnit σ9 _ (ps_bdE hK)) ?_
          intro v10 σ11 hT
          clear hK
          have hK := hT
          clear hT
          refine pm_ist1 d_X5_readBoth_35 rfl (by decide) ?_
          refine pm_ald d_X5_readBoth_36 rfl ?_
          refine ps_getR (q := 2) d_X5_readBoth_37 at_11 f_3_0_3 rfl ?_
          refine ps_getR (q := (2 + 7)) d_X5_readBoth_40 ps_Ho2.at0 f_2_0_17 rfl ?_
          refine pm_ki d_X5_readBoth_43 ?_
          refine ps_cVV d_X5_readBoth_46 mv_X3_append (ps_Ho2.at 7 (by decide)) ob_2_7 rfl (As := [.int 1012]) rfl rfl (ps_room.of (by omega) (by decide)) (Nat.le_of_ble_eq_true rfl) (C_X3_append 2 ps_Ho2 1012 σ11 _ (ps_bdE hK)) ?_
          intro σ13 hT
          clear hK
          have hK := hT
          clear hT
          refine pm_inc2 d_X5_readBoth_49 rfl ?_
          obtain ⟨v14, ev14⟩ : ∃ y : Int32, y = x2 + 1 := ⟨_, rfl⟩
          rw [← ev14]
          replace hK := ps_ltE ev14 hK
          refine pm_goto d_X5_readBoth_52 ?_
          exact ih _ _ _ hK
def bX5_readBoth (rec : Nat → ps_S → Option (Int32 × ps_S))  (σ : ps_S) : Option (Int32 × ps_S) :=
  ps_bd (rec 6 σ) (fun v1 σ2 =>
  ps_bd (qX5_readBoth_7 rec ps_N v1 0 σ2) (fun res σ15 => match res with
  | (v16, v17) =>
    if ps_b01 v16 = true then some (v16, σ15) else none))
set_option maxRecDepth 100000 in
theorem B_X5_readBoth {g : pm_G} (D : Nat) (hD : 7 ≤ D) (rec : Nat → ps_S → Option (Int32 × ps_S)) (D0 : Nat) (hD0 : D0 < D) (hrec_X5_readSum : ∀  (σ : ps_S) (P : Int32 → ps_S → Prop), ps_ok (rec 0 σ) P → ps_C g mX5_readSum D0 [.ref (g.2.2.1 + 11)] σ (ps_qI P)) (hrec_X5_readTerm : ∀  (σ : ps_S) (P : Int32 → ps_S → Prop), ps_ok (rec 1 σ) P → ps_C g mX5_readTerm D0 [.ref (g.2.2.1 + 11)] σ (ps_qI P)) (hrec_X5_readAtom : ∀  (σ : ps_S) (P : Int32 → ps_S → Prop), ps_ok (rec 2 σ) P → ps_C g mX5_readAtom D0 [.ref (g.2.2.1 + 11)] σ (ps_qI P)) (hrec_X5_readChoice : ∀  (σ : ps_S) (P : Int32 → ps_S → Prop), ps_ok (rec 3 σ) P → ps_C g mX5_readChoice D0 [.ref (g.2.2.1 + 11)] σ (ps_qI P)) (hrec_X5_readTruth : ∀  (σ : ps_S) (P : Int32 → ps_S → Prop), ps_ok (rec 4 σ) P → ps_C g mX5_readTruth D0 [.ref (g.2.2.1 + 11)] σ (ps_qI P)) (hrec_X5_readBoth : ∀  (σ : ps_S) (P : Int32 → ps_S → Prop), ps_ok (rec 5 σ) P → ps_C g mX5_readBoth D0 [.ref (g.2.2.1 + 11)] σ (ps_qI P)) (hrec_X5_readUnit : ∀  (σ : ps_S) (P : Int32 → ps_S → Prop), ps_ok (rec 6 σ) P → ps_C g mX5_readUnit D0 [.ref (g.2.2.1 + 11)] σ (ps_qI P)) (hrec_X5_readCompared : ∀  (σ : ps_S) (P : Int32 → ps_S → Prop), ps_ok (rec 7 σ) P → ps_C g mX5_readCompared D0 [.ref (g.2.2.1 + 11)] σ (ps_qI P))  (σ : ps_S) (P : Int32 → ps_S → Prop) (hK : ps_ok (bX5_readBoth rec  σ) P) : ps_C g mX5_readBoth D [.ref (g.2.2.1 + 11)] σ (ps_qI P) := by
  unfold bX5_readBoth at hK
  refine ps_C.of (ls := [some (.ref (g.2.2.1 + 11)), none, none]) 2 (by decide) rfl (Nat.le_of_ble_eq_true rfl) rfl ?_
  refine pm_ald d_X5_readBoth_0 rfl ?_
  refine ps_cVI d_X5_readBoth_1 mv_X5_readUnit at_11 ob_3_0 rfl (As := []) rfl rfl (ps_room.of (by omega) (by decide)) (Nat.le_of_ble_eq_true rfl) (hrec_X5_readUnit σ _ (ps_bdE hK)) ?_
  intro v1 σ2 hT
  clear hK
  have hK := hT
  clear hT
  refine pm_ist1 d_X5_readBoth_4 rfl (by decide) ?_
  refine pm_ki d_X5_readBoth_5 ?_
  refine pm_ist2 d_X5_readBoth_6 rfl (by decide) ?_
  refine L_X5_readBoth_7 D hD rec D0 hD0 hrec_X5_readSum hrec_X5_readTerm hrec_X5_readAtom hrec_X5_readChoice hrec_X5_readTruth hrec_X5_readBoth hrec_X5_readUnit hrec_X5_readCompared _ _ _ _ (ps_ok.mono (ps_bdE hK) ?_)
  rintro ⟨v16, v17⟩ σ15 hT
  clear hK
  have hK := hT
  clear hT
  refine pm_ild d_X5_readBoth_55 rfl ?_
  obtain ⟨b18, hT⟩ := ps_gd hK
  have hQ := ps_so hT
  exact ps_zret rfl (ps_nb b18) d_X5_readBoth_56 ⟨_, rfl, hQ⟩
def bX5_readUnit (rec : Nat → ps_S → Option (Int32 × ps_S))  (σ : ps_S) : Option (Int32 × ps_S) :=
  ps_bd (qX5_isWord 17 σ) (fun v1 σ2 =>
  if v1 = 0 then
  ps_bd (qX5_isSign 91 σ2) (fun v4 σ5 =>
  if v4 = 0 then
  ps_bd (rec 7 σ5) (fun v7 σ8 =>
  if ps_b01 v7 = true then some (v7, σ8) else none)
  else
  ps_bd (qX5_goDeeper σ5) (fun v10 σ11 =>
  if v10 = 0 then
  some (0, σ11)
  else
  ps_bd (rec 4 σ11) (fun v13 σ14 =>
  if v13 = 0 then
  some (0, σ14)
  else
  ps_let (σ14.1 11 10) fun v16 =>
  ps_let (ps_rI σ14 11 (upd (σ14.1 11) 10 ((v16 - 1)))) fun σ17 =>
  ps_bd (qX5_takeSign 93 σ17) (fun v18 σ19 =>
  if ps_b01 v18 = true then some (v18, σ19) else none))))
  else
  ps_bd (qX5_goDeeper σ2) (fun v21 σ22 =>
  if v21 = 0 then
  some (0, σ22)
  else
  ps_bd (rec 6 σ22) (fun v24 σ25 =>
  if v24 = 0 then
  some (0, σ25)
  else
  ps_let (σ25.1 11 10) fun v27 =>
  ps_let (ps_rI σ25 11 (upd (σ25.1 11) 10 ((v27 - 1)))) fun σ28 =>
  ps_bd (qX3_append 2 1004 σ28) (fun _ σ30 =>
  some (1, σ30)))))
set_option maxRecDepth 100000 in
theorem B_X5_readUnit {g : pm_G} (D : Nat) (hD : 7 ≤ D) (rec : Nat → ps_S → Option (Int32 × ps_S)) (D0 : Nat) (hD0 : D0 < D) (hrec_X5_readSum : ∀  (σ : ps_S) (P : Int32 → ps_S → Prop), ps_ok (rec 0 σ) P → ps_C g mX5_readSum D0 [.ref (g.2.2.1 + 11)] σ (ps_qI P)) (hrec_X5_readTerm : ∀  (σ : ps_S) (P : Int32 → ps_S → Prop), ps_ok (rec 1 σ) P → ps_C g mX5_readTerm D0 [.ref (g.2.2.1 + 11)] σ (ps_qI P)) (hrec_X5_readAtom : ∀  (σ : ps_S) (P : Int32 → ps_S → Prop), ps_ok (rec 2 σ) P → ps_C g mX5_readAtom D0 [.ref (g.2.2.1 + 11)] σ (ps_qI P)) (hrec_X5_readChoice : ∀  (σ : ps_S) (P : Int32 → ps_S → Prop), ps_ok (rec 3 σ) P → ps_C g mX5_readChoice D0 [.ref (g.2.2.1 + 11)] σ (ps_qI P)) (hrec_X5_readTruth : ∀  (σ : ps_S) (P : Int32 → ps_S → Prop), ps_ok (rec 4 σ) P → ps_C g mX5_readTruth D0 [.ref (g.2.2.1 + 11)] σ (ps_qI P)) (hrec_X5_readBoth : ∀  (σ : ps_S) (P : Int32 → ps_S → Prop), ps_ok (rec 5 σ) P → ps_C g mX5_readBoth D0 [.ref (g.2.2.1 + 11)] σ (ps_qI P)) (hrec_X5_readUnit : ∀  (σ : ps_S) (P : Int32 → ps_S → Prop), ps_ok (rec 6 σ) P → ps_C g mX5_readUnit D0 [.ref (g.2.2.1 + 11)] σ (ps_qI P)) (hrec_X5_readCompared : ∀  (σ : ps_S) (P : Int32 → ps_S → Prop), ps_ok (rec 7 σ) P → ps_C g mX5_readCompared D0 [.ref (g.2.2.1 + 11)] σ (ps_qI P))  (σ : ps_S) (P : Int32 → ps_S → Prop) (hK : ps_ok (bX5_readUnit rec  σ) P) : ps_C g mX5_readUnit D [.ref (g.2.2.1 + 11)] σ (ps_qI P) := by
  unfold bX5_readUnit at hK
  refine ps_C.of (ls := [some (.ref (g.2.2.1 + 11))]) 0 (by decide) rfl (Nat.le_of_ble_eq_true rfl) rfl ?_
  refine pm_ald d_X5_readUnit_0 rfl ?_
  refine pm_ks d_X5_readUnit_1 ?_
  refine ps_cVI d_X5_readUnit_3 mv_X5_isWord at_11 ob_3_0 rfl (As := [.ref (g.2.2.2.1 17)]) rfl rfl (ps_room.of (by omega) (by decide)) (Nat.le_of_ble_eq_true rfl) (C_X5_isWord 17 (by decide) σ _ (ps_bdE hK)) ?_
  intro v1 σ2 hT
  clear hK
  have hK := hT
  clear hT
  refine pm_if_eq d_X5_readUnit_6 (fun c3 => ?_) (fun c3 => ?_)
  · replace hK := ps_ifT c3 hK
    refine pm_ald d_X5_readUnit_50 rfl ?_
    refine pm_ki d_X5_readUnit_51 ?_
    refine ps_cVI d_X5_readUnit_53 mv_X5_isSign at_11 ob_3_0 rfl (As := [.int 91]) rfl rfl (ps_room.of (by omega) (by decide)) (Nat.le_of_ble_eq_true rfl) (C_X5_isSign 91 σ2 _ (ps_bdE hK)) ?_
    intro v4 σ5 hT
    clear hK
    have hK := hT
    clear hT
    refine pm_if_eq d_X5_readUnit_56 (fun c6 => ?_) (fun c6 => ?_)
    · replace hK := ps_ifT c6 hK
      refine pm_ald d_X5_readUnit_92 rfl ?_
      refine ps_cVI d_X5_readUnit_93 mv_X5_readCompared at_11 ob_3_0 rfl (As := []) rfl rfl (ps_room.of (by omega) (by decide)) (Nat.le_of_ble_eq_true rfl) (hrec_X5_readCompared σ5 _ (ps_bdE hK)) ?_
      intro v7 σ8 hT
      clear hK
      have hK := hT
      clear hT
      obtain ⟨b9, hT⟩ := ps_gd hK
      have hQ := ps_so hT
      exact ps_zret rfl (ps_nb b9) d_X5_readUnit_96 ⟨_, rfl, hQ⟩
    · replace hK := ps_ifF c6 hK
      refine pm_ald d_X5_readUnit_59 rfl ?_
      refine ps_cVI d_X5_readUnit_60 mv_X5_goDeeper at_11 ob_3_0 rfl (As := []) rfl rfl (ps_room.of (by omega) (by decide)) (Nat.le_of_ble_eq_true rfl) (C_X5_goDeeper σ5 _ (ps_bdE hK)) ?_
      intro v10 σ11 hT
      clear hK
      have hK := hT
      clear hT
      refine pm_if_eq d_X5_readUnit_63 (fun c12 => ?_) (fun c12 => ?_)
      · replace hK := ps_ifT c12 hK
        refine pm_ki d_X5_readUnit_73 ?_
        have hQ := ps_so hK
        exact ps_zret rfl rfl d_X5_readUnit_74 ⟨_, rfl, hQ⟩
      · replace hK := ps_ifF c12 hK
        refine pm_ald d_X5_readUnit_66 rfl ?_
        refine ps_cVI d_X5_readUnit_67 mv_X5_readTruth at_11 ob_3_0 rfl (As := []) rfl rfl (ps_room.of (by omega) (by decide)) (Nat.le_of_ble_eq_true rfl) (hrec_X5_readTruth σ11 _ (ps_bdE hK)) ?_
        intro v13 σ14 hT
        clear hK
        have hK := hT
        clear hT
        refine pm_if_ne d_X5_readUnit_70 (fun c15 => ?_) (fun c15 => ?_)
        · replace hK := ps_ifF c15 hK
          refine pm_ald d_X5_readUnit_75 rfl ?_
          refine pm_dup d_X5_readUnit_76 rfl ?_
          refine ps_getI d_X5_readUnit_77 at_11 f_3_0_10 rfl ?_
          refine ps_topI (fun v16 ev16 => ?_)
          replace hK := ps_ltE ev16 hK
          refine pm_ki d_X5_readUnit_80 ?_
          refine pm_isub d_X5_readUnit_81 ?_
          refine ps_putI d_X5_readUnit_82 at_11 f_3_0_10 rfl rfl ?_
          refine ps_nmS (fun σ17 eσ17 => ?_)
          replace hK := ps_ltE eσ17 hK
          refine pm_ald d_X5_readUnit_85 rfl ?_
          refine pm_ki d_X5_readUnit_86 ?_
          refine ps_cVI d_X5_readUnit_88 mv_X5_takeSign at_11 ob_3_0 rfl (As := [.int 93]) rfl rfl (ps_room.of (by omega) (by decide)) (Nat.le_of_ble_eq_true rfl) (C_X5_takeSign 93 σ17 _ (ps_bdE hK)) ?_
          intro v18 σ19 hT
          clear hK
          have hK := hT
          clear hT
          obtain ⟨b20, hT⟩ := ps_gd hK
          have hQ := ps_so hT
          exact ps_zret rfl (ps_nb b20) d_X5_readUnit_91 ⟨_, rfl, hQ⟩
        · replace hK := ps_ifT c15 hK
          refine pm_ki d_X5_readUnit_73 ?_
          have hQ := ps_so hK
          exact ps_zret rfl rfl d_X5_readUnit_74 ⟨_, rfl, hQ⟩
  · replace hK := ps_ifF c3 hK
    refine pm_ald d_X5_readUnit_9 rfl ?_
    refine ps_cVI d_X5_readUnit_10 mv_X5_goDeeper at_11 ob_3_0 rfl (As := []) rfl rfl (ps_room.of (by omega) (by decide)) (Nat.le_of_ble_eq_true rfl) (C_X5_goDeeper σ2 _ (ps_bdE hK)) ?_
    intro v21 σ22 hT
    clear hK
    have hK := hT
    clear hT
    refine pm_if_eq d_X5_readUnit_13 (fun c23 => ?_) (fun c23 => ?_)
    · replace hK := ps_ifT c23 hK
      refine pm_ki d_X5_readUnit_23 ?_
      have hQ := ps_so hK
      exact ps_zret rfl rfl d_X5_readUnit_24 ⟨_, rfl, hQ⟩
    · replace hK := ps_ifF c23 hK
      refine pm_ald d_X5_readUnit_16 rfl ?_
      refine ps_cVI d_X5_readUnit_17 mv_X5_readUnit at_11 ob_3_0 rfl (As := []) rfl rfl (ps_room.of (by omega) (by decide)) (Nat.le_of_ble_eq_true rfl) (hrec_X5_readUnit σ22 _ (ps_bdE hK)) ?_
      intro v24 σ25 hT
      clear hK
      have hK := hT
      clear hT
      refine pm_if_ne d_X5_readUnit_20 (fun c26 => ?_) (fun c26 => ?_)
      · replace hK := ps_ifF c26 hK
        refine pm_ald d_X5_readUnit_25 rfl ?_
        refine pm_dup d_X5_readUnit_26 rfl ?_
        refine ps_getI d_X5_readUnit_27 at_11 f_3_0_10 rfl ?_
        refine ps_topI (fun v27 ev27 => ?_)
        replace hK := ps_ltE ev27 hK
        refine pm_ki d_X5_readUnit_30 ?_
        refine pm_isub d_X5_readUnit_31 ?_
        refine ps_putI d_X5_readUnit_32 at_11 f_3_0_10 rfl rfl ?_
        refine ps_nmS (fun σ28 eσ28 => ?_)
        replace hK := ps_ltE eσ28 hK
        refine pm_ald d_X5_readUnit_35 rfl ?_
        refine ps_getR (q := 2) d_X5_readUnit_36 at_11 f_3_0_3 rfl ?_
        refine ps_getR (q := (2 + 7)) d_X5_readUnit_39 ps_Ho2.at0 f_2_0_17 rfl ?_
        refine pm_ki d_X5_readUnit_42 ?_
        refine ps_cVV d_X5_readUnit_45 mv_X3_append (ps_Ho2.at 7 (by decide)) ob_2_7 rfl (As := [.int 1004]) rfl rfl (ps_room.of (by omega) (by decide)) (Nat.le_of_ble_eq_true rfl) (C_X3_append 2 ps_Ho2 1004 σ28 _ (ps_bdE hK)) ?_
        intro σ30 hT
        clear hK
        have hK := hT
        clear hT
        refine pm_ki d_X5_readUnit_48 ?_
        have hQ := ps_so hK
        exact ps_zret rfl rfl d_X5_readUnit_49 ⟨_, rfl, hQ⟩
      · replace hK := ps_ifT c26 hK
        refine pm_ki d_X5_readUnit_23 ?_
        have hQ := ps_so hK
        exact ps_zret rfl rfl d_X5_readUnit_24 ⟨_, rfl, hQ⟩
def bX5_readCompared (rec : Nat → ps_S → Option (Int32 × ps_S))  (σ : ps_S) : Option (Int32 × ps_S) :=
  ps_bd (rec 0 σ) (fun v1 σ2 =>
  if v1 = 0 then
  some (0, σ2)
  else
  ps_bd (qX5_isSign 61 σ2) (fun v4 σ5 =>
  if v4 = 0 then
  ps_bd (qX5_isSign 60 σ5) (fun v7 σ8 =>
  if v7 = 0 then
  ps_bd (qX5_isSign 62 σ8) (fun v10 σ11 =>
  if v10 = 0 then
  ps_bd (qX5_refuse 2 σ11) (fun v14 σ15 =>
  if ps_b01 v14 = true then some (v14, σ15) else none)
  else
  ps_bd (qX5_advance σ11) (fun _ σ19 =>
  ps_bd (rec 0 σ19) (fun v20 σ21 =>
  ps_bd (qX3_append 2 1011 σ21) (fun _ σ23 =>
  if ps_b01 v20 = true then some (v20, σ23) else none))))
  else
  ps_bd (qX5_advance σ8) (fun _ σ27 =>
  ps_bd (rec 0 σ27) (fun v28 σ29 =>
  ps_bd (qX3_append 2 1010 σ29) (fun _ σ31 =>
  if ps_b01 v28 = true then some (v28, σ31) else none))))
  else
  ps_bd (qX5_advance σ5) (fun _ σ35 =>
  ps_bd (rec 0 σ35) (fun v36 σ37 =>
  ps_bd (qX3_append 2 1009 σ37) (fun _ σ39 =>
  if ps_b01 v36 = true then some (v36, σ39) else none)))))
set_option maxRecDepth 100000 in
theorem B_X5_readCompared {g : pm_G} (D : Nat) (hD : 7 ≤ D) (rec : Nat → ps_S → Option (Int32 × ps_S)) (D0 : Nat) (hD0 : D0 < D) (hrec_X5_readSum : ∀  (σ : ps_S) (P : Int32 → ps_S → Prop), ps_ok (rec 0 σ) P → ps_C g mX5_readSum D0 [.ref (g.2.2.1 + 11)] σ (ps_qI P)) (hrec_X5_readTerm : ∀  (σ : ps_S) (P : Int32 → ps_S → Prop), ps_ok (rec 1 σ) P → ps_C g mX5_readTerm D0 [.ref (g.2.2.1 + 11)] σ (ps_qI P)) (hrec_X5_readAtom : ∀  (σ : ps_S) (P : Int32 → ps_S → Prop), ps_ok (rec 2 σ) P → ps_C g mX5_readAtom D0 [.ref (g.2.2.1 + 11)] σ (ps_qI P)) (hrec_X5_readChoice : ∀  (σ : ps_S) (P : Int32 → ps_S → Prop), ps_ok (rec 3 σ) P → ps_C g mX5_readChoice D0 [.ref (g.2.2.1 + 11)] σ (ps_qI P)) (hrec_X5_readTruth : ∀  (σ : ps_S) (P : Int32 → ps_S → Prop), ps_ok (rec 4 σ) P → ps_C g mX5_readTruth D0 [.ref (g.2.2.1 + 11)] σ (ps_qI P)) (hrec_X5_readBoth : ∀  (σ : ps_S) (P : Int32 → ps_S → Prop), ps_ok (rec 5 σ) P → ps_C g mX5_readBoth D0 [.ref (g.2.2.1 + 11)] σ (ps_qI P)) (hrec_X5_readUnit : ∀  (σ : ps_S) (P : Int32 → ps_S → Prop), ps_ok (rec 6 σ) P → ps_C g mX5_readUnit D0 [.ref (g.2.2.1 + 11)] σ (ps_qI P)) (hrec_X5_readCompared : ∀  (σ : ps_S) (P : Int32 → ps_S → Prop), ps_ok (rec 7 σ) P → ps_C g mX5_readCompared D0 [.ref (g.2.2.1 + 11)] σ (ps_qI P))  (σ : ps_S) (P : Int32 → ps_S → Prop) (hK : ps_ok (bX5_readCompared rec  σ) P) : ps_C g mX5_readCompared D [.ref (g.2.2.1 + 11)] σ (ps_qI P) := by
  unfold bX5_readCompared at hK
  refine ps_C.of (ls := [some (.ref (g.2.2.1 + 11)), none, none]) 2 (by decide) rfl (Nat.le_of_ble_eq_true rfl) rfl ?_
  refine pm_ald d_X5_readCompared_0 rfl ?_
  refine ps_cVI d_X5_readCompared_1 mv_X5_readSum at_11 ob_3_0 rfl (As := []) rfl rfl (ps_room.of (by omega) (by decide)) (Nat.le_of_ble_eq_true rfl) (hrec_X5_readSum σ _ (ps_bdE hK)) ?_
  intro v1 σ2 hT
  clear hK
  have hK := hT
  clear hT
  refine pm_if_ne d_X5_readCompared_4 (fun c3 => ?_) (fun c3 => ?_)
  · replace hK := ps_ifF c3 hK
    refine pm_ald d_X5_readCompared_9 rfl ?_
    refine pm_ki d_X5_readCompared_10 ?_
    refine ps_cVI d_X5_readCompared_12 mv_X5_isSign at_11 ob_3_0 rfl (As := [.int 61]) rfl rfl (ps_room.of (by omega) (by decide)) (Nat.le_of_ble_eq_true rfl) (C_X5_isSign 61 σ2 _ (ps_bdE hK)) ?_
    intro v4 σ5 hT
    clear hK
    have hK := hT
    clear hT
    refine pm_if_eq d_X5_readCompared_15 (fun c6 => ?_) (fun c6 => ?_)
    · replace hK := ps_ifT c6 hK
      refine pm_ald d_X5_readCompared_24 rfl ?_
      refine pm_ki d_X5_readCompared_25 ?_
      refine ps_cVI d_X5_readCompared_27 mv_X5_isSign at_11 ob_3_0 rfl (As := [.int 60]) rfl rfl (ps_room.of (by omega) (by decide)) (Nat.le_of_ble_eq_true rfl) (C_X5_isSign 60 σ5 _ (ps_bdE hK)) ?_
      intro v7 σ8 hT
      clear hK
      have hK := hT
      clear hT
      refine pm_if_eq d_X5_readCompared_30 (fun c9 => ?_) (fun c9 => ?_)
      · replace hK := ps_ifT c9 hK
        refine pm_ald d_X5_readCompared_39 rfl ?_
        refine pm_ki d_X5_readCompared_40 ?_
        refine ps_cVI d_X5_readCompared_42 mv_X5_isSign at_11 ob_3_0 rfl (As := [.int 62]) rfl rfl (ps_room.of (by omega) (by decide)) (Nat.le_of_ble_eq_true rfl) (C_X5_isSign 62 σ8 _ (ps_bdE hK)) ?_
        intro v10 σ11 hT
        clear hK
        have hK := hT
        clear hT
        refine pm_if_eq d_X5_readCompared_45 (fun c12 => ?_) (fun c12 => ?_)
        · replace hK := ps_ifT c12 hK
          refine pm_ki d_X5_readCompared_54 ?_
          refine pm_ist1 d_X5_readCompared_55 rfl (by decide) ?_
          refine pm_ild d_X5_readCompared_56 rfl ?_
          refine pm_ki d_X5_readCompared_57 ?_
          refine pm_icmp_ne d_X5_readCompared_58 (fun c13 => (c13 (by decide)).elim) (fun _ => ?_)
          refine pm_ald d_X5_readCompared_61 rfl ?_
          refine pm_ki d_X5_readCompared_62 ?_
          refine ps_cVI d_X5_readCompared_63 mv_X5_refuse at_11 ob_3_0 rfl (As := [.int 2]) rfl rfl (ps_room.of (by omega) (by decide)) (Nat.le_of_ble_eq_true rfl) (C_X5_refuse 2 σ11 _ (ps_bdE hK)) ?_
          intro v14 σ15 hT
          clear hK
          have hK := hT
          clear hT
          obtain ⟨b16, hT⟩ := ps_gd hK
          have hQ := ps_so hT
          exact ps_zret rfl (ps_nb b16) d_X5_readCompared_66 ⟨_, rfl, hQ⟩
        · replace hK := ps_ifF c12 hK
          refine pm_ki d_X5_readCompared_48 ?_
          refine pm_goto d_X5_readCompared_51 ?_
          refine pm_ist1 d_X5_readCompared_55 rfl (by decide) ?_
          refine pm_ild d_X5_readCompared_56 rfl ?_
          refine pm_ki d_X5_readCompared_57 ?_
          refine pm_icmp_ne d_X5_readCompared_58 (fun _ => ?_) (fun c17 => absurd c17 (by decide))
          refine pm_ald d_X5_readCompared_67 rfl ?_
          refine ps_cVV d_X5_readCompared_68 mv_X5_advance at_11 ob_3_0 rfl (As := []) rfl rfl (ps_room.of (by omega) (by decide)) (Nat.le_of_ble_eq_true rfl) (C_X5_advance σ11 _ (ps_bdE hK)) ?_
          intro σ19 hT
          clear hK
          have hK := hT
          clear hT
          refine pm_ald d_X5_readCompared_71 rfl ?_
          refine ps_cVI d_X5_readCompared_72 mv_X5_readSum at_11 ob_3_0 rfl (As := []) rfl rfl (ps_room.of (by omega) (by decide)) (Nat.le_of_ble_eq_true rfl) (hrec_X5_readSum σ19 _ (ps_bdE hK)) ?_
          intro v20 σ21 hT
          clear hK
          have hK := hT
          clear hT
          refine pm_ist2 d_X5_readCompared_75 rfl (by decide) ?_
          refine pm_ald d_X5_readCompared_76 rfl ?_
          refine ps_getR (q := 2) d_X5_readCompared_77 at_11 f_3_0_3 rfl ?_
          refine ps_getR (q := (2 + 7)) d_X5_readCompared_80 ps_Ho2.at0 f_2_0_17 rfl ?_
          refine pm_ild d_X5_readCompared_83 rfl ?_
          refine ps_cVV d_X5_readCompared_84 mv_X3_append (ps_Ho2.at 7 (by decide)) ob_2_7 rfl (As := [.int 1011]) rfl rfl (ps_room.of (by omega) (by decide)) (Nat.le_of_ble_eq_true rfl) (C_X3_append 2 ps_Ho2 1011 σ21 _ (ps_bdE hK)) ?_
          intro σ23 hT
          clear hK
          have hK := hT
          clear hT
          refine pm_ild d_X5_readCompared_87 rfl ?_
          obtain ⟨b24, hT⟩ := ps_gd hK
          have hQ := ps_so hT
          exact ps_zret rfl (ps_nb b24) d_X5_readCompared_88 ⟨_, rfl, hQ⟩
      · replace hK := ps_ifF c9 hK
        refine pm_ki d_X5_readCompared_33 ?_
        refine pm_goto d_X5_readCompared_36 ?_
        refine pm_ist1 d_X5_readCompared_55 rfl (by decide) ?_
        refine pm_ild d_X5_readCompared_56 rfl ?_
        refine pm_ki d_X5_readCompared_57 ?_
        refine pm_icmp_ne d_X5_readCompared_58 (fun _ => ?_) (fun c25 => absurd c25 (by decide))
        refine pm_ald d_X5_readCompared_67 rfl ?_
        refine ps_cVV d_X5_readCompared_68 mv_X5_advance at_11 ob_3_0 rfl (As := []) rfl rfl (ps_room.of (by omega) (by decide)) (Nat.le_of_ble_eq_true rfl) (C_X5_advance σ8 _ (ps_bdE hK)) ?_
        intro σ27 hT
        clear hK
        have hK := hT
        clear hT
        refine pm_ald d_X5_readCompared_71 rfl ?_
        refine ps_cVI d_X5_readCompared_72 mv_X5_readSum at_11 ob_3_0 rfl (As := []) rfl rfl (ps_room.of (by omega) (by decide)) (Nat.le_of_ble_eq_true rfl) (hrec_X5_readSum σ27 _ (ps_bdE hK)) ?_
        intro v28 σ29 hT
        clear hK
        have hK := hT
        clear hT
        refine pm_ist2 d_X5_readCompared_75 rfl (by decide) ?_
        refine pm_ald d_X5_readCompared_76 rfl ?_
        refine ps_getR (q := 2) d_X5_readCompared_77 at_11 f_3_0_3 rfl ?_
        refine ps_getR (q := (2 + 7)) d_X5_readCompared_80 ps_Ho2.at0 f_2_0_17 rfl ?_
        refine pm_ild d_X5_readCompared_83 rfl ?_
        refine ps_cVV d_X5_readCompared_84 mv_X3_append (ps_Ho2.at 7 (by decide)) ob_2_7 rfl (As := [.int 1010]) rfl rfl (ps_room.of (by omega) (by decide)) (Nat.le_of_ble_eq_true rfl) (C_X3_append 2 ps_Ho2 1010 σ29 _ (ps_bdE hK)) ?_
        intro σ31 hT
        clear hK
        have hK := hT
        clear hT
        refine pm_ild d_X5_readCompared_87 rfl ?_
        obtain ⟨b32, hT⟩ := ps_gd hK
        have hQ := ps_so hT
        exact ps_zret rfl (ps_nb b32) d_X5_readCompared_88 ⟨_, rfl, hQ⟩
    · replace hK := ps_ifF c6 hK
      refine pm_ki d_X5_readCompared_18 ?_
      refine pm_goto d_X5_readCompared_21 ?_
      refine pm_ist1 d_X5_readCompared_55 rfl (by decide) ?_
      refine pm_ild d_X5_readCompared_56 rfl ?_
      refine pm_ki d_X5_readCompared_57 ?_
      refine pm_icmp_ne d_X5_readCompared_58 (fun _ => ?_) (fun c33 => absurd c33 (by decide))
      refine pm_ald d_X5_readCompared_67 rfl ?_
      refine ps_cVV d_X5_readCompared_68 mv_X5_advance at_11 ob_3_0 rfl (As := []) rfl rfl (ps_room.of (by omega) (by decide)) (Nat.le_of_ble_eq_true rfl) (C_X5_advance σ5 _ (ps_bdE hK)) ?_
      intro σ35 hT
      clear hK
      have hK := hT
      clear hT
      refine pm_ald d_X5_readCompared_71 rfl ?_
      refine ps_cVI d_X5_readCompared_72 mv_X5_readSum at_11 ob_3_0 rfl (As := []) rfl rfl (ps_room.of (by omega) (by decide)) (Nat.le_of_ble_eq_true rfl) (hrec_X5_readSum σ35 _ (ps_bdE hK)) ?_
      intro v36 σ37 hT
      clear hK
      have hK := hT
      clear hT
      refine pm_ist2 d_X5_readCompared_75 rfl (by decide) ?_
      refine pm_ald d_X5_readCompared_76 rfl ?_
      refine ps_getR (q := 2) d_X5_readCompared_77 at_11 f_3_0_3 rfl ?_
      refine ps_getR (q := (2 + 7)) d_X5_readCompared_80 ps_Ho2.at0 f_2_0_17 rfl ?_
      refine pm_ild d_X5_readCompared_83 rfl ?_
      refine ps_cVV d_X5_readCompared_84 mv_X3_append (ps_Ho2.at 7 (by decide)) ob_2_7 rfl (As := [.int 1009]) rfl rfl (ps_room.of (by omega) (by decide)) (Nat.le_of_ble_eq_true rfl) (C_X3_append 2 ps_Ho2 1009 σ37 _ (ps_bdE hK)) ?_
      intro σ39 hT
      clear hK
      have hK := hT
      clear hT
      refine pm_ild d_X5_readCompared_87 rfl ?_
      obtain ⟨b40, hT⟩ := ps_gd hK
      have hQ := ps_so hT
      exact ps_zret rfl (ps_nb b40) d_X5_readCompared_88 ⟨_, rfl, hQ⟩
  · replace hK := ps_ifT c3 hK
    refine pm_ki d_X5_readCompared_7 ?_
    have hQ := ps_so hK
    exact ps_zret rfl rfl d_X5_readCompared_8 ⟨_, rfl, hQ⟩
def rc_X5 : Nat → Nat → ps_S → Option (Int32 × ps_S)
  | 0, _, _ => none
  | n + 1, w, σ => if w = 0 then bX5_readSum (rc_X5 n) σ else if w = 1 then bX5_readTerm (rc_X5 n) σ else if w = 2 then bX5_readAtom (rc_X5 n) σ else if w = 3 then bX5_readChoice (rc_X5 n) σ else if w = 4 then bX5_readTruth (rc_X5 n) σ else if w = 5 then bX5_readBoth (rc_X5 n) σ else if w = 6 then bX5_readUnit (rc_X5 n) σ else if w = 7 then bX5_readCompared (rc_X5 n) σ else none
theorem R_X5 {g : pm_G} : ∀ n : Nat, (∀  (σ : ps_S) (P : Int32 → ps_S → Prop), ps_ok (rc_X5 n 0 σ) P → ps_C g mX5_readSum (7 + n) [.ref (g.2.2.1 + 11)] σ (ps_qI P)) ∧ (∀  (σ : ps_S) (P : Int32 → ps_S → Prop), ps_ok (rc_X5 n 1 σ) P → ps_C g mX5_readTerm (7 + n) [.ref (g.2.2.1 + 11)] σ (ps_qI P)) ∧ (∀  (σ : ps_S) (P : Int32 → ps_S → Prop), ps_ok (rc_X5 n 2 σ) P → ps_C g mX5_readAtom (7 + n) [.ref (g.2.2.1 + 11)] σ (ps_qI P)) ∧ (∀  (σ : ps_S) (P : Int32 → ps_S → Prop), ps_ok (rc_X5 n 3 σ) P → ps_C g mX5_readChoice (7 + n) [.ref (g.2.2.1 + 11)] σ (ps_qI P)) ∧ (∀  (σ : ps_S) (P : Int32 → ps_S → Prop), ps_ok (rc_X5 n 4 σ) P → ps_C g mX5_readTruth (7 + n) [.ref (g.2.2.1 + 11)] σ (ps_qI P)) ∧ (∀  (σ : ps_S) (P : Int32 → ps_S → Prop), ps_ok (rc_X5 n 5 σ) P → ps_C g mX5_readBoth (7 + n) [.ref (g.2.2.1 + 11)] σ (ps_qI P)) ∧ (∀  (σ : ps_S) (P : Int32 → ps_S → Prop), ps_ok (rc_X5 n 6 σ) P → ps_C g mX5_readUnit (7 + n) [.ref (g.2.2.1 + 11)] σ (ps_qI P)) ∧ (∀  (σ : ps_S) (P : Int32 → ps_S → Prop), ps_ok (rc_X5 n 7 σ) P → ps_C g mX5_readCompared (7 + n) [.ref (g.2.2.1 + 11)] σ (ps_qI P)) := by
  intro n
  induction n with
  | zero => exact ⟨fun σ P hK => (ps_no hK).elim, fun σ P hK => (ps_no hK).elim, fun σ P hK => (ps_no hK).elim, fun σ P hK => (ps_no hK).elim, fun σ P hK => (ps_no hK).elim, fun σ P hK => (ps_no hK).elim, fun σ P hK => (ps_no hK).elim, fun σ P hK => (ps_no hK).elim⟩
  | succ n ih =>
    obtain ⟨ih0, ih1, ih2, ih3, ih4, ih5, ih6, ih7⟩ := ih
    refine ⟨?_, ?_, ?_, ?_, ?_, ?_, ?_, ?_⟩
    · intro σ P hK
      rw [rc_X5] at hK
      replace hK := ps_ifT rfl hK
      exact B_X5_readSum (7 + (n + 1)) (by omega) (rc_X5 n) (7 + n) (by omega) ih0 ih1 ih2 ih3 ih4 ih5 ih6 ih7 σ P hK
    · intro σ P hK
      rw [rc_X5] at hK
      replace hK := ps_ifF (by decide) hK
      replace hK := ps_ifT rfl hK
      exact B_X5_readTerm (7 + (n + 1)) (by omega) (rc_X5 n) (7 + n) (by omega) ih0 ih1 ih2 ih3 ih4 ih5 ih6 ih7 σ P hK
    · intro σ P hK
      rw [rc_X5] at hK
      replace hK := ps_ifF (by decide) hK
      replace hK := ps_ifF (by decide) hK
      replace hK := ps_ifT rfl hK
      exact B_X5_readAtom (7 + (n + 1)) (by omega) (rc_X5 n) (7 + n) (by omega) ih0 ih1 ih2 ih3 ih4 ih5 ih6 ih7 σ P hK
    · intro σ P hK
      rw [rc_X5] at hK
      replace hK := ps_ifF (by decide) hK
      replace hK := ps_ifF (by decide) hK
      replace hK := ps_ifF (by decide) hK
      replace hK := ps_ifT rfl hK
      exact B_X5_readChoice (7 + (n + 1)) (by omega) (rc_X5 n) (7 + n) (by omega) ih0 ih1 ih2 ih3 ih4 ih5 ih6 ih7 σ P hK
    · intro σ P hK
      rw [rc_X5] at hK
      replace hK := ps_ifF (by decide) hK
      replace hK := ps_ifF (by decide) hK
      replace hK := ps_ifF (by decide) hK
      replace hK := ps_ifF (by decide) hK
      replace hK := ps_ifT rfl hK
      exact B_X5_readTruth (7 + (n + 1)) (by omega) (rc_X5 n) (7 + n) (by omega) ih0 ih1 ih2 ih3 ih4 ih5 ih6 ih7 σ P hK
    · intro σ P hK
      rw [rc_X5] at hK
      replace hK := ps_ifF (by decide) hK
      replace hK := ps_ifF (by decide) hK
      replace hK := ps_ifF (by decide) hK
      replace hK := ps_ifF (by decide) hK
      replace hK := ps_ifF (by decide) hK
      replace hK := ps_ifT rfl hK
      exact B_X5_readBoth (7 + (n + 1)) (by omega) (rc_X5 n) (7 + n) (by omega) ih0 ih1 ih2 ih3 ih4 ih5 ih6 ih7 σ P hK
    · intro σ P hK
      rw [rc_X5] at hK
      replace hK := ps_ifF (by decide) hK
      replace hK := ps_ifF (by decide) hK
      replace hK := ps_ifF (by decide) hK
      replace hK := ps_ifF (by decide) hK
      replace hK := ps_ifF (by decide) hK
      replace hK := ps_ifF (by decide) hK
      replace hK := ps_ifT rfl hK
      exact B_X5_readUnit (7 + (n + 1)) (by omega) (rc_X5 n) (7 + n) (by omega) ih0 ih1 ih2 ih3 ih4 ih5 ih6 ih7 σ P hK
    · intro σ P hK
      rw [rc_X5] at hK
      replace hK := ps_ifF (by decide) hK
      replace hK := ps_ifF (by decide) hK
      replace hK := ps_ifF (by decide) hK
      replace hK := ps_ifF (by decide) hK
      replace hK := ps_ifF (by decide) hK
      replace hK := ps_ifF (by decide) hK
      replace hK := ps_ifF (by decide) hK
      replace hK := ps_ifT rfl hK
      exact B_X5_readCompared (7 + (n + 1)) (by omega) (rc_X5 n) (7 + n) (by omega) ih0 ih1 ih2 ih3 ih4 ih5 ih6 ih7 σ P hK

def qX5_readSum  (σ : ps_S) : Option (Int32 × ps_S) := rc_X5 80 0 σ
theorem C_X5_readSum {g : pm_G}  (σ : ps_S) (P : Int32 → ps_S → Prop) (hK : ps_ok (qX5_readSum  σ) P) : ps_C g mX5_readSum 87 [.ref (g.2.2.1 + 11)] σ (ps_qI P) := (R_X5 80).1 σ P hK
def qX5_readLaw (p1 : Int32) (σ : ps_S) : Option (Int32 × ps_S) :=
  ps_let (σ.1 (2 + 7) 1) fun v1 =>
  if ps_b01 p1 = true then
  ps_let (ps_rI σ 11 (upd (σ.1 11) 11 p1)) fun σ2 =>
  ps_bd (qX5_advance σ2) (fun _ σ4 =>
  ps_bd (qX5_takeSign 58 σ4) (fun v5 σ6 =>
  if v5 = 0 then
  some (0, σ6)
  else
  ps_bd (qX5_readSum σ6) (fun v8 σ9 =>
  if v8 = 0 then
  some (0, σ9)
  else
  ps_bd (qX3_enact 2 p1 v1 σ9) (fun _ σ12 =>
  some (1, σ12)))))
  else none
set_option maxRecDepth 100000 in
theorem C_X5_readLaw {g : pm_G} (p1 : Int32) (σ : ps_S) (P : Int32 → ps_S → Prop) (hK : ps_ok (qX5_readLaw p1 σ) P) : ps_C g mX5_readLaw 88 [.ref (g.2.2.1 + 11), .int p1] σ (ps_qI P) := by
  unfold qX5_readLaw at hK
  refine ps_C.of (ls := [some (.ref (g.2.2.1 + 11)), some (.int p1), none]) 1 (by decide) rfl (Nat.le_of_ble_eq_true rfl) rfl ?_
  refine pm_ald d_X5_readLaw_0 rfl ?_
  refine ps_getR (q := 2) d_X5_readLaw_1 at_11 f_3_0_3 rfl ?_
  refine ps_getR (q := (2 + 7)) d_X5_readLaw_4 ps_Ho2.at0 f_2_0_17 rfl ?_
  refine ps_getI d_X5_readLaw_7 (ps_Ho2.at 7 (by decide)) f_2_7_1 rfl ?_
  refine ps_topI (fun v1 ev1 => ?_)
  replace hK := ps_ltE ev1 hK
  refine pm_ist2 d_X5_readLaw_10 rfl (by decide) ?_
  refine pm_ald d_X5_readLaw_11 rfl ?_
  refine pm_ild d_X5_readLaw_12 rfl ?_
  obtain ⟨b13, hT⟩ := ps_gd hK
  replace hK := hT
  clear hT
  refine ps_putI d_X5_readLaw_13 at_11 f_3_0_11 (ps_nb b13) (ps_fb b13) ?_
  refine ps_nmS (fun σ2 eσ2 => ?_)
  replace hK := ps_ltE eσ2 hK
  refine pm_ald d_X5_readLaw_16 rfl ?_
  refine ps_cVV d_X5_readLaw_17 mv_X5_advance at_11 ob_3_0 rfl (As := []) rfl rfl (ps_room.of (by omega) (by decide)) (Nat.le_of_ble_eq_true rfl) (C_X5_advance σ2 _ (ps_bdE hK)) ?_
  intro σ4 hT
  clear hK
  have hK := hT
  clear hT
  refine pm_ald d_X5_readLaw_20 rfl ?_
  refine pm_ki d_X5_readLaw_21 ?_
  refine ps_cVI d_X5_readLaw_23 mv_X5_takeSign at_11 ob_3_0 rfl (As := [.int 58]) rfl rfl (ps_room.of (by omega) (by decide)) (Nat.le_of_ble_eq_true rfl) (C_X5_takeSign 58 σ4 _ (ps_bdE hK)) ?_
  intro v5 σ6 hT
  clear hK
  have hK := hT
  clear hT
  refine pm_if_eq d_X5_readLaw_26 (fun c7 => ?_) (fun c7 => ?_)
  · replace hK := ps_ifT c7 hK
    refine pm_ki d_X5_readLaw_36 ?_
    have hQ := ps_so hK
    exact ps_zret rfl rfl d_X5_readLaw_37 ⟨_, rfl, hQ⟩
  · replace hK := ps_ifF c7 hK
    refine pm_ald d_X5_readLaw_29 rfl ?_
    refine ps_cVI d_X5_readLaw_30 mv_X5_readSum at_11 ob_3_0 rfl (As := []) rfl rfl (ps_room.of (by omega) (by decide)) (Nat.le_of_ble_eq_true rfl) (C_X5_readSum σ6 _ (ps_bdE hK)) ?_
    intro v8 σ9 hT
    clear hK
    have hK := hT
    clear hT
    refine pm_if_ne d_X5_readLaw_33 (fun c10 => ?_) (fun c10 => ?_)
    · replace hK := ps_ifF c10 hK
      refine pm_ald d_X5_readLaw_38 rfl ?_
      refine ps_getR (q := 2) d_X5_readLaw_39 at_11 f_3_0_3 rfl ?_
      refine ps_getR (q := (2 + 7)) d_X5_readLaw_42 ps_Ho2.at0 f_2_0_17 rfl ?_
      refine pm_ild d_X5_readLaw_45 rfl ?_
      refine pm_ild d_X5_readLaw_46 rfl ?_
      refine ps_cVV d_X5_readLaw_47 mv_X3_enact (ps_Ho2.at 7 (by decide)) ob_2_7 rfl (As := [.int p1, .int v1]) rfl rfl (ps_room.of (by omega) (by decide)) (Nat.le_of_ble_eq_true rfl) (C_X3_enact 2 ps_Ho2 p1 v1 σ9 _ (ps_bdE hK)) ?_
      intro σ12 hT
      clear hK
      have hK := hT
      clear hT
      refine pm_ki d_X5_readLaw_50 ?_
      have hQ := ps_so hK
      exact ps_zret rfl rfl d_X5_readLaw_51 ⟨_, rfl, hQ⟩
    · replace hK := ps_ifT c10 hK
      refine pm_ki d_X5_readLaw_36 ?_
      have hQ := ps_so hK
      exact ps_zret rfl rfl d_X5_readLaw_37 ⟨_, rfl, hQ⟩
def qX2_addWriter (B : Nat) (p1 : Int32) (p2 : Int32) (σ : ps_S) : Option (Unit × ps_S) :=
  ps_let (σ.1 B 9) fun v1 =>
  if 6 ≤ v1 then
  some ((), σ)
  else
  ps_let (σ.1 B 8) fun v3 =>
  if v3 ≤ p1 then
  some ((), σ)
  else
  ps_let (σ.1 B 9) fun v5 =>
  if ps_in v5 6 = true then
  ps_let (ps_rI σ (B + 4) (upd (σ.1 (B + 4)) (v5).toNatClampNeg p1)) fun σ6 =>
  ps_let (σ6.1 B 9) fun v7 =>
  if ps_in p1 12 = true then
  ps_let (σ6.1 (B + 3) (p1).toNatClampNeg) fun v8 =>
  if ps_in v7 6 = true then
  ps_let (ps_rI σ6 (B + 5) (upd (σ6.1 (B + 5)) (v7).toNatClampNeg v8)) fun σ9 =>
  ps_let (σ9.1 B 9) fun v10 =>
  if ps_in v10 6 = true then
  ps_let (ps_rI σ9 (B + 6) (upd (σ9.1 (B + 6)) (v10).toNatClampNeg p2)) fun σ11 =>
  if ps_in p1 12 = true then
  ps_let (σ11.1 (B + 3) (p1).toNatClampNeg) fun v12 =>
  if ps_in v12 4 = true then
  ps_let (σ11.1 (B + 2) (v12).toNatClampNeg) fun v13 =>
  if ps_in v12 4 = true then
  ps_let (ps_rI σ11 (B + 2) (upd (σ11.1 (B + 2)) (v12).toNatClampNeg ((v13 + 1)))) fun σ14 =>
  ps_let (σ14.1 B 9) fun v15 =>
  ps_let (ps_rI σ14 B (upd (σ14.1 B) 9 ((v15 + 1)))) fun σ16 =>
  some ((), σ16)
  else none
  else none
  else none
  else none
  else none
  else none
  else none
set_option maxRecDepth 100000 in
theorem C_X2_addWriter {g : pm_G} (B : Nat) (hB : ps_Ho B) (p1 : Int32) (p2 : Int32) (σ : ps_S) (P : Unit → ps_S → Prop) (hK : ps_ok (qX2_addWriter B p1 p2 σ) P) : ps_C g mX2_addWriter 1 [.ref (g.2.2.1 + B), .int p1, .int p2] σ (ps_qV P) := by
  unfold qX2_addWriter at hK
  refine ps_C.of (ls := [some (.ref (g.2.2.1 + B)), some (.int p1), some (.int p2)]) 0 (by decide) rfl (Nat.le_of_ble_eq_true rfl) rfl ?_
  refine pm_ald d_X2_addWriter_0 rfl ?_
  refine ps_getI d_X2_addWriter_1 hB.at0 f_2_0_9 rfl ?_
  refine ps_topI (fun v1 ev1 => ?_)
  replace hK := ps_ltE ev1 hK
  refine pm_ki d_X2_addWriter_4 ?_
  refine pm_icmp_ge d_X2_addWriter_6 (fun c2 => ?_) (fun c2 => ?_)
  · replace hK := ps_ifT c2 hK
    have hQ := ps_so hK
    exact ps_vret rfl d_X2_addWriter_77 ⟨rfl, hQ⟩
  · replace hK := ps_ifF c2 hK
    refine pm_ild d_X2_addWriter_9 rfl ?_
    refine pm_ald d_X2_addWriter_10 rfl ?_
    refine ps_getI d_X2_addWriter_11 hB.at0 f_2_0_8 rfl ?_
    refine ps_topI (fun v3 ev3 => ?_)
    replace hK := ps_ltE ev3 hK
    refine pm_icmp_ge d_X2_addWriter_14 (fun c4 => ?_) (fun c4 => ?_)
    · replace hK := ps_ifT c4 hK
      have hQ := ps_so hK
      exact ps_vret rfl d_X2_addWriter_77 ⟨rfl, hQ⟩
    · replace hK := ps_ifF c4 hK
      refine pm_ald d_X2_addWriter_17 rfl ?_
      refine ps_getR (q := (B + 4)) d_X2_addWriter_18 hB.at0 f_2_0_14 rfl ?_
      refine pm_ald d_X2_addWriter_21 rfl ?_
      refine ps_getI d_X2_addWriter_22 hB.at0 f_2_0_9 rfl ?_
      refine ps_topI (fun v5 ev5 => ?_)
      replace hK := ps_ltE ev5 hK
      refine pm_ild d_X2_addWriter_25 rfl ?_
      obtain ⟨b23, hT⟩ := ps_gd hK
      replace hK := hT
      clear hT
      refine ps_iast d_X2_addWriter_26 (hB.at 4 (by decide)) a_2_4 (ps_in_of b23) ?_
      refine ps_nmS (fun σ6 eσ6 => ?_)
      replace hK := ps_ltE eσ6 hK
      refine pm_ald d_X2_addWriter_27 rfl ?_
      refine ps_getR (q := (B + 5)) d_X2_addWriter_28 hB.at0 f_2_0_15 rfl ?_
      refine pm_ald d_X2_addWriter_31 rfl ?_
      refine ps_getI d_X2_addWriter_32 hB.at0 f_2_0_9 rfl ?_
      refine ps_topI (fun v7 ev7 => ?_)
      replace hK := ps_ltE ev7 hK
      refine pm_ald d_X2_addWriter_35 rfl ?_
      refine ps_getR (q := (B + 3)) d_X2_addWriter_36 hB.at0 f_2_0_13 rfl ?_
      refine pm_ild d_X2_addWriter_39 rfl ?_
      obtain ⟨b22, hT⟩ := ps_gd hK
      replace hK := hT
      clear hT
      refine ps_iald d_X2_addWriter_40 (hB.at 3 (by decide)) a_2_3 (ps_in_of b22) rfl ?_
      refine ps_topI (fun v8 ev8 => ?_)
      replace hK := ps_ltE ev8 hK
      obtain ⟨b21, hT⟩ := ps_gd hK
      replace hK := hT
      clear hT
      refine ps_iast d_X2_addWriter_41 (hB.at 5 (by decide)) a_2_5 (ps_in_of b21) ?_
      refine ps_nmS (fun σ9 eσ9 => ?_)
      replace hK := ps_ltE eσ9 hK
      refine pm_ald d_X2_addWriter_42 rfl ?_
      refine ps_getR (q := (B + 6)) d_X2_addWriter_43 hB.at0 f_2_0_16 rfl ?_
      refine pm_ald d_X2_addWriter_46 rfl ?_
      refine ps_getI d_X2_addWriter_47 hB.at0 f_2_0_9 rfl ?_
      refine ps_topI (fun v10 ev10 => ?_)
      replace hK := ps_ltE ev10 hK
      refine pm_ild d_X2_addWriter_50 rfl ?_
      obtain ⟨b20, hT⟩ := ps_gd hK
      replace hK := hT
      clear hT
      refine ps_iast d_X2_addWriter_51 (hB.at 6 (by decide)) a_2_6 (ps_in_of b20) ?_
      refine ps_nmS (fun σ11 eσ11 => ?_)
      replace hK := ps_ltE eσ11 hK
      refine pm_ald d_X2_addWriter_52 rfl ?_
      refine ps_getR (q := (B + 2)) d_X2_addWriter_53 hB.at0 f_2_0_12 rfl ?_
      refine pm_ald d_X2_addWriter_56 rfl ?_
      refine ps_getR (q := (B + 3)) d_X2_addWriter_57 hB.at0 f_2_0_13 rfl ?_
      refine pm_ild d_X2_addWriter_60 rfl ?_
      obtain ⟨b19, hT⟩ := ps_gd hK
      replace hK := hT
      clear hT
      refine ps_iald d_X2_addWriter_61 (hB.at 3 (by decide)) a_2_3 (ps_in_of b19) rfl ?_
      refine ps_topI (fun v12 ev12 => ?_)
      replace hK := ps_ltE ev12 hK
      refine pm_dup2 d_X2_addWriter_62 rfl rfl ?_
      obtain ⟨b18, hT⟩ := ps_gd hK
      replace hK := hT
      clear hT
      refine ps_iald d_X2_addWriter_63 (hB.at 2 (by decide)) a_2_2 (ps_in_of b18) rfl ?_
      refine ps_topI (fun v13 ev13 => ?_)
      replace hK := ps_ltE ev13 hK
      refine pm_ki d_X2_addWriter_64 ?_
      refine pm_iadd d_X2_addWriter_65 ?_
      obtain ⟨b17, hT⟩ := ps_gd hK
      replace hK := hT
      clear hT
      refine ps_iast d_X2_addWriter_66 (hB.at 2 (by decide)) a_2_2 (ps_in_of b17) ?_
      refine ps_nmS (fun σ14 eσ14 => ?_)
      replace hK := ps_ltE eσ14 hK
      refine pm_ald d_X2_addWriter_67 rfl ?_
      refine pm_dup d_X2_addWriter_68 rfl ?_
      refine ps_getI d_X2_addWriter_69 hB.at0 f_2_0_9 rfl ?_
      refine ps_topI (fun v15 ev15 => ?_)
      replace hK := ps_ltE ev15 hK
      refine pm_ki d_X2_addWriter_72 ?_
      refine pm_iadd d_X2_addWriter_73 ?_
      refine ps_putI d_X2_addWriter_74 hB.at0 f_2_0_9 rfl rfl ?_
      refine ps_nmS (fun σ16 eσ16 => ?_)
      replace hK := ps_ltE eσ16 hK
      have hQ := ps_so hK
      exact ps_vret rfl d_X2_addWriter_77 ⟨rfl, hQ⟩
def qX5_readWriter  (σ : ps_S) : Option (Int32 × ps_S) :=
  ps_let (σ.1 2 9) fun v1 =>
  if v1 < 6 then
  ps_bd (qX5_advance σ) (fun _ σ4 =>
  ps_bd (qX5_takeWord 14 σ4) (fun v5 σ6 =>
  if v5 = 0 then
  some (0, σ6)
  else
  ps_let (σ6.1 2 8) fun v8 =>
  ps_bd (qX5_takeNumber 0 ((v8 - 1)) σ6) (fun v9 σ10 =>
  if v9 = 0 then
  some (0, σ10)
  else
  ps_let (σ10.1 11 9) fun v12 =>
  ps_bd (qX5_takeWord 15 σ10) (fun v13 σ14 =>
  if v13 = 0 then
  some (0, σ14)
  else
  ps_bd (qX5_takeNumber 0 99 σ14) (fun v16 σ17 =>
  if v16 = 0 then
  some (0, σ17)
  else
  ps_let (σ17.1 11 9) fun v19 =>
  ps_bd (qX2_addWriter 2 v12 v19 σ17) (fun _ σ21 =>
  some (1, σ21)))))))
  else
  ps_bd (qX5_refuse 4 σ) (fun v22 σ23 =>
  if ps_b01 v22 = true then some (v22, σ23) else none)
set_option maxRecDepth 100000 in
theorem C_X5_readWriter {g : pm_G}  (σ : ps_S) (P : Int32 → ps_S → Prop) (hK : ps_ok (qX5_readWriter  σ) P) : ps_C g mX5_readWriter 7 [.ref (g.2.2.1 + 11)] σ (ps_qI P) := by
  unfold qX5_readWriter at hK
  refine ps_C.of (ls := [some (.ref (g.2.2.1 + 11)), none]) 1 (by decide) rfl (Nat.le_of_ble_eq_true rfl) rfl ?_
  refine pm_ald d_X5_readWriter_0 rfl ?_
  refine ps_getR (q := 2) d_X5_readWriter_1 at_11 f_3_0_3 rfl ?_
  refine ps_getI d_X5_readWriter_4 ps_Ho2.at0 f_2_0_9 rfl ?_
  refine ps_topI (fun v1 ev1 => ?_)
  replace hK := ps_ltE ev1 hK
  refine pm_ki d_X5_readWriter_7 ?_
  refine pm_icmp_lt d_X5_readWriter_9 (fun c2 => ?_) (fun c2 => ?_)
  · replace hK := ps_ifT c2 hK
    refine pm_ald d_X5_readWriter_18 rfl ?_
    refine ps_cVV d_X5_readWriter_19 mv_X5_advance at_11 ob_3_0 rfl (As := []) rfl rfl (ps_room.of (by omega) (by decide)) (Nat.le_of_ble_eq_true rfl) (C_X5_advance σ _ (ps_bdE hK)) ?_
    intro σ4 hT
    clear hK
    have hK := hT
    clear hT
    refine pm_ald d_X5_readWriter_22 rfl ?_
    refine pm_ks d_X5_readWriter_23 ?_
    refine ps_cVI d_X5_readWriter_25 mv_X5_takeWord at_11 ob_3_0 rfl (As := [.ref (g.2.2.2.1 14)]) rfl rfl (ps_room.of (by omega) (by decide)) (Nat.le_of_ble_eq_true rfl) (C_X5_takeWord 14 (by decide) σ4 _ (ps_bdE hK)) ?_
    intro v5 σ6 hT
    clear hK
    have hK := hT
    clear hT
    refine pm_if_eq d_X5_readWriter_28 (fun c7 => ?_) (fun c7 => ?_)
    · replace hK := ps_ifT c7 hK
      refine pm_ki d_X5_readWriter_48 ?_
      have hQ := ps_so hK
      exact ps_zret rfl rfl d_X5_readWriter_49 ⟨_, rfl, hQ⟩
    · replace hK := ps_ifF c7 hK
      refine pm_ald d_X5_readWriter_31 rfl ?_
      refine pm_ki d_X5_readWriter_32 ?_
      refine pm_ald d_X5_readWriter_33 rfl ?_
      refine ps_getR (q := 2) d_X5_readWriter_34 at_11 f_3_0_3 rfl ?_
      refine ps_getI d_X5_readWriter_37 ps_Ho2.at0 f_2_0_8 rfl ?_
      refine ps_topI (fun v8 ev8 => ?_)
      replace hK := ps_ltE ev8 hK
      refine pm_ki d_X5_readWriter_40 ?_
      refine pm_isub d_X5_readWriter_41 ?_
      refine ps_cVI d_X5_readWriter_42 mv_X5_takeNumber at_11 ob_3_0 rfl (As := [.int 0, .int (v8 - 1)]) rfl rfl (ps_room.of (by omega) (by decide)) (Nat.le_of_ble_eq_true rfl) (C_X5_takeNumber 0 ((v8 - 1)) σ6 _ (ps_bdE hK)) ?_
      intro v9 σ10 hT
      clear hK
      have hK := hT
      clear hT
      refine pm_if_ne d_X5_readWriter_45 (fun c11 => ?_) (fun c11 => ?_)
      · replace hK := ps_ifF c11 hK
        refine pm_ald d_X5_readWriter_50 rfl ?_
        refine ps_getI d_X5_readWriter_51 at_11 f_3_0_9 rfl ?_
        refine ps_topI (fun v12 ev12 => ?_)
        replace hK := ps_ltE ev12 hK
        refine pm_ist1 d_X5_readWriter_54 rfl (by decide) ?_
        refine pm_ald d_X5_readWriter_55 rfl ?_
        refine pm_ks d_X5_readWriter_56 ?_
        refine ps_cVI d_X5_readWriter_58 mv_X5_takeWord at_11 ob_3_0 rfl (As := [.ref (g.2.2.2.1 15)]) rfl rfl (ps_room.of (by omega) (by decide)) (Nat.le_of_ble_eq_true rfl) (C_X5_takeWord 15 (by decide) σ10 _ (ps_bdE hK)) ?_
        intro v13 σ14 hT
        clear hK
        have hK := hT
        clear hT
        refine pm_if_eq d_X5_readWriter_61 (fun c15 => ?_) (fun c15 => ?_)
        · replace hK := ps_ifT c15 hK
          refine pm_ki d_X5_readWriter_74 ?_
          have hQ := ps_so hK
          exact ps_zret rfl rfl d_X5_readWriter_75 ⟨_, rfl, hQ⟩
        · replace hK := ps_ifF c15 hK
          refine pm_ald d_X5_readWriter_64 rfl ?_
          refine pm_ki d_X5_readWriter_65 ?_
          refine pm_ki d_X5_readWriter_66 ?_
          refine ps_cVI d_X5_readWriter_68 mv_X5_takeNumber at_11 ob_3_0 rfl (As := [.int 0, .int 99]) rfl rfl (ps_room.of (by omega) (by decide)) (Nat.le_of_ble_eq_true rfl) (C_X5_takeNumber 0 99 σ14 _ (ps_bdE hK)) ?_
          intro v16 σ17 hT
          clear hK
          have hK := hT
          clear hT
          refine pm_if_ne d_X5_readWriter_71 (fun c18 => ?_) (fun c18 => ?_)
          · replace hK := ps_ifF c18 hK
            refine pm_ald d_X5_readWriter_76 rfl ?_
            refine ps_getR (q := 2) d_X5_readWriter_77 at_11 f_3_0_3 rfl ?_
            refine pm_ild d_X5_readWriter_80 rfl ?_
            refine pm_ald d_X5_readWriter_81 rfl ?_
            refine ps_getI d_X5_readWriter_82 at_11 f_3_0_9 rfl ?_
            refine ps_topI (fun v19 ev19 => ?_)
            replace hK := ps_ltE ev19 hK
            refine ps_cVV d_X5_readWriter_85 mv_X2_addWriter ps_Ho2.at0 ob_2_0 rfl (As := [.int v12, .int v19]) rfl rfl (ps_room.of (by omega) (by decide)) (Nat.le_of_ble_eq_true rfl) (C_X2_addWriter 2 ps_Ho2 v12 v19 σ17 _ (ps_bdE hK)) ?_
            intro σ21 hT
            clear hK
            have hK := hT
            clear hT
            refine pm_ki d_X5_readWriter_88 ?_
            have hQ := ps_so hK
            exact ps_zret rfl rfl d_X5_readWriter_89 ⟨_, rfl, hQ⟩
          · replace hK := ps_ifT c18 hK
            refine pm_ki d_X5_readWriter_74 ?_
            have hQ := ps_so hK
            exact ps_zret rfl rfl d_X5_readWriter_75 ⟨_, rfl, hQ⟩
      · replace hK := ps_ifT c11 hK
        refine pm_ki d_X5_readWriter_48 ?_
        have hQ := ps_so hK
        exact ps_zret rfl rfl d_X5_readWriter_49 ⟨_, rfl, hQ⟩
  · replace hK := ps_ifF c2 hK
    refine pm_ald d_X5_readWriter_12 rfl ?_
    refine pm_ki d_X5_readWriter_13 ?_
    refine ps_cVI d_X5_readWriter_14 mv_X5_refuse at_11 ob_3_0 rfl (As := [.int 4]) rfl rfl (ps_room.of (by omega) (by decide)) (Nat.le_of_ble_eq_true rfl) (C_X5_refuse 4 σ _ (ps_bdE hK)) ?_
    intro v22 σ23 hT
    clear hK
    have hK := hT
    clear hT
    obtain ⟨b24, hT⟩ := ps_gd hK
    have hQ := ps_so hT
    exact ps_zret rfl (ps_nb b24) d_X5_readWriter_17 ⟨_, rfl, hQ⟩
def qX5_readLine  (σ : ps_S) : Option (Int32 × ps_S) :=
  ps_bd (qX5_isWord 9 σ) (fun v1 σ2 =>
  if v1 = 0 then
  ps_bd (qX5_isWord 11 σ2) (fun v4 σ5 =>
  if v4 = 0 then
  ps_bd (qX5_isWord 13 σ5) (fun v7 σ8 =>
  if v7 = 0 then
  ps_bd (qX5_isWord 15 σ8) (fun v10 σ11 =>
  if v10 = 0 then
  ps_bd (qX5_isWord 10 σ11) (fun v13 σ14 =>
  if v13 = 0 then
  ps_bd (qX5_refuse 2 σ14) (fun v16 σ17 =>
  ps_let (σ17.1 2 10) fun v18 =>
  ps_let (ps_rI σ17 2 (upd (σ17.1 2) 10 ((v18 + 1)))) fun σ19 =>
  if v16 = 0 then
  some (0, σ19)
  else
  ps_bd (qX5_takeSign 59 σ19) (fun v21 σ22 =>
  if v21 = 0 then
  some (0, σ22)
  else
  some (1, σ22)))
  else
  ps_bd (qX5_readLaw 0 σ14) (fun v24 σ25 =>
  ps_let (σ25.1 2 10) fun v26 =>
  ps_let (ps_rI σ25 2 (upd (σ25.1 2) 10 ((v26 + 1)))) fun σ27 =>
  if v24 = 0 then
  some (0, σ27)
  else
  ps_bd (qX5_takeSign 59 σ27) (fun v29 σ30 =>
  if v29 = 0 then
  some (0, σ30)
  else
  some (1, σ30))))
  else
  ps_bd (qX5_readLaw 1 σ11) (fun v32 σ33 =>
  ps_let (σ33.1 2 10) fun v34 =>
  ps_let (ps_rI σ33 2 (upd (σ33.1 2) 10 ((v34 + 1)))) fun σ35 =>
  if v32 = 0 then
  some (0, σ35)
  else
  ps_bd (qX5_takeSign 59 σ35) (fun v37 σ38 =>
  if v37 = 0 then
  some (0, σ38)
  else
  some (1, σ38))))
  else
  ps_bd (qX5_readWriter σ8) (fun v40 σ41 =>
  ps_let (σ41.1 2 10) fun v42 =>
  ps_let (ps_rI σ41 2 (upd (σ41.1 2) 10 ((v42 + 1)))) fun σ43 =>
  if v40 = 0 then
  some (0, σ43)
  else
  ps_bd (qX5_takeSign 59 σ43) (fun v45 σ46 =>
  if v45 = 0 then
  some (0, σ46)
  else
  some (1, σ46))))
  else
  ps_bd (qX5_readFile σ5) (fun v48 σ49 =>
  ps_let (σ49.1 2 10) fun v50 =>
  ps_let (ps_rI σ49 2 (upd (σ49.1 2) 10 ((v50 + 1)))) fun σ51 =>
  if v48 = 0 then
  some (0, σ51)
  else
  ps_bd (qX5_takeSign 59 σ51) (fun v53 σ54 =>
  if v53 = 0 then
  some (0, σ54)
  else
  some (1, σ54))))
  else
  ps_bd (qX5_readDevice σ2) (fun v56 σ57 =>
  ps_let (σ57.1 2 10) fun v58 =>
  ps_let (ps_rI σ57 2 (upd (σ57.1 2) 10 ((v58 + 1)))) fun σ59 =>
  if v56 = 0 then
  some (0, σ59)
  else
  ps_bd (qX5_takeSign 59 σ59) (fun v61 σ62 =>
  if v61 = 0 then
  some (0, σ62)
  else
  some (1, σ62))))
set_option maxRecDepth 100000 in
theorem C_X5_readLine {g : pm_G}  (σ : ps_S) (P : Int32 → ps_S → Prop) (hK : ps_ok (qX5_readLine  σ) P) : ps_C g mX5_readLine 89 [.ref (g.2.2.1 + 11)] σ (ps_qI P) := by
  unfold qX5_readLine at hK
  refine ps_C.of (ls := [some (.ref (g.2.2.1 + 11)), none]) 1 (by decide) rfl (Nat.le_of_ble_eq_true rfl) rfl ?_
  refine pm_ald d_X5_readLine_0 rfl ?_
  refine pm_ks d_X5_readLine_1 ?_
  refine ps_cVI d_X5_readLine_3 mv_X5_isWord at_11 ob_3_0 rfl (As := [.ref (g.2.2.2.1 9)]) rfl rfl (ps_room.of (by omega) (by decide)) (Nat.le_of_ble_eq_true rfl) (C_X5_isWord 9 (by decide) σ _ (ps_bdE hK)) ?_
  intro v1 σ2 hT
  clear hK
  have hK := hT
  clear hT
  refine pm_if_eq d_X5_readLine_6 (fun c3 => ?_) (fun c3 => ?_)
  · replace hK := ps_ifT c3 hK
    refine pm_ald d_X5_readLine_17 rfl ?_
    refine pm_ks d_X5_readLine_18 ?_
    refine ps_cVI d_X5_readLine_20 mv_X5_isWord at_11 ob_3_0 rfl (As := [.ref (g.2.2.2.1 11)]) rfl rfl (ps_room.of (by omega) (by decide)) (Nat.le_of_ble_eq_true rfl) (C_X5_isWord 11 (by decide) σ2 _ (ps_bdE hK)) ?_
    intro v4 σ5 hT
    clear hK
    have hK := hT
    clear hT
    refine pm_if_eq d_X5_readLine_23 (fun c6 => ?_) (fun c6 => ?_)
    · replace hK := ps_ifT c6 hK
      refine pm_ald d_X5_readLine_34 rfl ?_
      refine pm_ks d_X5_readLine_35 ?_
      refine ps_cVI d_X5_readLine_37 mv_X5_isWord at_11 ob_3_0 rfl (As := [.ref (g.2.2.2.1 13)]) rfl rfl (ps_room.of (by omega) (by decide)) (Nat.le_of_ble_eq_true rfl) (C_X5_isWord 13 (by decide) σ5 _ (ps_bdE hK)) ?_
      intro v7 σ8 hT
      clear hK
      have hK := hT
      clear hT
      refine pm_if_eq d_X5_readLine_40 (fun c9 => ?_) (fun c9 => ?_)
      · replace hK := ps_ifT c9 hK
        refine pm_ald d_X5_readLine_51 rfl ?_
        refine pm_ks d_X5_readLine_52 ?_
        refine ps_cVI d_X5_readLine_54 mv_X5_isWord at_11 ob_3_0 rfl (As := [.ref (g.2.2.2.1 15)]) rfl rfl (ps_room.of (by omega) (by decide)) (Nat.le_of_ble_eq_true rfl) (C_X5_isWord 15 (by decide) σ8 _ (ps_bdE hK)) ?_
        intro v10 σ11 hT
        clear hK
        have hK := hT
        clear hT
        refine pm_if_eq d_X5_readLine_57 (fun c12 => ?_) (fun c12 => ?_)
        · replace hK := ps_ifT c12 hK
          refine pm_ald d_X5_readLine_69 rfl ?_
          refine pm_ks d_X5_readLine_70 ?_
          refine ps_cVI d_X5_readLine_72 mv_X5_isWord at_11 ob_3_0 rfl (As := [.ref (g.2.2.2.1 10)]) rfl rfl (ps_room.of (by omega) (by decide)) (Nat.le_of_ble_eq_true rfl) (C_X5_isWord 10 (by decide) σ11 _ (ps_bdE hK)) ?_
          intro v13 σ14 hT
          clear hK
          have hK := hT
          clear hT
          refine pm_if_eq d_X5_readLine_75 (fun c15 => ?_) (fun c15 => ?_)
          · replace hK := ps_ifT c15 hK
            refine pm_ald d_X5_readLine_87 rfl ?_
            refine pm_ki d_X5_readLine_88 ?_
            refine ps_cVI d_X5_readLine_89 mv_X5_refuse at_11 ob_3_0 rfl (As := [.int 2]) rfl rfl (ps_room.of (by omega) (by decide)) (Nat.le_of_ble_eq_true rfl) (C_X5_refuse 2 σ14 _ (ps_bdE hK)) ?_
            intro v16 σ17 hT
            clear hK
            have hK := hT
            clear hT
            refine pm_ist1 d_X5_readLine_92 rfl (by decide) ?_
            refine pm_ald d_X5_readLine_93 rfl ?_
            refine ps_getR (q := 2) d_X5_readLine_94 at_11 f_3_0_3 rfl ?_
            refine pm_dup d_X5_readLine_97 rfl ?_
            refine ps_getI d_X5_readLine_98 ps_Ho2.at0 f_2_0_10 rfl ?_
            refine ps_topI (fun v18 ev18 => ?_)
            replace hK := ps_ltE ev18 hK
            refine pm_ki d_X5_readLine_101 ?_
            refine pm_iadd d_X5_readLine_102 ?_
            refine ps_putI d_X5_readLine_103 ps_Ho2.at0 f_2_0_10 rfl rfl ?_
            refine ps_nmS (fun σ19 eσ19 => ?_)
            replace hK := ps_ltE eσ19 hK
            refine pm_ild d_X5_readLine_106 rfl ?_
            refine pm_if_eq d_X5_readLine_107 (fun c20 => ?_) (fun c20 => ?_)
            · replace hK := ps_ifT c20 hK
              refine pm_ki d_X5_readLine_123 ?_
              have hQ := ps_so hK
              exact ps_zret rfl rfl d_X5_readLine_124 ⟨_, rfl, hQ⟩
            · replace hK := ps_ifF c20 hK
              refine pm_ald d_X5_readLine_110 rfl ?_
              refine pm_ki d_X5_readLine_111 ?_
              refine ps_cVI d_X5_readLine_113 mv_X5_takeSign at_11 ob_3_0 rfl (As := [.int 59]) rfl rfl (ps_room.of (by omega) (by decide)) (Nat.le_of_ble_eq_true rfl) (C_X5_takeSign 59 σ19 _ (ps_bdE hK)) ?_
              intro v21 σ22 hT
              clear hK
              have hK := hT
              clear hT
              refine pm_if_eq d_X5_readLine_116 (fun c23 => ?_) (fun c23 => ?_)
              · replace hK := ps_ifT c23 hK
                refine pm_ki d_X5_readLine_123 ?_
                have hQ := ps_so hK
                exact ps_zret rfl rfl d_X5_readLine_124 ⟨_, rfl, hQ⟩
              · replace hK := ps_ifF c23 hK
                refine pm_ki d_X5_readLine_119 ?_
                refine pm_goto d_X5_readLine_120 ?_
                have hQ := ps_so hK
                exact ps_zret rfl rfl d_X5_readLine_124 ⟨_, rfl, hQ⟩
          · replace hK := ps_ifF c15 hK
            refine pm_ald d_X5_readLine_78 rfl ?_
            refine pm_ki d_X5_readLine_79 ?_
            refine ps_cVI d_X5_readLine_80 mv_X5_readLaw at_11 ob_3_0 rfl (As := [.int 0]) rfl rfl (ps_room.of (by omega) (by decide)) (Nat.le_of_ble_eq_true rfl) (C_X5_readLaw 0 σ14 _ (ps_bdE hK)) ?_
            intro v24 σ25 hT
            clear hK
            have hK := hT
            clear hT
            refine pm_ist1 d_X5_readLine_83 rfl (by decide) ?_
            refine pm_goto d_X5_readLine_84 ?_
            refine pm_ald d_X5_readLine_93 rfl ?_
            refine ps_getR (q := 2) d_X5_readLine_94 at_11 f_3_0_3 rfl ?_
            refine pm_dup d_X5_readLine_97 rfl ?_
            refine ps_getI d_X5_readLine_98 ps_Ho2.at0 f_2_0_10 rfl ?_
            refine ps_topI (fun v26 ev26 => ?_)
            replace hK := ps_ltE ev26 hK
            refine pm_ki d_X5_readLine_101 ?_
            refine pm_iadd d_X5_readLine_102 ?_
            refine ps_putI d_X5_readLine_103 ps_Ho2.at0 f_2_0_10 rfl rfl ?_
            refine ps_nmS (fun σ27 eσ27 => ?_)
            replace hK := ps_ltE eσ27 hK
            refine pm_ild d_X5_readLine_106 rfl ?_
            refine pm_if_eq d_X5_readLine_107 (fun c28 => ?_) (fun c28 => ?_)
            · replace hK := ps_ifT c28 hK
              refine pm_ki d_X5_readLine_123 ?_
              have hQ := ps_so hK
              exact ps_zret rfl rfl d_X5_readLine_124 ⟨_, rfl, hQ⟩
            · replace hK := ps_ifF c28 hK
              refine pm_ald d_X5_readLine_110 rfl ?_
              refine pm_ki d_X5_readLine_111 ?_
              refine ps_cVI d_X5_readLine_113 mv_X5_takeSign at_11 ob_3_0 rfl (As := [.int 59]) rfl rfl (ps_room.of (by omega) (by decide)) (Nat.le_of_ble_eq_true rfl) (C_X5_takeSign 59 σ27 _ (ps_bdE hK)) ?_
              intro v29 σ30 hT
              clear hK
              have hK := hT
              clear hT
              refine pm_if_eq d_X5_readLine_116 (fun c31 => ?_) (fun c31 => ?_)
              · replace hK := ps_ifT c31 hK
                refine pm_ki d_X5_readLine_123 ?_
                have hQ := ps_so hK
                exact ps_zret rfl rfl d_X5_readLine_124 ⟨_, rfl, hQ⟩
              · replace hK := ps_ifF c31 hK
                refine pm_ki d_X5_readLine_119 ?_
                refine pm_goto d_X5_readLine_120 ?_
                have hQ := ps_so hK
                exact ps_zret rfl rfl d_X5_readLine_124 ⟨_, rfl, hQ⟩
        · replace hK := ps_ifF c12 hK
          refine pm_ald d_X5_readLine_60 rfl ?_
          refine pm_ki d_X5_readLine_61 ?_
          refine ps_cVI d_X5_readLine_62 mv_X5_readLaw at_11 ob_3_0 rfl (As := [.int 1]) rfl rfl (ps_room.of (by omega) (by decide)) (Nat.le_of_ble_eq_true rfl) (C_X5_readLaw 1 σ11 _ (ps_bdE hK)) ?_
          intro v32 σ33 hT
          clear hK
          have hK := hT
          clear hT
          refine pm_ist1 d_X5_readLine_65 rfl (by decide) ?_
          refine pm_goto d_X5_readLine_66 ?_
          refine pm_ald d_X5_readLine_93 rfl ?_
          refine ps_getR (q := 2) d_X5_readLine_94 at_11 f_3_0_3 rfl ?_
          refine pm_dup d_X5_readLine_97 rfl ?_
          refine ps_getI d_X5_readLine_98 ps_Ho2.at0 f_2_0_10 rfl ?_
          refine ps_topI (fun v34 ev34 => ?_)
          replace hK := ps_ltE ev34 hK
          refine pm_ki d_X5_readLine_101 ?_
          refine pm_iadd d_X5_readLine_102 ?_
          refine ps_putI d_X5_readLine_103 ps_Ho2.at0 f_2_0_10 rfl rfl ?_
          refine ps_nmS (fun σ35 eσ35 => ?_)
          replace hK := ps_ltE eσ35 hK
          refine pm_ild d_X5_readLine_106 rfl ?_
          refine pm_if_eq d_X5_readLine_107 (fun c36 => ?_) (fun c36 => ?_)
          · replace hK := ps_ifT c36 hK
            refine pm_ki d_X5_readLine_123 ?_
            have hQ := ps_so hK
            exact ps_zret rfl rfl d_X5_readLine_124 ⟨_, rfl, hQ⟩
          · replace hK := ps_ifF c36 hK
            refine pm_ald d_X5_readLine_110 rfl ?_
            refine pm_ki d_X5_readLine_111 ?_
            refine ps_cVI d_X5_readLine_113 mv_X5_takeSign at_11 ob_3_0 rfl (As := [.int 59]) rfl rfl (ps_room.of (by omega) (by decide)) (Nat.le_of_ble_eq_true rfl) (C_X5_takeSign 59 σ35 _ (ps_bdE hK)) ?_
            intro v37 σ38 hT
            clear hK
            have hK := hT
            clear hT
            refine pm_if_eq d_X5_readLine_116 (fun c39 => ?_) (fun c39 => ?_)
            · replace hK := ps_ifT c39 hK
              refine pm_ki d_X5_readLine_123 ?_
              have hQ := ps_so hK
              exact ps_zret rfl rfl d_X5_readLine_124 ⟨_, rfl, hQ⟩
            · replace hK := ps_ifF c39 hK
              refine pm_ki d_X5_readLine_119 ?_
              refine pm_goto d_X5_readLine_120 ?_
              have hQ := ps_so hK
              exact ps_zret rfl rfl d_X5_readLine_124 ⟨_, rfl, hQ⟩
      · replace hK := ps_ifF c9 hK
        refine pm_ald d_X5_readLine_43 rfl ?_
        refine ps_cVI d_X5_readLine_44 mv_X5_readWriter at_11 ob_3_0 rfl (As := []) rfl rfl (ps_room.of (by omega) (by decide)) (Nat.le_of_ble_eq_true rfl) (C_X5_readWriter σ8 _ (ps_bdE hK)) ?_
        intro v40 σ41 hT
        clear hK
        have hK := hT
        clear hT
        refine pm_ist1 d_X5_readLine_47 rfl (by decide) ?_
        refine pm_goto d_X5_readLine_48 ?_
        refine pm_ald d_X5_readLine_93 rfl ?_
        refine ps_getR (q := 2) d_X5_readLine_94 at_11 f_3_0_3 rfl ?_
        refine pm_dup d_X5_readLine_97 rfl ?_
        refine ps_getI d_X5_readLine_98 ps_Ho2.at0 f_2_0_10 rfl ?_
        refine ps_topI (fun v42 ev42 => ?_)
        replace hK := ps_ltE ev42 hK
        refine pm_ki d_X5_readLine_101 ?_
        refine pm_iadd d_X5_readLine_102 ?_
        refine ps_putI d_X5_readLine_103 ps_Ho2.at0 f_2_0_10 rfl rfl ?_
        refine ps_nmS (fun σ43 eσ43 => ?_)
        replace hK := ps_ltE eσ43 hK
        refine pm_ild d_X5_readLine_106 rfl ?_
        refine pm_if_eq d_X5_readLine_107 (fun c44 => ?_) (fun c44 => ?_)
        · replace hK := ps_ifT c44 hK
          refine pm_ki d_X5_readLine_123 ?_
          have hQ := ps_so hK
          exact ps_zret rfl rfl d_X5_readLine_124 ⟨_, rfl, hQ⟩
        · replace hK := ps_ifF c44 hK
          refine pm_ald d_X5_readLine_110 rfl ?_
          refine pm_ki d_X5_readLine_111 ?_
          refine ps_cVI d_X5_readLine_113 mv_X5_takeSign at_11 ob_3_0 rfl (As := [.int 59]) rfl rfl (ps_room.of (by omega) (by decide)) (Nat.le_of_ble_eq_true rfl) (C_X5_takeSign 59 σ43 _ (ps_bdE hK)) ?_
          intro v45 σ46 hT
          clear hK
          have hK := hT
          clear hT
          refine pm_if_eq d_X5_readLine_116 (fun c47 => ?_) (fun c47 => ?_)
          · replace hK := ps_ifT c47 hK
            refine pm_ki d_X5_readLine_123 ?_
            have hQ := ps_so hK
            exact ps_zret rfl rfl d_X5_readLine_124 ⟨_, rfl, hQ⟩
          · replace hK := ps_ifF c47 hK
            refine pm_ki d_X5_readLine_119 ?_
            refine pm_goto d_X5_readLine_120 ?_
            have hQ := ps_so hK
            exact ps_zret rfl rfl d_X5_readLine_124 ⟨_, rfl, hQ⟩
    · replace hK := ps_ifF c6 hK
      refine pm_ald d_X5_readLine_26 rfl ?_
      refine ps_cVI d_X5_readLine_27 mv_X5_readFile at_11 ob_3_0 rfl (As := []) rfl rfl (ps_room.of (by omega) (by decide)) (Nat.le_of_ble_eq_true rfl) (C_X5_readFile σ5 _ (ps_bdE hK)) ?_
      intro v48 σ49 hT
      clear hK
      have hK := hT
      clear hT
      refine pm_ist1 d_X5_readLine_30 rfl (by decide) ?_
      refine pm_goto d_X5_readLine_31 ?_
      refine pm_ald d_X5_readLine_93 rfl ?_
      refine ps_getR (q := 2) d_X5_readLine_94 at_11 f_3_0_3 rfl ?_
      refine pm_dup d_X5_readLine_97 rfl ?_
      refine ps_getI d_X5_readLine_98 ps_Ho2.at0 f_2_0_10 rfl ?_
      refine ps_topI (fun v50 ev50 => ?_)
      replace hK := ps_ltE ev50 hK
      refine pm_ki d_X5_readLine_101 ?_
      refine pm_iadd d_X5_readLine_102 ?_
      refine ps_putI d_X5_readLine_103 ps_Ho2.at0 f_2_0_10 rfl rfl ?_
      refine ps_nmS (fun σ51 eσ51 => ?_)
      replace hK := ps_ltE eσ51 hK
      refine pm_ild d_X5_readLine_106 rfl ?_
      refine pm_if_eq d_X5_readLine_107 (fun c52 => ?_) (fun c52 => ?_)
      · replace hK := ps_ifT c52 hK
        refine pm_ki d_X5_readLine_123 ?_
        have hQ := ps_so hK
        exact ps_zret rfl rfl d_X5_readLine_124 ⟨_, rfl, hQ⟩
      · replace hK := ps_ifF c52 hK
        refine pm_ald d_X5_readLine_110 rfl ?_
        refine pm_ki d_X5_readLine_111 ?_
        refine ps_cVI d_X5_readLine_113 mv_X5_takeSign at_11 ob_3_0 rfl (As := [.int 59]) rfl rfl (ps_room.of (by omega) (by decide)) (Nat.le_of_ble_eq_true rfl) (C_X5_takeSign 59 σ51 _ (ps_bdE hK)) ?_
        intro v53 σ54 hT
        clear hK
        have hK := hT
        clear hT
        refine pm_if_eq d_X5_readLine_116 (fun c55 => ?_) (fun c55 => ?_)
        · replace hK := ps_ifT c55 hK
          refine pm_ki d_X5_readLine_123 ?_
          have hQ := ps_so hK
          exact ps_zret rfl rfl d_X5_readLine_124 ⟨_, rfl, hQ⟩
        · replace hK := ps_ifF c55 hK
          refine pm_ki d_X5_readLine_119 ?_
          refine pm_goto d_X5_readLine_120 ?_
          have hQ := ps_so hK
          exact ps_zret rfl rfl d_X5_readLine_124 ⟨_, rfl, hQ⟩
  · replace hK := ps_ifF c3 hK
    refine pm_ald d_X5_readLine_9 rfl ?_
    refine ps_cVI d_X5_readLine_10 mv_X5_readDevice at_11 ob_3_0 rfl (As := []) rfl rfl (ps_room.of (by omega) (by decide)) (Nat.le_of_ble_eq_true rfl) (C_X5_readDevice σ2 _ (ps_bdE hK)) ?_
    intro v56 σ57 hT
    clear hK
    have hK := hT
    clear hT
    refine pm_ist1 d_X5_readLine_13 rfl (by decide) ?_
    refine pm_goto d_X5_readLine_14 ?_
    refine pm_ald d_X5_readLine_93 rfl ?_
    refine ps_getR (q := 2) d_X5_readLine_94 at_11 f_3_0_3 rfl ?_
    refine pm_dup d_X5_readLine_97 rfl ?_
    refine ps_getI d_X5_readLine_98 ps_Ho2.at0 f_2_0_10 rfl ?_
    refine ps_topI (fun v58 ev58 => ?_)
    replace hK := ps_ltE ev58 hK
    refine pm_ki d_X5_readLine_101 ?_
    refine pm_iadd d_X5_readLine_102 ?_
    refine ps_putI d_X5_readLine_103 ps_Ho2.at0 f_2_0_10 rfl rfl ?_
    refine ps_nmS (fun σ59 eσ59 => ?_)
    replace hK := ps_ltE eσ59 hK
    refine pm_ild d_X5_readLine_106 rfl ?_
    refine pm_if_eq d_X5_readLine_107 (fun c60 => ?_) (fun c60 => ?_)
    · replace hK := ps_ifT c60 hK
      refine pm_ki d_X5_readLine_123 ?_
      have hQ := ps_so hK
      exact ps_zret rfl rfl d_X5_readLine_124 ⟨_, rfl, hQ⟩
    · replace hK := ps_ifF c60 hK
      refine pm_ald d_X5_readLine_110 rfl ?_
      refine pm_ki d_X5_readLine_111 ?_
      refine ps_cVI d_X5_readLine_113 mv_X5_takeSign at_11 ob_3_0 rfl (As := [.int 59]) rfl rfl (ps_room.of (by omega) (by decide)) (Nat.le_of_ble_eq_true rfl) (C_X5_takeSign 59 σ59 _ (ps_bdE hK)) ?_
      intro v61 σ62 hT
      clear hK
      have hK := hT
      clear hT
      refine pm_if_eq d_X5_readLine_116 (fun c63 => ?_) (fun c63 => ?_)
      · replace hK := ps_ifT c63 hK
        refine pm_ki d_X5_readLine_123 ?_
        have hQ := ps_so hK
        exact ps_zret rfl rfl d_X5_readLine_124 ⟨_, rfl, hQ⟩
      · replace hK := ps_ifF c63 hK
        refine pm_ki d_X5_readLine_119 ?_
        refine pm_goto d_X5_readLine_120 ?_
        have hQ := ps_so hK
        exact ps_zret rfl rfl d_X5_readLine_124 ⟨_, rfl, hQ⟩
def qX5_readText_51  (y1 : Int32) : Nat → Int32 → Int32 → ps_S → Option (((Int32 × Int32)) × ps_S)
  | 0, _, _, _ => none
  | n + 1, x2, x3, σ =>
    if 900 ≤ x3 then
    some ((x2, x3), σ)
    else
    if x2 = 0 then
    some ((x2, x3), σ)
    else
    ps_let (σ.1 11 5) fun v15 =>
    if v15 = 0 then
    some ((x2, x3), σ)
    else
    ps_bd (qX5_readLine σ) (fun v17 σ18 =>
    ps_let (x3 + 1) fun v19 =>
    qX5_readText_51 y1 n v17 v19 σ18)
set_option maxRecDepth 100000 in
theorem L_X5_readText_51 {g : pm_G} (D : Nat) (hD : 90 ≤ D) {P : Int32 → ps_S → Prop}  (y1 : Int32) : ∀ (n : Nat) (x2 : Int32) (x3 : Int32) (σ : ps_S), ps_ok (qX5_readText_51 y1 n x2 x3 σ) (fun res σ => match res with | (x2, x3) => pm_W g mX5_readText (ps_F g D (ps_qI P)) 0 0 80 [some (.ref (g.2.2.1 + 11)), some (.int y1), some (.int x2), some (.int x3)] [] 345 (ps_E g σ)) → pm_W g mX5_readText (ps_F g D (ps_qI P)) 0 0 51 [some (.ref (g.2.2.1 + 11)), some (.int y1), some (.int x2), some (.int x3)] [] 345 (ps_E g σ) := by
  intro n
  induction n with
  | zero => intro x2 x3 σ hK; exact (ps_no hK).elim
  | succ n ih =>
    intro x2 x3 σ hK
    rw [qX5_readText_51] at hK
    refine pm_ild d_X5_readText_51 rfl ?_
    refine pm_ki d_X5_readText_52 ?_
    refine pm_icmp_ge d_X5_readText_55 (fun c13 => ?_) (fun c13 => ?_)
    · replace hK := ps_ifT c13 hK
      exact ps_so hK
    · replace hK := ps_ifF c13 hK
      refine pm_ild d_X5_readText_58 rfl ?_
      refine pm_if_eq d_X5_readText_59 (fun c14 => ?_) (fun c14 => ?_)
      · replace hK := ps_ifT c14 hK
        exact ps_so hK
      · replace hK := ps_ifF c14 hK
        refine pm_ald d_X5_readText_62 rfl ?_
        refine ps_getI d_X5_readText_63 at_11 f_3_0_5 rfl ?_
        refine ps_topI (fun v15 ev15 => ?_)
        replace hK := ps_ltE ev15 hK
        refine pm_if_eq d_X5_readText_66 (fun c16 => ?_) (fun c16 => ?_)
        · replace hK := ps_ifT c16 hK
          exact ps_so hK
        · replace hK := ps_ifF c16 hK
          refine pm_ald d_X5_readText_69 rfl ?_
          refine ps_cVI d_X5_readText_70 mv_X5_readLine at_11 ob_3_0 rfl (As := []) rfl rfl (ps_room.of (by omega) (by decide)) (Nat.le_of_ble_eq_true rfl) (C_X5_readLine σ _ (ps_bdE hK)) ?_
          intro v17 σ18 hT
          clear hK
          have hK := hT
          clear hT
          refine pm_ist2 d_X5_readText_73 rfl (by decide) ?_
          refine pm_inc3 d_X5_readText_74 rfl ?_
          obtain ⟨v19, ev19⟩ : ∃ y : Int32, y = x3 + 1 := ⟨_, rfl⟩
          rw [← ev19]
          replace hK := ps_ltE ev19 hK
          refine pm_goto d_X5_readText_77 ?_
          exact ih _ _ _ hK
def qX5_readText (p1 : Int32) (σ : ps_S) : Option (Int32 × ps_S) :=
  ps_let (if 900 < p1 then 900 else p1) fun v1 =>
  ps_let (ps_rI σ 11 (upd (σ.1 11) 4 v1)) fun σ2 =>
  ps_let (ps_rI σ2 11 (upd (σ2.1 11) 0 0)) fun σ3 =>
  ps_let (ps_rI σ3 11 (upd (σ3.1 11) 1 ((-1)))) fun σ4 =>
  ps_let (ps_rI σ4 11 (upd (σ4.1 11) 7 0)) fun σ5 =>
  ps_let (ps_rI σ5 11 (upd (σ5.1 11) 10 0)) fun σ6 =>
  ps_bd (qX2_clear 2 σ6) (fun _ σ8 =>
  ps_bd (qX5_advance σ8) (fun _ σ10 =>
  ps_bd (qX5_readHead σ10) (fun v11 σ12 =>
  ps_bd (qX5_readText_51 p1 ps_N v11 0 σ12) (fun res σ20 => match res with
  | (v21, v22) =>
    if ps_b01 v21 = true then some (v21, σ20) else none))))
set_option maxRecDepth 100000 in
theorem C_X5_readText {g : pm_G} (p1 : Int32) (σ : ps_S) (P : Int32 → ps_S → Prop) (hK : ps_ok (qX5_readText p1 σ) P) : ps_C g mX5_readText 90 [.ref (g.2.2.1 + 11), .int p1] σ (ps_qI P) := by
  unfold qX5_readText at hK
  refine ps_C.of (ls := [some (.ref (g.2.2.1 + 11)), some (.int p1), none, none]) 2 (by decide) rfl (Nat.le_of_ble_eq_true rfl) rfl ?_
  refine pm_ald d_X5_readText_0 rfl ?_
  refine pm_ild d_X5_readText_1 rfl ?_
  refine pm_ald d_X5_readText_2 rfl ?_
  refine ps_getR (q := 1) d_X5_readText_3 at_11 f_3_0_2 rfl ?_
  refine ps_alenI (v := 900) d_X5_readText_6 at_1 a_1_0 (by decide) rfl ?_
  refine pm_mmin d_X5_readText_7 (ps_roomM (by omega)) (Nat.le_of_ble_eq_true rfl) ?_
  refine ps_topI (fun v1 ev1 => ?_)
  replace hK := ps_ltE ev1 hK
  refine ps_putI d_X5_readText_10 at_11 f_3_0_4 rfl rfl ?_
  refine ps_nmS (fun σ2 eσ2 => ?_)
  replace hK := ps_ltE eσ2 hK
  refine pm_ald d_X5_readText_13 rfl ?_
  refine pm_ki d_X5_readText_14 ?_
  refine ps_putI d_X5_readText_15 at_11 f_3_0_0 rfl rfl ?_
  refine ps_nmS (fun σ3 eσ3 => ?_)
  replace hK := ps_ltE eσ3 hK
  refine pm_ald d_X5_readText_18 rfl ?_
  refine pm_ki d_X5_readText_19 ?_
  refine ps_putI d_X5_readText_20 at_11 f_3_0_1 rfl rfl ?_
  refine ps_nmS (fun σ4 eσ4 => ?_)
  replace hK := ps_ltE eσ4 hK
  refine pm_ald d_X5_readText_23 rfl ?_
  refine pm_ki d_X5_readText_24 ?_
  refine ps_putI d_X5_readText_25 at_11 f_3_0_7 rfl rfl ?_
  refine ps_nmS (fun σ5 eσ5 => ?_)
  replace hK := ps_ltE eσ5 hK
  refine pm_ald d_X5_readText_28 rfl ?_
  refine pm_ki d_X5_readText_29 ?_
  refine ps_putI d_X5_readText_30 at_11 f_3_0_10 rfl rfl ?_
  refine ps_nmS (fun σ6 eσ6 => ?_)
  replace hK := ps_ltE eσ6 hK
  refine pm_ald d_X5_readText_33 rfl ?_
  refine ps_getR (q := 2) d_X5_readText_34 at_11 f_3_0_3 rfl ?_
  refine ps_cVV d_X5_readText_37 mv_X2_clear ps_Ho2.at0 ob_2_0 rfl (As := []) rfl rfl (ps_room.of (by omega) (by decide)) (Nat.le_of_ble_eq_true rfl) (C_X2_clear 2 ps_Ho2 σ6 _ (ps_bdE hK)) ?_
  intro σ8 hT
  clear hK
  have hK := hT
  clear hT
  refine pm_ald d_X5_readText_40 rfl ?_
  refine ps_cVV d_X5_readText_41 mv_X5_advance at_11 ob_3_0 rfl (As := []) rfl rfl (ps_room.of (by omega) (by decide)) (Nat.le_of_ble_eq_true rfl) (C_X5_advance σ8 _ (ps_bdE hK)) ?_
  intro σ10 hT
  clear hK
  have hK := hT
  clear hT
  refine pm_ald d_X5_readText_44 rfl ?_
  refine ps_cVI d_X5_readText_45 mv_X5_readHead at_11 ob_3_0 rfl (As := []) rfl rfl (ps_room.of (by omega) (by decide)) (Nat.le_of_ble_eq_true rfl) (C_X5_readHead σ10 _ (ps_bdE hK)) ?_
  intro v11 σ12 hT
  clear hK
  have hK := hT
  clear hT
  refine pm_ist2 d_X5_readText_48 rfl (by decide) ?_
  refine pm_ki d_X5_readText_49 ?_
  refine pm_ist3 d_X5_readText_50 rfl (by decide) ?_
  refine L_X5_readText_51 _ (by decide) p1 _ _ _ _ (ps_ok.mono (ps_bdE hK) ?_)
  rintro ⟨v21, v22⟩ σ20 hT
  clear hK
  have hK := hT
  clear hT
  refine pm_ild d_X5_readText_80 rfl ?_
  obtain ⟨b23, hT⟩ := ps_gd hK
  have hQ := ps_so hT
  exact ps_zret rfl (ps_nb b23) d_X5_readText_81 ⟨_, rfl, hQ⟩
def qX1_begin_58 (B : Nat) (B1 : Nat) : Nat → Int32 → ps_S → Option (((Int32)) × ps_S)
  | 0, _, _ => none
  | n + 1, x2, σ =>
    if 4 ≤ x2 then
    some (x2, σ)
    else
    if ps_in x2 4 = true then
    ps_let (σ.1 (B1 + 1) (x2).toNatClampNeg) fun v16 =>
    if ps_in x2 4 = true then
    ps_let (ps_rI σ (B + 2) (upd (σ.1 (B + 2)) (x2).toNatClampNeg v16)) fun σ17 =>
    if ps_in x2 4 = true then
    ps_let (σ17.1 (B1 + 1) (x2).toNatClampNeg) fun v18 =>
    if ps_in x2 4 = true then
    ps_let (ps_rD σ17 (B + 6) (vf_upd (σ17.2.2 (B + 6)) (x2).toNatClampNeg ((FP.i2d (v18))))) fun σ19 =>
    ps_let (x2 + 1) fun v20 =>
    qX1_begin_58 B B1 n v20 σ19
    else none
    else none
    else none
    else none
set_option maxRecDepth 100000 in
theorem L_X1_begin_58 {g : pm_G} (D : Nat) (hD : 2 ≤ D) {P : Unit → ps_S → Prop} (B : Nat) (hB : ps_St B) (B1 : Nat) (hB1 : ps_Ho B1) : ∀ (n : Nat) (x2 : Int32) (σ : ps_S), ps_ok (qX1_begin_58 B B1 n x2 σ) (fun res σ => match res with | x2 => pm_W g mX1_begin (ps_F g D (ps_qV P)) 0 0 94 [some (.ref (g.2.2.1 + (B + 1))), some (.ref (g.2.2.1 + B1)), some (.int x2)] [] 345 (ps_E g σ)) → pm_W g mX1_begin (ps_F g D (ps_qV P)) 0 0 58 [some (.ref (g.2.2.1 + (B + 1))), some (.ref (g.2.2.1 + B1)), some (.int x2)] [] 345 (ps_E g σ) := by
  intro n
  induction n with
  | zero => intro x2 σ hK; exact (ps_no hK).elim
  | succ n ih =>
    intro x2 σ hK
    rw [qX1_begin_58] at hK
    refine pm_ild d_X1_begin_58 rfl ?_
    refine pm_ki d_X1_begin_59 ?_
    refine pm_icmp_ge d_X1_begin_60 (fun c15 => ?_) (fun c15 => ?_)
    · replace hK := ps_ifT c15 hK
      exact ps_so hK
    · replace hK := ps_ifF c15 hK
      refine pm_ald d_X1_begin_63 rfl ?_
      refine ps_getR (q := (B + 2)) d_X1_begin_64 (hB.at 1 (by decide)) f_5_1_0 rfl ?_
      refine pm_ild d_X1_begin_67 rfl ?_
      refine pm_ald d_X1_begin_68 rfl ?_
      refine ps_getR (q := (B1 + 1)) d_X1_begin_69 hB1.at0 f_2_0_11 rfl ?_
      refine pm_ild d_X1_begin_72 rfl ?_
      obtain ⟨b24, hT⟩ := ps_gd hK
      replace hK := hT
      clear hT
      refine ps_iald d_X1_begin_73 (hB1.at 1 (by decide)) a_2_1 (ps_in_of b24) rfl ?_
      refine ps_topI (fun v16 ev16 => ?_)
      replace hK := ps_ltE ev16 hK
      obtain ⟨b23, hT⟩ := ps_gd hK
      replace hK := hT
      clear hT
      refine ps_iast d_X1_begin_74 (hB.at 2 (by decide)) a_5_2 (ps_in_of b23) ?_
      refine ps_nmS (fun σ17 eσ17 => ?_)
      replace hK := ps_ltE eσ17 hK
      refine pm_ald d_X1_begin_75 rfl ?_
      refine ps_getR (q := (B + 6)) d_X1_begin_76 (hB.at 1 (by decide)) f_5_1_4 rfl ?_
      refine pm_ild d_X1_begin_79 rfl ?_
      refine pm_ald d_X1_begin_80 rfl ?_
      refine ps_getR (q := (B1 + 1)) d_X1_begin_81 hB1.at0 f_2_0_11 rfl ?_
      refine pm_ild d_X1_begin_84 rfl ?_
      obtain ⟨b22, hT⟩ := ps_gd hK
      replace hK := hT
      clear hT
      refine ps_iald d_X1_begin_85 (hB1.at 1 (by decide)) a_2_1 (ps_in_of b22) rfl ?_
      refine ps_topI (fun v18 ev18 => ?_)
      replace hK := ps_ltE ev18 hK
      refine pm_i2d d_X1_begin_86 ?_
      obtain ⟨b21, hT⟩ := ps_gd hK
      replace hK := hT
      clear hT
      refine ps_dast d_X1_begin_87 (hB.at 6 (by decide)) a_5_6 (ps_in_of b21) ?_
      refine ps_nmS (fun σ19 eσ19 => ?_)
      replace hK := ps_ltE eσ19 hK
      refine pm_inc2 d_X1_begin_88 rfl ?_
      obtain ⟨v20, ev20⟩ : ∃ y : Int32, y = x2 + 1 := ⟨_, rfl⟩
      rw [← ev20]
      replace hK := ps_ltE ev20 hK
      refine pm_goto d_X1_begin_91 ?_
      exact ih _ _ hK
def qX1_begin (B : Nat) (B1 : Nat) (σ : ps_S) : Option (Unit × ps_S) :=
  ps_bd (qJ7_fill_53178 (B + 3) 4 0 σ) (fun _ σ2 =>
  ps_bd (qJ7_fill_53178 (B + 4) 4 0 σ2) (fun _ σ4 =>
  ps_bd (qJ7_fill_53178 (B + 5) 4 0 σ4) (fun _ σ6 =>
  ps_bd (qJ7_fill_53178 (B + 7) 4 0 σ6) (fun _ σ8 =>
  ps_bd (qJ7_fill_53178 (B + 8) 4 0 σ8) (fun _ σ10 =>
  ps_bd (qJ7_fill_53178 (B + 9) 4 0 σ10) (fun _ σ12 =>
  ps_bd (qJ7_fill_53178 (B + 10) 4 ((-1)) σ12) (fun _ σ14 =>
  ps_bd (qX1_begin_58 B B1 ps_N 0 σ14) (fun res σ25 => match res with
  | v26 =>
    some ((), σ25)))))))))
set_option maxRecDepth 100000 in
theorem C_X1_begin {g : pm_G} (B : Nat) (hB : ps_St B) (B1 : Nat) (hB1 : ps_Ho B1) (σ : ps_S) (P : Unit → ps_S → Prop) (hK : ps_ok (qX1_begin B B1 σ) P) : ps_C g mX1_begin 2 [.ref (g.2.2.1 + (B + 1)), .ref (g.2.2.1 + B1)] σ (ps_qV P) := by
  unfold qX1_begin at hK
  refine ps_C.of (ls := [some (.ref (g.2.2.1 + (B + 1))), some (.ref (g.2.2.1 + B1)), none]) 1 (by decide) rfl (Nat.le_of_ble_eq_true rfl) rfl ?_
  refine pm_ald d_X1_begin_0 rfl ?_
  refine ps_getR (q := (B + 3)) d_X1_begin_1 (hB.at 1 (by decide)) f_5_1_1 rfl ?_
  refine pm_ki d_X1_begin_4 ?_
  refine ps_cSV d_X1_begin_5 ms_J7_fill_53178 (As := [.ref (g.2.2.1 + (B + 3)), .int 0]) rfl rfl (ps_room.of (by omega) (by decide)) (Nat.le_of_ble_eq_true rfl) (C_J7_fill_53178 (B + 3) 4 5 B 3 (hB.at 3 (by decide)) a_5_3 0 σ _ (ps_bdE hK)) ?_
  intro σ2 hT
  clear hK
  have hK := hT
  clear hT
  refine pm_ald d_X1_begin_8 rfl ?_
  refine ps_getR (q := (B + 4)) d_X1_begin_9 (hB.at 1 (by decide)) f_5_1_2 rfl ?_
  refine pm_ki d_X1_begin_12 ?_
  refine ps_cSV d_X1_begin_13 ms_J7_fill_53178 (As := [.ref (g.2.2.1 + (B + 4)), .int 0]) rfl rfl (ps_room.of (by omega) (by decide)) (Nat.le_of_ble_eq_true rfl) (C_J7_fill_53178 (B + 4) 4 5 B 4 (hB.at 4 (by decide)) a_5_4 0 σ2 _ (ps_bdE hK)) ?_
  intro σ4 hT
  clear hK
  have hK := hT
  clear hT
  refine pm_ald d_X1_begin_16 rfl ?_
  refine ps_getR (q := (B + 5)) d_X1_begin_17 (hB.at 1 (by decide)) f_5_1_3 rfl ?_
  refine pm_ki d_X1_begin_20 ?_
  refine ps_cSV d_X1_begin_21 ms_J7_fill_53178 (As := [.ref (g.2.2.1 + (B + 5)), .int 0]) rfl rfl (ps_room.of (by omega) (by decide)) (Nat.le_of_ble_eq_true rfl) (C_J7_fill_53178 (B + 5) 4 5 B 5 (hB.at 5 (by decide)) a_5_5 0 σ4 _ (ps_bdE hK)) ?_
  intro σ6 hT
  clear hK
  have hK := hT
  clear hT
  refine pm_ald d_X1_begin_24 rfl ?_
  refine ps_getR (q := (B + 7)) d_X1_begin_25 (hB.at 1 (by decide)) f_5_1_5 rfl ?_
  refine pm_ki d_X1_begin_28 ?_
  refine ps_cSV d_X1_begin_29 ms_J7_fill_53178 (As := [.ref (g.2.2.1 + (B + 7)), .int 0]) rfl rfl (ps_room.of (by omega) (by decide)) (Nat.le_of_ble_eq_true rfl) (C_J7_fill_53178 (B + 7) 4 5 B 7 (hB.at 7 (by decide)) a_5_7 0 σ6 _ (ps_bdE hK)) ?_
  intro σ8 hT
  clear hK
  have hK := hT
  clear hT
  refine pm_ald d_X1_begin_32 rfl ?_
  refine ps_getR (q := (B + 8)) d_X1_begin_33 (hB.at 1 (by decide)) f_5_1_6 rfl ?_
  refine pm_ki d_X1_begin_36 ?_
  refine ps_cSV d_X1_begin_37 ms_J7_fill_53178 (As := [.ref (g.2.2.1 + (B + 8)), .int 0]) rfl rfl (ps_room.of (by omega) (by decide)) (Nat.le_of_ble_eq_true rfl) (C_J7_fill_53178 (B + 8) 4 5 B 8 (hB.at 8 (by decide)) a_5_8 0 σ8 _ (ps_bdE hK)) ?_
  intro σ10 hT
  clear hK
  have hK := hT
  clear hT
  refine pm_ald d_X1_begin_40 rfl ?_
  refine ps_getR (q := (B + 9)) d_X1_begin_41 (hB.at 1 (by decide)) f_5_1_7 rfl ?_
  refine pm_ki d_X1_begin_44 ?_
  refine ps_cSV d_X1_begin_45 ms_J7_fill_53178 (As := [.ref (g.2.2.1 + (B + 9)), .int 0]) rfl rfl (ps_room.of (by omega) (by decide)) (Nat.le_of_ble_eq_true rfl) (C_J7_fill_53178 (B + 9) 4 5 B 9 (hB.at 9 (by decide)) a_5_9 0 σ10 _ (ps_bdE hK)) ?_
  intro σ12 hT
  clear hK
  have hK := hT
  clear hT
  refine pm_ald d_X1_begin_48 rfl ?_
  refine ps_getR (q := (B + 10)) d_X1_begin_49 (hB.at 1 (by decide)) f_5_1_8 rfl ?_
  refine pm_ki d_X1_begin_52 ?_
  refine ps_cSV d_X1_begin_53 ms_J7_fill_53178 (As := [.ref (g.2.2.1 + (B + 10)), .int (-1)]) rfl rfl (ps_room.of (by omega) (by decide)) (Nat.le_of_ble_eq_true rfl) (C_J7_fill_53178 (B + 10) 4 5 B 10 (hB.at 10 (by decide)) a_5_10 ((-1)) σ12 _ (ps_bdE hK)) ?_
  intro σ14 hT
  clear hK
  have hK := hT
  clear hT
  refine pm_ki d_X1_begin_56 ?_
  refine pm_ist2 d_X1_begin_57 rfl (by decide) ?_
  refine L_X1_begin_58 _ (by decide) B hB B1 hB1 _ _ _ (ps_ok.mono (ps_bdE hK) ?_)
  rintro v26 σ25 hT
  clear hK
  have hK := hT
  clear hT
  have hQ := ps_so hK
  exact ps_vret rfl d_X1_begin_94 ⟨rfl, hQ⟩
def qX6_begin (B : Nat) (B1 : Nat) (σ : ps_S) : Option (Unit × ps_S) :=
  ps_bd (qX1_begin B B1 σ) (fun _ σ2 =>
  ps_bd (qJ7_fill_53178 (B + 11) 12 0 σ2) (fun _ σ4 =>
  ps_bd (qJ7_fill_53178 (B + 12) 12 0 σ4) (fun _ σ6 =>
  ps_let (ps_rI σ6 (B + 13) (va_cpy (σ6.1 (B1 + 6)) (σ6.1 (B + 13)) 0 0 6)) fun σ7 =>
  ps_bd (qJ7_fill_53178 (B + 14) 6 0 σ7) (fun _ σ9 =>
  ps_bd (qJ7_fill_53178 (B + 15) 6 0 σ9) (fun _ σ11 =>
  ps_bd (qJ7_fill_53178 (B + 16) 6 0 σ11) (fun _ σ13 =>
  ps_bd (qJ7_fill_53178 (B + 17) 6 0 σ13) (fun _ σ15 =>
  ps_let (ps_rI σ15 B (upd (σ15.1 B) 8 0)) fun σ16 =>
  ps_let (ps_rI σ16 B (upd (σ16.1 B) 9 0)) fun σ17 =>
  ps_let (σ17.1 B1 0) fun v18 =>
  ps_let (ps_rI σ17 B (upd (σ17.1 B) 10 v18)) fun σ19 =>
  ps_let (ps_rI σ19 B (upd (σ19.1 B) 11 ((-1)))) fun σ20 =>
  ps_let (ps_rI σ20 B (upd (σ20.1 B) 12 ((-1)))) fun σ21 =>
  ps_let (ps_rI σ21 B (upd (σ21.1 B) 13 0)) fun σ22 =>
  some ((), σ22))))))))
set_option maxRecDepth 100000 in
theorem C_X6_begin {g : pm_G} (B : Nat) (hB : ps_St B) (B1 : Nat) (hB1 : ps_Ho B1) (σ : ps_S) (P : Unit → ps_S → Prop) (hK : ps_ok (qX6_begin B B1 σ) P) : ps_C g mX6_begin 3 [.ref (g.2.2.1 + B), .ref (g.2.2.1 + B1)] σ (ps_qV P) := by
  unfold qX6_begin at hK
  refine ps_C.of (ls := [some (.ref (g.2.2.1 + B)), some (.ref (g.2.2.1 + B1))]) 0 (by decide) rfl (Nat.le_of_ble_eq_true rfl) rfl ?_
  refine pm_ald d_X6_begin_0 rfl ?_
  refine ps_getR (q := (B + 1)) d_X6_begin_1 hB.at0 f_5_0_0 rfl ?_
  refine pm_ald d_X6_begin_4 rfl ?_
  refine ps_cVV d_X6_begin_5 mv_X1_begin (hB.at 1 (by decide)) ob_5_1 rfl (As := [.ref (g.2.2.1 + B1)]) rfl rfl (ps_room.of (by omega) (by decide)) (Nat.le_of_ble_eq_true rfl) (C_X1_begin B hB B1 hB1 σ _ (ps_bdE hK)) ?_
  intro σ2 hT
  clear hK
  have hK := hT
  clear hT
  refine pm_ald d_X6_begin_8 rfl ?_
  refine ps_getR (q := (B + 11)) d_X6_begin_9 hB.at0 f_5_0_1 rfl ?_
  refine pm_ki d_X6_begin_12 ?_
  refine ps_cSV d_X6_begin_13 ms_J7_fill_53178 (As := [.ref (g.2.2.1 + (B + 11)), .int 0]) rfl rfl (ps_room.of (by omega) (by decide)) (Nat.le_of_ble_eq_true rfl) (C_J7_fill_53178 (B + 11) 12 5 B 11 (hB.at 11 (by decide)) a_5_11 0 σ2 _ (ps_bdE hK)) ?_
  intro σ4 hT
  clear hK
  have hK := hT
  clear hT
  refine pm_ald d_X6_begin_16 rfl ?_
  refine ps_getR (q := (B + 12)) d_X6_begin_17 hB.at0 f_5_0_2 rfl ?_
  refine pm_ki d_X6_begin_20 ?_
  refine ps_cSV d_X6_begin_21 ms_J7_fill_53178 (As := [.ref (g.2.2.1 + (B + 12)), .int 0]) rfl rfl (ps_room.of (by omega) (by decide)) (Nat.le_of_ble_eq_true rfl) (C_J7_fill_53178 (B + 12) 12 5 B 12 (hB.at 12 (by decide)) a_5_12 0 σ4 _ (ps_bdE hK)) ?_
  intro σ6 hT
  clear hK
  have hK := hT
  clear hT
  refine pm_ald d_X6_begin_24 rfl ?_
  refine ps_getR (q := (B1 + 6)) d_X6_begin_25 hB1.at0 f_2_0_16 rfl ?_
  refine pm_ki d_X6_begin_28 ?_
  refine pm_ald d_X6_begin_29 rfl ?_
  refine ps_getR (q := (B + 13)) d_X6_begin_30 hB.at0 f_5_0_3 rfl ?_
  refine pm_ki d_X6_begin_33 ?_
  refine pm_ki d_X6_begin_34 ?_
  refine ps_copyi d_X6_begin_36 (hB1.at 6 (by decide)) (hB.at 13 (by decide)) a_2_6 a_5_13 (by decide) (by decide) (by decide) (by decide) (by decide) (ps_roomC (by omega)) (Nat.le_of_ble_eq_true rfl) ?_
  refine ps_nmS (fun σ7 eσ7 => ?_)
  replace hK := ps_ltE eσ7 hK
  refine pm_ald d_X6_begin_39 rfl ?_
  refine ps_getR (q := (B + 14)) d_X6_begin_40 hB.at0 f_5_0_4 rfl ?_
  refine pm_ki d_X6_begin_43 ?_
  refine ps_cSV d_X6_begin_44 ms_J7_fill_53178 (As := [.ref (g.2.2.1 + (B + 14)), .int 0]) rfl rfl (ps_room.of (by omega) (by decide)) (Nat.le_of_ble_eq_true rfl) (C_J7_fill_53178 (B + 14) 6 5 B 14 (hB.at 14 (by decide)) a_5_14 0 σ7 _ (ps_bdE hK)) ?_
  intro σ9 hT
  clear hK
  have hK := hT
  clear hT
  refine pm_ald d_X6_begin_47 rfl ?_
  refine ps_getR (q := (B + 15)) d_X6_begin_48 hB.at0 f_5_0_5 rfl ?_
  refine pm_ki d_X6_begin_51 ?_
  refine ps_cSV d_X6_begin_52 ms_J7_fill_53178 (As := [.ref (g.2.2.1 + (B + 15)), .int 0]) rfl rfl (ps_room.of (by omega) (by decide)) (Nat.le_of_ble_eq_true rfl) (C_J7_fill_53178 (B + 15) 6 5 B 15 (hB.at 15 (by decide)) a_5_15 0 σ9 _ (ps_bdE hK)) ?_
  intro σ11 hT
  clear hK
  have hK := hT
  clear hT
  refine pm_ald d_X6_begin_55 rfl ?_
  refine ps_getR (q := (B + 16)) d_X6_begin_56 hB.at0 f_5_0_6 rfl ?_
  refine pm_ki d_X6_begin_59 ?_
  refine ps_cSV d_X6_begin_60 ms_J7_fill_53178 (As := [.ref (g.2.2.1 + (B + 16)), .int 0]) rfl rfl (ps_room.of (by omega) (by decide)) (Nat.le_of_ble_eq_true rfl) (C_J7_fill_53178 (B + 16) 6 5 B 16 (hB.at 16 (by decide)) a_5_16 0 σ11 _ (ps_bdE hK)) ?_
  intro σ13 hT
  clear hK
  have hK := hT
  clear hT
  refine pm_ald d_X6_begin_63 rfl ?_
  refine ps_getR (q := (B + 17)) d_X6_begin_64 hB.at0 f_5_0_7 rfl ?_
  refine pm_ki d_X6_begin_67 ?_
  refine ps_cSV d_X6_begin_68 ms_J7_fill_53178 (As := [.ref (g.2.2.1 + (B + 17)), .int 0]) rfl rfl (ps_room.of (by omega) (by decide)) (Nat.le_of_ble_eq_true rfl) (C_J7_fill_53178 (B + 17) 6 5 B 17 (hB.at 17 (by decide)) a_5_17 0 σ13 _ (ps_bdE hK)) ?_
  intro σ15 hT
  clear hK
  have hK := hT
  clear hT
  refine pm_ald d_X6_begin_71 rfl ?_
  refine pm_ki d_X6_begin_72 ?_
  refine ps_putI d_X6_begin_73 hB.at0 f_5_0_8 rfl rfl ?_
  refine ps_nmS (fun σ16 eσ16 => ?_)
  replace hK := ps_ltE eσ16 hK
  refine pm_ald d_X6_begin_76 rfl ?_
  refine pm_ki d_X6_begin_77 ?_
  refine ps_putI d_X6_begin_78 hB.at0 f_5_0_9 rfl rfl ?_
  refine ps_nmS (fun σ17 eσ17 => ?_)
  replace hK := ps_ltE eσ17 hK
  refine pm_ald d_X6_begin_81 rfl ?_
  refine pm_ald d_X6_begin_82 rfl ?_
  refine ps_getI d_X6_begin_83 hB1.at0 f_2_0_0 rfl ?_
  refine ps_topI (fun v18 ev18 => ?_)
  replace hK := ps_ltE ev18 hK
  refine ps_putI d_X6_begin_86 hB.at0 f_5_0_10 rfl rfl ?_
  refine ps_nmS (fun σ19 eσ19 => ?_)
  replace hK := ps_ltE eσ19 hK
  refine pm_ald d_X6_begin_89 rfl ?_
  refine pm_ki d_X6_begin_90 ?_
  refine ps_putI d_X6_begin_91 hB.at0 f_5_0_11 rfl rfl ?_
  refine ps_nmS (fun σ20 eσ20 => ?_)
  replace hK := ps_ltE eσ20 hK
  refine pm_ald d_X6_begin_94 rfl ?_
  refine pm_ki d_X6_begin_95 ?_
  refine ps_putI d_X6_begin_96 hB.at0 f_5_0_12 rfl rfl ?_
  refine ps_nmS (fun σ21 eσ21 => ?_)
  replace hK := ps_ltE eσ21 hK
  refine pm_ald d_X6_begin_99 rfl ?_
  refine pm_ki d_X6_begin_100 ?_
  refine ps_putI d_X6_begin_101 hB.at0 f_5_0_13 rfl rfl ?_
  refine ps_nmS (fun σ22 eσ22 => ?_)
  replace hK := ps_ltE eσ22 hK
  have hQ := ps_so hK
  exact ps_vret rfl d_X6_begin_104 ⟨rfl, hQ⟩
def qX8_host (p1 : Int32) (σ : ps_S) : Option (Int32 × ps_S) :=
  if p1 < 0 then
  some ((-3), σ)
  else
  ps_let (σ.1 0 1) fun v2 =>
  if p1 ≤ v2 then
  ps_let (ps_rI σ 0 (upd (σ.1 0) 1 0)) fun σ4 =>
  ps_bd (qX5_readText p1 σ4) (fun v5 σ6 =>
  if v5 = 0 then
  ps_let (σ6.1 11 0) fun v16 =>
  some ((((-30)) - v16), σ6)
  else
  ps_bd (qX2_copyFrom 12 2 σ6) (fun _ σ9 =>
  ps_bd (qX0_forgetLaws σ9) (fun _ σ11 =>
  ps_bd (qX6_begin 26 12 σ11) (fun _ σ13 =>
  ps_let (ps_rI σ13 0 (upd (σ13.1 0) 11 0)) fun σ14 =>
  ps_let (σ14.1 12 10) fun v15 =>
  some (v15, σ14)))))
  else
  some ((-3), σ)
set_option maxRecDepth 100000 in
theorem C_X8_host {g : pm_G} (p1 : Int32) (σ : ps_S) (P : Int32 → ps_S → Prop) (hK : ps_ok (qX8_host p1 σ) P) : ps_C g mX8_host 91 [.ref (g.2.2.1 + 0), .int p1] σ (ps_qI P) := by
  unfold qX8_host at hK
  refine ps_C.of (ls := [some (.ref (g.2.2.1 + 0)), some (.int p1)]) 0 (by decide) rfl (Nat.le_of_ble_eq_true rfl) rfl ?_
  refine pm_ild d_X8_host_0 rfl ?_
  refine pm_if_lt d_X8_host_1 (fun c1 => ?_) (fun c1 => ?_)
  · replace hK := ps_ifT c1 hK
    refine pm_ki d_X8_host_12 ?_
    have hQ := ps_so hK
    exact ps_iret rfl d_X8_host_14 ⟨_, rfl, hQ⟩
  · replace hK := ps_ifF c1 hK
    refine pm_ild d_X8_host_4 rfl ?_
    refine pm_ald d_X8_host_5 rfl ?_
    refine ps_getI d_X8_host_6 at_0 f_0_0_1 rfl ?_
    refine ps_topI (fun v2 ev2 => ?_)
    replace hK := ps_ltE ev2 hK
    refine pm_icmp_le d_X8_host_9 (fun c3 => ?_) (fun c3 => ?_)
    · replace hK := ps_ifT c3 hK
      refine pm_ald d_X8_host_15 rfl ?_
      refine pm_ki d_X8_host_16 ?_
      refine ps_putI d_X8_host_17 at_0 f_0_0_1 rfl rfl ?_
      refine ps_nmS (fun σ4 eσ4 => ?_)
      replace hK := ps_ltE eσ4 hK
      refine pm_ald d_X8_host_20 rfl ?_
      refine ps_getR (q := 11) d_X8_host_21 at_0 f_0_0_3 rfl ?_
      refine pm_ild d_X8_host_24 rfl ?_
      refine ps_cVI d_X8_host_25 mv_X5_readText at_11 ob_3_0 rfl (As := [.int p1]) rfl rfl (ps_room.of (by omega) (by decide)) (Nat.le_of_ble_eq_true rfl) (C_X5_readText p1 σ4 _ (ps_bdE hK)) ?_
      intro v5 σ6 hT
      clear hK
      have hK := hT
      clear hT
      refine pm_if_ne d_X8_host_28 (fun c7 => ?_) (fun c7 => ?_)
      · replace hK := ps_ifF c7 hK
        refine pm_ald d_X8_host_42 rfl ?_
        refine ps_getR (q := 12) d_X8_host_43 at_0 f_0_0_4 rfl ?_
        refine pm_ald d_X8_host_46 rfl ?_
        refine ps_getR (q := 2) d_X8_host_47 at_0 f_0_0_2 rfl ?_
        refine ps_cVV d_X8_host_50 mv_X2_copyFrom ps_Ho12.at0 ob_2_0 rfl (As := [.ref (g.2.2.1 + 2)]) rfl rfl (ps_room.of (by omega) (by decide)) (Nat.le_of_ble_eq_true rfl) (C_X2_copyFrom 12 ps_Ho12 2 ps_Ho2 σ6 _ (ps_bdE hK)) ?_
        intro σ9 hT
        clear hK
        have hK := hT
        clear hT
        refine pm_ald d_X8_host_53 rfl ?_
        refine ps_getR (q := 21) d_X8_host_54 at_0 f_0_0_5 rfl ?_
        refine ps_cVV d_X8_host_57 mv_X0_forgetLaws at_21 ob_4_0 rfl (As := []) rfl rfl (ps_room.of (by omega) (by decide)) (Nat.le_of_ble_eq_true rfl) (C_X0_forgetLaws σ9 _ (ps_bdE hK)) ?_
        intro σ11 hT
        clear hK
        have hK := hT
        clear hT
        refine pm_ald d_X8_host_60 rfl ?_
        refine ps_getR (q := 26) d_X8_host_61 at_0 f_0_0_6 rfl ?_
        refine pm_ald d_X8_host_64 rfl ?_
        refine ps_getR (q := 12) d_X8_host_65 at_0 f_0_0_4 rfl ?_
        refine ps_cVV d_X8_host_68 mv_X6_begin ps_St26.at0 ob_5_0 rfl (As := [.ref (g.2.2.1 + 12)]) rfl rfl (ps_room.of (by omega) (by decide)) (Nat.le_of_ble_eq_true rfl) (C_X6_begin 26 ps_St26 12 ps_Ho12 σ11 _ (ps_bdE hK)) ?_
        intro σ13 hT
        clear hK
        have hK := hT
        clear hT
        refine pm_ald d_X8_host_71 rfl ?_
        refine pm_ki d_X8_host_72 ?_
        refine ps_putI d_X8_host_73 at_0 f_0_0_11 rfl rfl ?_
        refine ps_nmS (fun σ14 eσ14 => ?_)
        replace hK := ps_ltE eσ14 hK
        refine pm_ald d_X8_host_76 rfl ?_
        refine ps_getR (q := 12) d_X8_host_77 at_0 f_0_0_4 rfl ?_
        refine ps_getI d_X8_host_80 ps_Ho12.at0 f_2_0_10 rfl ?_
        refine ps_topI (fun v15 ev15 => ?_)
        replace hK := ps_ltE ev15 hK
        have hQ := ps_so hK
        exact ps_iret rfl d_X8_host_83 ⟨_, rfl, hQ⟩
      · replace hK := ps_ifT c7 hK
        refine pm_ki d_X8_host_31 ?_
        refine pm_ald d_X8_host_33 rfl ?_
        refine ps_getR (q := 11) d_X8_host_34 at_0 f_0_0_3 rfl ?_
        refine ps_getI d_X8_host_37 at_11 f_3_0_0 rfl ?_
        refine ps_topI (fun v16 ev16 => ?_)
        replace hK := ps_ltE ev16 hK
        refine pm_isub d_X8_host_40 ?_
        have hQ := ps_so hK
        exact ps_iret rfl d_X8_host_41 ⟨_, rfl, hQ⟩
    · replace hK := ps_ifF c3 hK
      refine pm_ki d_X8_host_12 ?_
      have hQ := ps_so hK
      exact ps_iret rfl d_X8_host_14 ⟨_, rfl, hQ⟩
def qX8_image (p1 : Int32) (σ : ps_S) : Option (Int32 × ps_S) :=
  ps_bd (qX8_isWithin p1 0 1 σ) (fun v1 σ2 =>
  if v1 = 0 then
  some ((-2), σ2)
  else
  if ps_in p1 2 = true then
  ps_let (273 + 27 * (p1).toNatClampNeg) fun B6 =>
  ps_bd (qX2_copyFrom B6 12 σ2) (fun _ σ8 =>
  if ps_in p1 2 = true then
  ps_let (282 + 27 * (p1).toNatClampNeg) fun B11 =>
  ps_bd (qX6_copyFrom B11 26 σ8) (fun _ σ13 =>
  if ps_in p1 2 = true then
  ps_let (ps_rI σ13 84 (upd (σ13.1 84) (p1).toNatClampNeg (vp_nar .boolean 1))) fun σ14 =>
  some (0, σ14)
  else none)
  else none)
  else none)
set_option maxRecDepth 100000 in
theorem C_X8_image {g : pm_G} (p1 : Int32) (σ : ps_S) (P : Int32 → ps_S → Prop) (hK : ps_ok (qX8_image p1 σ) P) : ps_C g mX8_image 3 [.ref (g.2.2.1 + 0), .int p1] σ (ps_qI P) := by
  unfold qX8_image at hK
  refine ps_C.of (ls := [some (.ref (g.2.2.1 + 0)), some (.int p1)]) 0 (by decide) rfl (Nat.le_of_ble_eq_true rfl) rfl ?_
  refine pm_ild d_X8_image_0 rfl ?_
  refine pm_ki d_X8_image_1 ?_
  refine pm_ki d_X8_image_2 ?_
  refine ps_cSI d_X8_image_3 ms_X8_isWithin (As := [.int p1, .int 0, .int 1]) rfl rfl (ps_room.of (by omega) (by decide)) (Nat.le_of_ble_eq_true rfl) (C_X8_isWithin p1 0 1 σ _ (ps_bdE hK)) ?_
  intro v1 σ2 hT
  clear hK
  have hK := hT
  clear hT
  refine pm_if_ne d_X8_image_6 (fun c3 => ?_) (fun c3 => ?_)
  · replace hK := ps_ifF c3 hK
    refine pm_ald d_X8_image_12 rfl ?_
    refine ps_getR (q := 82) d_X8_image_13 at_0 f_0_0_13 rfl ?_
    refine pm_ild d_X8_image_16 rfl ?_
    obtain ⟨b4, hT⟩ := ps_gd hK
    replace hK := hT
    clear hT
    obtain ⟨B6, eB6⟩ : ∃ y : Nat, y = (273 + 27 * (p1).toNatClampNeg) := ⟨_, rfl⟩
    refine ps_qald7 (q := B6) d_X8_image_17 at_82 a_6_2 (ps_in_of b4) eB6.symm ?_
    replace hK := ps_ltE eB6 hK
    have hB6 : ps_Ho B6 := by rw [eB6]; exact ps_Hoi _ (ps_in_lt b4)
    refine pm_ald d_X8_image_18 rfl ?_
    refine ps_getR (q := 12) d_X8_image_19 at_0 f_0_0_4 rfl ?_
    refine ps_cVV d_X8_image_22 mv_X2_copyFrom hB6.at0 ob_2_0 rfl (As := [.ref (g.2.2.1 + 12)]) rfl rfl (ps_room.of (by omega) (by decide)) (Nat.le_of_ble_eq_true rfl) (C_X2_copyFrom B6 hB6 12 ps_Ho12 σ2 _ (ps_bdE hK)) ?_
    intro σ8 hT
    clear hK
    have hK := hT
    clear hT
    refine pm_ald d_X8_image_25 rfl ?_
    refine ps_getR (q := 83) d_X8_image_26 at_0 f_0_0_14 rfl ?_
    refine pm_ild d_X8_image_29 rfl ?_
    obtain ⟨b9, hT⟩ := ps_gd hK
    replace hK := hT
    clear hT
    obtain ⟨B11, eB11⟩ : ∃ y : Nat, y = (282 + 27 * (p1).toNatClampNeg) := ⟨_, rfl⟩
    refine ps_qald5 (q := B11) d_X8_image_30 at_83 a_6_3 (ps_in_of b9) eB11.symm ?_
    replace hK := ps_ltE eB11 hK
    have hB11 : ps_St B11 := by rw [eB11]; exact ps_Sti _ (ps_in_lt b9)
    refine pm_ald d_X8_image_31 rfl ?_
    refine ps_getR (q := 26) d_X8_image_32 at_0 f_0_0_6 rfl ?_
    refine ps_cVV d_X8_image_35 mv_X6_copyFrom hB11.at0 ob_5_0 rfl (As := [.ref (g.2.2.1 + 26)]) rfl rfl (ps_room.of (by omega) (by decide)) (Nat.le_of_ble_eq_true rfl) (C_X6_copyFrom B11 hB11 26 ps_St26 σ8 _ (ps_bdE hK)) ?_
    intro σ13 hT
    clear hK
    have hK := hT
    clear hT
    refine pm_ald d_X8_image_38 rfl ?_
    refine ps_getR (q := 84) d_X8_image_39 at_0 f_0_0_15 rfl ?_
    refine pm_ild d_X8_image_42 rfl ?_
    refine pm_ki d_X8_image_43 ?_
    obtain ⟨b15, hT⟩ := ps_gd hK
    replace hK := hT
    clear hT
    refine ps_zast d_X8_image_44 at_84 a_6_4 (ps_in_of b15) ?_
    refine ps_nmS (fun σ14 eσ14 => ?_)
    replace hK := ps_ltE eσ14 hK
    refine pm_ki d_X8_image_45 ?_
    have hQ := ps_so hK
    exact ps_iret rfl d_X8_image_46 ⟨_, rfl, hQ⟩
  · replace hK := ps_ifT c3 hK
    refine pm_ki d_X8_image_9 ?_
    have hQ := ps_so hK
    exact ps_iret rfl d_X8_image_11 ⟨_, rfl, hQ⟩
def qX8_canTellSpeed (p1 : Int32) (p2 : Int32) (σ : ps_S) : Option (Int32 × ps_S) :=
  ps_bd (qX8_isDevice p1 σ) (fun v1 σ2 =>
  if v1 = 0 then
  some (0, σ2)
  else
  ps_bd (qX8_isWithin p2 0 999 σ2) (fun v4 σ5 =>
  if v4 = 0 then
  some (0, σ5)
  else
  some (1, σ5)))
set_option maxRecDepth 100000 in
theorem C_X8_canTellSpeed {g : pm_G} (p1 : Int32) (p2 : Int32) (σ : ps_S) (P : Int32 → ps_S → Prop) (hK : ps_ok (qX8_canTellSpeed p1 p2 σ) P) : ps_C g mX8_canTellSpeed 2 [.ref (g.2.2.1 + 0), .int p1, .int p2] σ (ps_qI P) := by
  unfold qX8_canTellSpeed at hK
  refine ps_C.of (ls := [some (.ref (g.2.2.1 + 0)), some (.int p1), some (.int p2)]) 0 (by decide) rfl (Nat.le_of_ble_eq_true rfl) rfl ?_
  refine pm_ald d_X8_canTellSpeed_0 rfl ?_
  refine pm_ild d_X8_canTellSpeed_1 rfl ?_
  refine ps_cVI d_X8_canTellSpeed_2 mv_X8_isDevice at_0 ob_0_0 rfl (As := [.int p1]) rfl rfl (ps_room.of (by omega) (by decide)) (Nat.le_of_ble_eq_true rfl) (C_X8_isDevice p1 σ _ (ps_bdE hK)) ?_
  intro v1 σ2 hT
  clear hK
  have hK := hT
  clear hT
  refine pm_if_eq d_X8_canTellSpeed_5 (fun c3 => ?_) (fun c3 => ?_)
  · replace hK := ps_ifT c3 hK
    refine pm_ki d_X8_canTellSpeed_23 ?_
    have hQ := ps_so hK
    exact ps_zret rfl rfl d_X8_canTellSpeed_24 ⟨_, rfl, hQ⟩
  · replace hK := ps_ifF c3 hK
    refine pm_ild d_X8_canTellSpeed_8 rfl ?_
    refine pm_ki d_X8_canTellSpeed_9 ?_
    refine pm_ki d_X8_canTellSpeed_10 ?_
    refine ps_cSI d_X8_canTellSpeed_13 ms_X8_isWithin (As := [.int p2, .int 0, .int 999]) rfl rfl (ps_room.of (by omega) (by decide)) (Nat.le_of_ble_eq_true rfl) (C_X8_isWithin p2 0 999 σ2 _ (ps_bdE hK)) ?_
    intro v4 σ5 hT
    clear hK
    have hK := hT
    clear hT
    refine pm_if_eq d_X8_canTellSpeed_16 (fun c6 => ?_) (fun c6 => ?_)
    · replace hK := ps_ifT c6 hK
      refine pm_ki d_X8_canTellSpeed_23 ?_
      have hQ := ps_so hK
      exact ps_zret rfl rfl d_X8_canTellSpeed_24 ⟨_, rfl, hQ⟩
    · replace hK := ps_ifF c6 hK
      refine pm_ki d_X8_canTellSpeed_19 ?_
      refine pm_goto d_X8_canTellSpeed_20 ?_
      have hQ := ps_so hK
      exact ps_zret rfl rfl d_X8_canTellSpeed_24 ⟨_, rfl, hQ⟩
def qX8_canTellWants (p1 : Int32) (p2 : Int32) (σ : ps_S) : Option (Int32 × ps_S) :=
  ps_bd (qX8_isWriter p1 σ) (fun v1 σ2 =>
  if v1 = 0 then
  some (0, σ2)
  else
  ps_bd (qX8_isWithin p2 0 99 σ2) (fun v4 σ5 =>
  if v4 = 0 then
  some (0, σ5)
  else
  some (1, σ5)))
set_option maxRecDepth 100000 in
theorem C_X8_canTellWants {g : pm_G} (p1 : Int32) (p2 : Int32) (σ : ps_S) (P : Int32 → ps_S → Prop) (hK : ps_ok (qX8_canTellWants p1 p2 σ) P) : ps_C g mX8_canTellWants 2 [.ref (g.2.2.1 + 0), .int p1, .int p2] σ (ps_qI P) := by
  unfold qX8_canTellWants at hK
  refine ps_C.of (ls := [some (.ref (g.2.2.1 + 0)), some (.int p1), some (.int p2)]) 0 (by decide) rfl (Nat.le_of_ble_eq_true rfl) rfl ?_
  refine pm_ald d_X8_canTellWants_0 rfl ?_
  refine pm_ild d_X8_canTellWants_1 rfl ?_
  refine ps_cVI d_X8_canTellWants_2 mv_X8_isWriter at_0 ob_0_0 rfl (As := [.int p1]) rfl rfl (ps_room.of (by omega) (by decide)) (Nat.le_of_ble_eq_true rfl) (C_X8_isWriter p1 σ _ (ps_bdE hK)) ?_
  intro v1 σ2 hT
  clear hK
  have hK := hT
  clear hT
  refine pm_if_eq d_X8_canTellWants_5 (fun c3 => ?_) (fun c3 => ?_)
  · replace hK := ps_ifT c3 hK
    refine pm_ki d_X8_canTellWants_22 ?_
    have hQ := ps_so hK
    exact ps_zret rfl rfl d_X8_canTellWants_23 ⟨_, rfl, hQ⟩
  · replace hK := ps_ifF c3 hK
    refine pm_ild d_X8_canTellWants_8 rfl ?_
    refine pm_ki d_X8_canTellWants_9 ?_
    refine pm_ki d_X8_canTellWants_10 ?_
    refine ps_cSI d_X8_canTellWants_12 ms_X8_isWithin (As := [.int p2, .int 0, .int 99]) rfl rfl (ps_room.of (by omega) (by decide)) (Nat.le_of_ble_eq_true rfl) (C_X8_isWithin p2 0 99 σ2 _ (ps_bdE hK)) ?_
    intro v4 σ5 hT
    clear hK
    have hK := hT
    clear hT
    refine pm_if_eq d_X8_canTellWants_15 (fun c6 => ?_) (fun c6 => ?_)
    · replace hK := ps_ifT c6 hK
      refine pm_ki d_X8_canTellWants_22 ?_
      have hQ := ps_so hK
      exact ps_zret rfl rfl d_X8_canTellWants_23 ⟨_, rfl, hQ⟩
    · replace hK := ps_ifF c6 hK
      refine pm_ki d_X8_canTellWants_18 ?_
      refine pm_goto d_X8_canTellWants_19 ?_
      have hQ := ps_so hK
      exact ps_zret rfl rfl d_X8_canTellWants_23 ⟨_, rfl, hQ⟩
