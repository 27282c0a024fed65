def qX9_readSum_5 (rec : Nat → Int32 → ps_S → Option (Unit × ps_S))  (y1 : Int32) : Nat → ps_S → Option (((Unit)) × ps_S)
  | 0, _ => none
  | n + 1, σ =>
    ps_bd (qX9_is 32 σ) (fun v3 σ4 =>
    if v3 = 0 then
    ps_bd (qX9_is 33 σ4) (fun v20 σ21 =>
    if v20 = 0 then
    some ((), σ21)
    else
    ps_let (σ21.1 327 10) fun v23 =>
    if v23 = 32 then
    ps_bd (qX9_steps σ21) (fun _ σ32 =>
    ps_bd (rec 1 y1 σ32) (fun _ σ34 =>
    ps_bd (qX9_codes 3000 σ34) (fun _ σ36 =>
    qX9_readSum_5 rec y1 n σ36)))
    else
    ps_bd (qX9_steps σ21) (fun _ σ26 =>
    ps_bd (rec 1 y1 σ26) (fun _ σ28 =>
    ps_bd (qX9_codes 3001 σ28) (fun _ σ30 =>
    qX9_readSum_5 rec y1 n σ30))))
    else
    ps_let (σ4.1 327 10) fun v6 =>
    if v6 = 32 then
    ps_bd (qX9_steps σ4) (fun _ σ15 =>
    ps_bd (rec 1 y1 σ15) (fun _ σ17 =>
    ps_bd (qX9_codes 3000 σ17) (fun _ σ19 =>
    qX9_readSum_5 rec y1 n σ19)))
    else
    ps_bd (qX9_steps σ4) (fun _ σ9 =>
    ps_bd (rec 1 y1 σ9) (fun _ σ11 =>
    ps_bd (qX9_codes 3001 σ11) (fun _ σ13 =>
    qX9_readSum_5 rec y1 n σ13))))
set_option maxRecDepth 100000 in
theorem L_X9_readSum_5 {g : pm_G} (D : Nat) (hD : 8 ≤ D) {P : Unit → ps_S → Prop} (rec : Nat → Int32 → ps_S → Option (Unit × ps_S)) (D0 : Nat) (hD0 : D0 < D) (hrec_X9_readSum : ∀ (p1 : Int32) (σ : ps_S) (P : Unit → ps_S → Prop), ps_ok (rec 0 p1 σ) P → ps_C g mX9_readSum D0 [.ref (g.2.2.1 + 327), .int p1] σ (ps_qV P)) (hrec_X9_readTerm : ∀ (p1 : Int32) (σ : ps_S) (P : Unit → ps_S → Prop), ps_ok (rec 1 p1 σ) P → ps_C g mX9_readTerm D0 [.ref (g.2.2.1 + 327), .int p1] σ (ps_qV P)) (hrec_X9_readAtom : ∀ (p1 : Int32) (σ : ps_S) (P : Unit → ps_S → Prop), ps_ok (rec 2 p1 σ) P → ps_C g mX9_readAtom D0 [.ref (g.2.2.1 + 327), .int p1] σ (ps_qV P)) (hrec_X9_readIf : ∀ (p1 : Int32) (σ : ps_S) (P : Unit → ps_S → Prop), ps_ok (rec 3 p1 σ) P → ps_C g mX9_readIf D0 [.ref (g.2.2.1 + 327), .int p1] σ (ps_qV P)) (hrec_X9_readTruth : ∀ (p1 : Int32) (σ : ps_S) (P : Unit → ps_S → Prop), ps_ok (rec 4 p1 σ) P → ps_C g mX9_readTruth D0 [.ref (g.2.2.1 + 327), .int p1] σ (ps_qV P)) (hrec_X9_readBoth : ∀ (p1 : Int32) (σ : ps_S) (P : Unit → ps_S → Prop), ps_ok (rec 5 p1 σ) P → ps_C g mX9_readBoth D0 [.ref (g.2.2.1 + 327), .int p1] σ (ps_qV P)) (hrec_X9_readUnit : ∀ (p1 : Int32) (σ : ps_S) (P : Unit → ps_S → Prop), ps_ok (rec 6 p1 σ) P → ps_C g mX9_readUnit D0 [.ref (g.2.2.1 + 327), .int p1] σ (ps_qV P))  (y1 : Int32) : ∀ (n : Nat) (σ : ps_S), ps_ok (qX9_readSum_5 rec y1 n σ) (fun res σ => match res with | _ => pm_W g mX9_readSum (ps_F g D (ps_qV P)) 0 0 59 [some (.ref (g.2.2.1 + 327)), some (.int y1), none] [] 345 (ps_E g σ)) → pm_W g mX9_readSum (ps_F g D (ps_qV P)) 0 0 5 [some (.ref (g.2.2.1 + 327)), some (.int y1), none] [] 345 (ps_E g σ) := by
  intro n
  induction n with
  | zero => intro σ hK; exact (ps_no hK).elim
  | succ n ih =>
    intro σ hK
    rw [qX9_readSum_5] at hK
    refine pm_ald d_X9_readSum_5 rfl ?_
    refine pm_ki d_X9_readSum_6 ?_
    refine ps_cVI d_X9_readSum_8 mv_X9_is at_327 ob_8_0 rfl (As := [.int 32]) rfl rfl (ps_room.of (by omega) (by decide)) (Nat.le_of_ble_eq_true rfl) (C_X9_is 32 σ _ (ps_bdE hK)) ?_
    intro v3 σ4 hT
    clear hK
    have hK := hT
    clear hT
    refine pm_if_ne d_X9_readSum_11 (fun c5 => ?_) (fun c5 => ?_)
    · replace hK := ps_ifF c5 hK
      refine pm_ald d_X9_readSum_23 rfl ?_
      refine ps_getI d_X9_readSum_24 at_327 f_8_0_10 rfl ?_
      refine ps_topI (fun v6 ev6 => ?_)
      replace hK := ps_ltE ev6 hK
      refine pm_ki d_X9_readSum_27 ?_
      refine pm_icmp_ne d_X9_readSum_29 (fun c7 => ?_) (fun c7 => ?_)
      · replace hK := ps_ifF c7 hK
        refine pm_ki d_X9_readSum_38 ?_
        refine pm_ist2 d_X9_readSum_41 rfl (by decide) ?_
        refine pm_ald d_X9_readSum_42 rfl ?_
        refine ps_cVV d_X9_readSum_43 mv_X9_steps at_327 ob_8_0 rfl (As := []) rfl rfl (ps_room.of (by omega) (by decide)) (Nat.le_of_ble_eq_true rfl) (C_X9_steps σ4 _ (ps_bdE hK)) ?_
        intro σ9 hT
        clear hK
        have hK := hT
        clear hT
        refine pm_ald d_X9_readSum_46 rfl ?_
        refine pm_ild d_X9_readSum_47 rfl ?_
        refine ps_cVV d_X9_readSum_48 mv_X9_readTerm at_327 ob_8_0 rfl (As := [.int y1]) rfl rfl (ps_room.of (by omega) (by decide)) (Nat.le_of_ble_eq_true rfl) (hrec_X9_readTerm y1 σ9 _ (ps_bdE hK)) ?_
        intro σ11 hT
        clear hK
        have hK := hT
        clear hT
        refine pm_ald d_X9_readSum_51 rfl ?_
        refine pm_ild d_X9_readSum_52 rfl ?_
        refine ps_cVV d_X9_readSum_53 mv_X9_codes at_327 ob_8_0 rfl (As := [.int 3001]) rfl rfl (ps_room.of (by omega) (by decide)) (Nat.le_of_ble_eq_true rfl) (C_X9_codes 3001 σ11 _ (ps_bdE hK)) ?_
        intro σ13 hT
        clear hK
        have hK := hT
        clear hT
        refine pm_goto d_X9_readSum_56 ?_
        refine pm_wk (ls' := [some (.ref (g.2.2.1 + 327)), some (.int y1), none]) ⟨rfl, ⟨rfl, trivial⟩⟩ ?_
        exact ih _ hK
      · replace hK := ps_ifT c7 hK
        refine pm_ki d_X9_readSum_32 ?_
        refine pm_goto d_X9_readSum_35 ?_
        refine pm_ist2 d_X9_readSum_41 rfl (by decide) ?_
        refine pm_ald d_X9_readSum_42 rfl ?_
        refine ps_cVV d_X9_readSum_43 mv_X9_steps at_327 ob_8_0 rfl (As := []) rfl rfl (ps_room.of (by omega) (by decide)) (Nat.le_of_ble_eq_true rfl) (C_X9_steps σ4 _ (ps_bdE hK)) ?_
        intro σ15 hT
        clear hK
        have hK := hT
        clear hT
        refine pm_ald d_X9_readSum_46 rfl ?_
        refine pm_ild d_X9_readSum_47 rfl ?_
        refine ps_cVV d_X9_readSum_48 mv_X9_readTerm at_327 ob_8_0 rfl (As := [.int y1]) rfl rfl (ps_room.of (by omega) (by decide)) (Nat.le_of_ble_eq_true rfl) (hrec_X9_readTerm y1 σ15 _ (ps_bdE hK)) ?_
        intro σ17 hT
        clear hK
        have hK := hT
        clear hT
        refine pm_ald d_X9_readSum_51 rfl ?_
        refine pm_ild d_X9_readSum_52 rfl ?_
        refine ps_cVV d_X9_readSum_53 mv_X9_codes at_327 ob_8_0 rfl (As := [.int 3000]) rfl rfl (ps_room.of (by omega) (by decide)) (Nat.le_of_ble_eq_true rfl) (C_X9_codes 3000 σ17 _ (ps_bdE hK)) ?_
        intro σ19 hT
        clear hK
        have hK := hT
        clear hT
        refine pm_goto d_X9_readSum_56 ?_
        refine pm_wk (ls' := [some (.ref (g.2.2.1 + 327)), some (.int y1), none]) ⟨rfl, ⟨rfl, trivial⟩⟩ ?_
        exact ih _ hK
    · replace hK := ps_ifT c5 hK
      refine pm_ald d_X9_readSum_14 rfl ?_
      refine pm_ki d_X9_readSum_15 ?_
      refine ps_cVI d_X9_readSum_17 mv_X9_is at_327 ob_8_0 rfl (As := [.int 33]) rfl rfl (ps_room.of (by omega) (by decide)) (Nat.le_of_ble_eq_true rfl) (C_X9_is 33 σ4 _ (ps_bdE hK)) ?_
      intro v20 σ21 hT
      clear hK
      have hK := hT
      clear hT
      refine pm_if_eq d_X9_readSum_20 (fun c22 => ?_) (fun c22 => ?_)
      · replace hK := ps_ifT c22 hK
        exact ps_so hK
      · replace hK := ps_ifF c22 hK
        refine pm_ald d_X9_readSum_23 rfl ?_
        refine ps_getI d_X9_readSum_24 at_327 f_8_0_10 rfl ?_
        refine ps_topI (fun v23 ev23 => ?_)
        replace hK := ps_ltE ev23 hK
        refine pm_ki d_X9_readSum_27 ?_
        refine pm_icmp_ne d_X9_readSum_29 (fun c24 => ?_) (fun c24 => ?_)
        · replace hK := ps_ifF c24 hK
          refine pm_ki d_X9_readSum_38 ?_
          refine pm_ist2 d_X9_readSum_41 rfl (by decide) ?_
          refine pm_ald d_X9_readSum_42 rfl ?_
          refine ps_cVV d_X9_readSum_43 mv_X9_steps at_327 ob_8_0 rfl (As := []) rfl rfl (ps_room.of (by omega) (by decide)) (Nat.le_of_ble_eq_true rfl) (C_X9_steps σ21 _ (ps_bdE hK)) ?_
          intro σ26 hT
          clear hK
          have hK := hT
          clear hT
          refine pm_ald d_X9_readSum_46 rfl ?_
          refine pm_ild d_X9_readSum_47 rfl ?_
          refine ps_cVV d_X9_readSum_48 mv_X9_readTerm at_327 ob_8_0 rfl (As := [.int y1]) rfl rfl (ps_room.of (by omega) (by decide)) (Nat.le_of_ble_eq_true rfl) (hrec_X9_readTerm y1 σ26 _ (ps_bdE hK)) ?_
          intro σ28 hT
          clear hK
          have hK := hT
          clear hT
          refine pm_ald d_X9_readSum_51 rfl ?_
          refine pm_ild d_X9_readSum_52 rfl ?_
          refine ps_cVV d_X9_readSum_53 mv_X9_codes at_327 ob_8_0 rfl (As := [.int 3001]) rfl rfl (ps_room.of (by omega) (by decide)) (Nat.le_of_ble_eq_true rfl) (C_X9_codes 3001 σ28 _ (ps_bdE hK)) ?_
          intro σ30 hT
          clear hK
          have hK := hT
          clear hT
          refine pm_goto d_X9_readSum_56 ?_
          refine pm_wk (ls' := [some (.ref (g.2.2.1 + 327)), some (.int y1), none]) ⟨rfl, ⟨rfl, trivial⟩⟩ ?_
          exact ih _ hK
        · replace hK := ps_ifT c24 hK
          refine pm_ki d_X9_readSum_32 ?_
          refine pm_goto d_X9_readSum_35 ?_
          refine pm_ist2 d_X9_readSum_41 rfl (by decide) ?_
          refine pm_ald d_X9_readSum_42 rfl ?_
          refine ps_cVV d_X9_readSum_43 mv_X9_steps at_327 ob_8_0 rfl (As := []) rfl rfl (ps_room.of (by omega) (by decide)) (Nat.le_of_ble_eq_true rfl) (C_X9_steps σ21 _ (ps_bdE hK)) ?_
          intro σ32 hT
          clear hK
          have hK := hT
          clear hT
          refine pm_ald d_X9_readSum_46 rfl ?_
          refine pm_ild d_X9_readSum_47 rfl ?_
          refine ps_cVV d_X9_readSum_48 mv_X9_readTerm at_327 ob_8_0 rfl (As := [.int y1]) rfl rfl (ps_room.of (by omega) (by decide)) (Nat.le_of_ble_eq_true rfl) (hrec_X9_readTerm y1 σ32 _ (ps_bdE hK)) ?_
          intro σ34 hT
          clear hK
          have hK := hT
          clear hT
          refine pm_ald d_X9_readSum_51 rfl ?_
          refine pm_ild d_X9_readSum_52 rfl ?_
          refine ps_cVV d_X9_readSum_53 mv_X9_codes at_327 ob_8_0 rfl (As := [.int 3000]) rfl rfl (ps_room.of (by omega) (by decide)) (Nat.le_of_ble_eq_true rfl) (C_X9_codes 3000 σ34 _ (ps_bdE hK)) ?_
          intro σ36 hT
          clear hK
          have hK := hT
          clear hT
          refine pm_goto d_X9_readSum_56 ?_
          refine pm_wk (ls' := [some (.ref (g.2.2.1 + 327)), some (.int y1), none]) ⟨rfl, ⟨rfl, trivial⟩⟩ ?_
          exact ih _ hK
def bX9_readSum (rec : Nat → Int32 → ps_S → Option (Unit × ps_S)) (p1 : Int32) (σ : ps_S) : Option (Unit × ps_S) :=
  ps_bd (rec 1 p1 σ) (fun _ σ2 =>
  ps_bd (qX9_readSum_5 rec p1 ps_N σ2) (fun res σ37 => match res with
  | _ =>
    some ((), σ37)))
set_option maxRecDepth 100000 in
theorem B_X9_readSum {g : pm_G} (D : Nat) (hD : 8 ≤ D) (rec : Nat → Int32 → ps_S → Option (Unit × ps_S)) (D0 : Nat) (hD0 : D0 < D) (hrec_X9_readSum : ∀ (p1 : Int32) (σ : ps_S) (P : Unit → ps_S → Prop), ps_ok (rec 0 p1 σ) P → ps_C g mX9_readSum D0 [.ref (g.2.2.1 + 327), .int p1] σ (ps_qV P)) (hrec_X9_readTerm : ∀ (p1 : Int32) (σ : ps_S) (P : Unit → ps_S → Prop), ps_ok (rec 1 p1 σ) P → ps_C g mX9_readTerm D0 [.ref (g.2.2.1 + 327), .int p1] σ (ps_qV P)) (hrec_X9_readAtom : ∀ (p1 : Int32) (σ : ps_S) (P : Unit → ps_S → Prop), ps_ok (rec 2 p1 σ) P → ps_C g mX9_readAtom D0 [.ref (g.2.2.1 + 327), .int p1] σ (ps_qV P)) (hrec_X9_readIf : ∀ (p1 : Int32) (σ : ps_S) (P : Unit → ps_S → Prop), ps_ok (rec 3 p1 σ) P → ps_C g mX9_readIf D0 [.ref (g.2.2.1 + 327), .int p1] σ (ps_qV P)) (hrec_X9_readTruth : ∀ (p1 : Int32) (σ : ps_S) (P : Unit → ps_S → Prop), ps_ok (rec 4 p1 σ) P → ps_C g mX9_readTruth D0 [.ref (g.2.2.1 + 327), .int p1] σ (ps_qV P)) (hrec_X9_readBoth : ∀ (p1 : Int32) (σ : ps_S) (P : Unit → ps_S → Prop), ps_ok (rec 5 p1 σ) P → ps_C g mX9_readBoth D0 [.ref (g.2.2.1 + 327), .int p1] σ (ps_qV P)) (hrec_X9_readUnit : ∀ (p1 : Int32) (σ : ps_S) (P : Unit → ps_S → Prop), ps_ok (rec 6 p1 σ) P → ps_C g mX9_readUnit D0 [.ref (g.2.2.1 + 327), .int p1] σ (ps_qV P)) (p1 : Int32) (σ : ps_S) (P : Unit → ps_S → Prop) (hK : ps_ok (bX9_readSum rec p1 σ) P) : ps_C g mX9_readSum D [.ref (g.2.2.1 + 327), .int p1] σ (ps_qV P) := by
  unfold bX9_readSum at hK
  refine ps_C.of (ls := [some (.ref (g.2.2.1 + 327)), some (.int p1), none]) 1 (by decide) rfl (Nat.le_of_ble_eq_true rfl) rfl ?_
  refine pm_ald d_X9_readSum_0 rfl ?_
  refine pm_ild d_X9_readSum_1 rfl ?_
  refine ps_cVV d_X9_readSum_2 mv_X9_readTerm at_327 ob_8_0 rfl (As := [.int p1]) rfl rfl (ps_room.of (by omega) (by decide)) (Nat.le_of_ble_eq_true rfl) (hrec_X9_readTerm p1 σ _ (ps_bdE hK)) ?_
  intro σ2 hT
  clear hK
  have hK := hT
  clear hT
  refine L_X9_readSum_5 D hD rec D0 hD0 hrec_X9_readSum hrec_X9_readTerm hrec_X9_readAtom hrec_X9_readIf hrec_X9_readTruth hrec_X9_readBoth hrec_X9_readUnit p1 _ _ (ps_ok.mono (ps_bdE hK) ?_)
  rintro _ σ37 hT
  clear hK
  have hK := hT
  clear hT
  have hQ := ps_so hK
  exact ps_vret rfl d_X9_readSum_59 ⟨rfl, hQ⟩
def qX9_readTerm_5 (rec : Nat → Int32 → ps_S → Option (Unit × ps_S))  (y1 : Int32) : Nat → ps_S → Option (((Unit)) × ps_S)
  | 0, _ => none
  | n + 1, σ =>
    ps_bd (qX9_eats 34 σ) (fun v3 σ4 =>
    if v3 = 0 then
    some ((), σ4)
    else
    ps_bd (rec 2 y1 σ4) (fun _ σ7 =>
    ps_bd (qX9_codes 3002 σ7) (fun _ σ9 =>
    qX9_readTerm_5 rec y1 n σ9)))
set_option maxRecDepth 100000 in
theorem L_X9_readTerm_5 {g : pm_G} (D : Nat) (hD : 8 ≤ D) {P : Unit → ps_S → Prop} (rec : Nat → Int32 → ps_S → Option (Unit × ps_S)) (D0 : Nat) (hD0 : D0 < D) (hrec_X9_readSum : ∀ (p1 : Int32) (σ : ps_S) (P : Unit → ps_S → Prop), ps_ok (rec 0 p1 σ) P → ps_C g mX9_readSum D0 [.ref (g.2.2.1 + 327), .int p1] σ (ps_qV P)) (hrec_X9_readTerm : ∀ (p1 : Int32) (σ : ps_S) (P : Unit → ps_S → Prop), ps_ok (rec 1 p1 σ) P → ps_C g mX9_readTerm D0 [.ref (g.2.2.1 + 327), .int p1] σ (ps_qV P)) (hrec_X9_readAtom : ∀ (p1 : Int32) (σ : ps_S) (P : Unit → ps_S → Prop), ps_ok (rec 2 p1 σ) P → ps_C g mX9_readAtom D0 [.ref (g.2.2.1 + 327), .int p1] σ (ps_qV P)) (hrec_X9_readIf : ∀ (p1 : Int32) (σ : ps_S) (P : Unit → ps_S → Prop), ps_ok (rec 3 p1 σ) P → ps_C g mX9_readIf D0 [.ref (g.2.2.1 + 327), .int p1] σ (ps_qV P)) (hrec_X9_readTruth : ∀ (p1 : Int32) (σ : ps_S) (P : Unit → ps_S → Prop), ps_ok (rec 4 p1 σ) P → ps_C g mX9_readTruth D0 [.ref (g.2.2.1 + 327), .int p1] σ (ps_qV P)) (hrec_X9_readBoth : ∀ (p1 : Int32) (σ : ps_S) (P : Unit → ps_S → Prop), ps_ok (rec 5 p1 σ) P → ps_C g mX9_readBoth D0 [.ref (g.2.2.1 + 327), .int p1] σ (ps_qV P)) (hrec_X9_readUnit : ∀ (p1 : Int32) (σ : ps_S) (P : Unit → ps_S → Prop), ps_ok (rec 6 p1 σ) P → ps_C g mX9_readUnit D0 [.ref (g.2.2.1 + 327), .int p1] σ (ps_qV P))  (y1 : Int32) : ∀ (n : Nat) (σ : ps_S), ps_ok (qX9_readTerm_5 rec y1 n σ) (fun res σ => match res with | _ => pm_W g mX9_readTerm (ps_F g D (ps_qV P)) 0 0 29 [some (.ref (g.2.2.1 + 327)), some (.int y1)] [] 345 (ps_E g σ)) → pm_W g mX9_readTerm (ps_F g D (ps_qV P)) 0 0 5 [some (.ref (g.2.2.1 + 327)), some (.int y1)] [] 345 (ps_E g σ) := by
  intro n
  induction n with
  | zero => intro σ hK; exact (ps_no hK).elim
  | succ n ih =>
    intro σ hK
    rw [qX9_readTerm_5] at hK
    refine pm_ald d_X9_readTerm_5 rfl ?_
    refine pm_ki d_X9_readTerm_6 ?_
    refine ps_cVI d_X9_readTerm_8 mv_X9_eats at_327 ob_8_0 rfl (As := [.int 34]) rfl rfl (ps_room.of (by omega) (by decide)) (Nat.le_of_ble_eq_true rfl) (C_X9_eats 34 σ _ (ps_bdE hK)) ?_
    intro v3 σ4 hT
    clear hK
    have hK := hT
    clear hT
    refine pm_if_eq d_X9_readTerm_11 (fun c5 => ?_) (fun c5 => ?_)
    · replace hK := ps_ifT c5 hK
      exact ps_so hK
    · replace hK := ps_ifF c5 hK
      refine pm_ald d_X9_readTerm_14 rfl ?_
      refine pm_ild d_X9_readTerm_15 rfl ?_
      refine ps_cVV d_X9_readTerm_16 mv_X9_readAtom at_327 ob_8_0 rfl (As := [.int y1]) rfl rfl (ps_room.of (by omega) (by decide)) (Nat.le_of_ble_eq_true rfl) (hrec_X9_readAtom y1 σ4 _ (ps_bdE hK)) ?_
      intro σ7 hT
      clear hK
      have hK := hT
      clear hT
      refine pm_ald d_X9_readTerm_19 rfl ?_
      refine pm_ki d_X9_readTerm_20 ?_
      refine ps_cVV d_X9_readTerm_23 mv_X9_codes at_327 ob_8_0 rfl (As := [.int 3002]) rfl rfl (ps_room.of (by omega) (by decide)) (Nat.le_of_ble_eq_true rfl) (C_X9_codes 3002 σ7 _ (ps_bdE hK)) ?_
      intro σ9 hT
      clear hK
      have hK := hT
      clear hT
      refine pm_goto d_X9_readTerm_26 ?_
      exact ih _ hK
def bX9_readTerm (rec : Nat → Int32 → ps_S → Option (Unit × ps_S)) (p1 : Int32) (σ : ps_S) : Option (Unit × ps_S) :=
  ps_bd (rec 2 p1 σ) (fun _ σ2 =>
  ps_bd (qX9_readTerm_5 rec p1 ps_N σ2) (fun res σ10 => match res with
  | _ =>
    some ((), σ10)))
set_option maxRecDepth 100000 in
theorem B_X9_readTerm {g : pm_G} (D : Nat) (hD : 8 ≤ D) (rec : Nat → Int32 → ps_S → Option (Unit × ps_S)) (D0 : Nat) (hD0 : D0 < D) (hrec_X9_readSum : ∀ (p1 : Int32) (σ : ps_S) (P : Unit → ps_S → Prop), ps_ok (rec 0 p1 σ) P → ps_C g mX9_readSum D0 [.ref (g.2.2.1 + 327), .int p1] σ (ps_qV P)) (hrec_X9_readTerm : ∀ (p1 : Int32) (σ : ps_S) (P : Unit → ps_S → Prop), ps_ok (rec 1 p1 σ) P → ps_C g mX9_readTerm D0 [.ref (g.2.2.1 + 327), .int p1] σ (ps_qV P)) (hrec_X9_readAtom : ∀ (p1 : Int32) (σ : ps_S) (P : Unit → ps_S → Prop), ps_ok (rec 2 p1 σ) P → ps_C g mX9_readAtom D0 [.ref (g.2.2.1 + 327), .int p1] σ (ps_qV P)) (hrec_X9_readIf : ∀ (p1 : Int32) (σ : ps_S) (P : Unit → ps_S → Prop), ps_ok (rec 3 p1 σ) P → ps_C g mX9_readIf D0 [.ref (g.2.2.1 + 327), .int p1] σ (ps_qV P)) (hrec_X9_readTruth : ∀ (p1 : Int32) (σ : ps_S) (P : Unit → ps_S → Prop), ps_ok (rec 4 p1 σ) P → ps_C g mX9_readTruth D0 [.ref (g.2.2.1 + 327), .int p1] σ (ps_qV P)) (hrec_X9_readBoth : ∀ (p1 : Int32) (σ : ps_S) (P : Unit → ps_S → Prop), ps_ok (rec 5 p1 σ) P → ps_C g mX9_readBoth D0 [.ref (g.2.2.1 + 327), .int p1] σ (ps_qV P)) (hrec_X9_readUnit : ∀ (p1 : Int32) (σ : ps_S) (P : Unit → ps_S → Prop), ps_ok (rec 6 p1 σ) P → ps_C g mX9_readUnit D0 [.ref (g.2.2.1 + 327), .int p1] σ (ps_qV P)) (p1 : Int32) (σ : ps_S) (P : Unit → ps_S → Prop) (hK : ps_ok (bX9_readTerm rec p1 σ) P) : ps_C g mX9_readTerm D [.ref (g.2.2.1 + 327), .int p1] σ (ps_qV P) := by
  unfold bX9_readTerm at hK
  refine ps_C.of (ls := [some (.ref (g.2.2.1 + 327)), some (.int p1)]) 0 (by decide) rfl (Nat.le_of_ble_eq_true rfl) rfl ?_
  refine pm_ald d_X9_readTerm_0 rfl ?_
  refine pm_ild d_X9_readTerm_1 rfl ?_
  refine ps_cVV d_X9_readTerm_2 mv_X9_readAtom at_327 ob_8_0 rfl (As := [.int p1]) rfl rfl (ps_room.of (by omega) (by decide)) (Nat.le_of_ble_eq_true rfl) (hrec_X9_readAtom p1 σ _ (ps_bdE hK)) ?_
  intro σ2 hT
  clear hK
  have hK := hT
  clear hT
  refine L_X9_readTerm_5 D hD rec D0 hD0 hrec_X9_readSum hrec_X9_readTerm hrec_X9_readAtom hrec_X9_readIf hrec_X9_readTruth hrec_X9_readBoth hrec_X9_readUnit p1 _ _ (ps_ok.mono (ps_bdE hK) ?_)
  rintro _ σ10 hT
  clear hK
  have hK := hT
  clear hT
  have hQ := ps_so hK
  exact ps_vret rfl d_X9_readTerm_29 ⟨rfl, hQ⟩
def bX9_readAtom (rec : Nat → Int32 → ps_S → Option (Unit × ps_S)) (p1 : Int32) (σ : ps_S) : Option (Unit × ps_S) :=
  ps_bd (qX9_is 25 σ) (fun v1 σ2 =>
  if v1 = 0 then
  ps_let (σ2.1 327 12) fun v4 =>
  if v4 = 0 then
  ps_let (σ2.1 327 10) fun v26 =>
  ps_bd (qX9_wordOf v26 σ2) (fun v27 σ28 =>
  if v27 = ((-1)) then
  ps_bd (qX9_is 35 σ28) (fun v30 σ31 =>
  if v30 = 0 then
  ps_bd (qX9_is 15 σ31) (fun v33 σ34 =>
  if v33 = 0 then
  ps_bd (qX9_fails 2 σ34) (fun _ σ37 =>
  some ((), σ37))
  else
  ps_bd (rec 3 p1 σ34) (fun _ σ39 =>
  some ((), σ39)))
  else
  ps_bd (qX9_goesIn p1 σ31) (fun v40 σ41 =>
  if v40 = 0 then
  some ((), σ41)
  else
  ps_bd (rec 0 ((p1 + 1)) σ41) (fun _ σ44 =>
  ps_bd (qX9_eats 36 σ44) (fun v45 σ46 =>
  if v45 = 0 then
  ps_bd (qX9_fails 2 σ46) (fun _ σ49 =>
  some ((), σ49))
  else
  some ((), σ46)))))
  else
  ps_let (σ28.1 327 10) fun v50 =>
  ps_bd (qX9_wordOf v50 σ28) (fun v51 σ52 =>
  ps_bd (qX9_codes ((1000 + v51)) σ52) (fun _ σ54 =>
  ps_bd (qX9_steps σ54) (fun _ σ56 =>
  some ((), σ56)))))
  else
  ps_bd (qX9_is 35 σ2) (fun v6 σ7 =>
  if v6 = 0 then
  ps_bd (qX9_is 15 σ7) (fun v9 σ10 =>
  if v9 = 0 then
  ps_bd (qX9_fails 2 σ10) (fun _ σ13 =>
  some ((), σ13))
  else
  ps_bd (rec 3 p1 σ10) (fun _ σ15 =>
  some ((), σ15)))
  else
  ps_bd (qX9_goesIn p1 σ7) (fun v16 σ17 =>
  if v16 = 0 then
  some ((), σ17)
  else
  ps_bd (rec 0 ((p1 + 1)) σ17) (fun _ σ20 =>
  ps_bd (qX9_eats 36 σ20) (fun v21 σ22 =>
  if v21 = 0 then
  ps_bd (qX9_fails 2 σ22) (fun _ σ25 =>
  some ((), σ25))
  else
  some ((), σ22)))))
  else
  ps_let (σ2.1 327 11) fun v57 =>
  ps_bd (qX9_codes v57 σ2) (fun _ σ59 =>
  ps_bd (qX9_steps σ59) (fun _ σ61 =>
  some ((), σ61))))
set_option maxRecDepth 100000 in
theorem B_X9_readAtom {g : pm_G} (D : Nat) (hD : 8 ≤ D) (rec : Nat → Int32 → ps_S → Option (Unit × ps_S)) (D0 : Nat) (hD0 : D0 < D) (hrec_X9_readSum : ∀ (p1 : Int32) (σ : ps_S) (P : Unit → ps_S → Prop), ps_ok (rec 0 p1 σ) P → ps_C g mX9_readSum D0 [.ref (g.2.2.1 + 327), .int p1] σ (ps_qV P)) (hrec_X9_readTerm : ∀ (p1 : Int32) (σ : ps_S) (P : Unit → ps_S → Prop), ps_ok (rec 1 p1 σ) P → ps_C g mX9_readTerm D0 [.ref (g.2.2.1 + 327), .int p1] σ (ps_qV P)) (hrec_X9_readAtom : ∀ (p1 : Int32) (σ : ps_S) (P : Unit → ps_S → Prop), ps_ok (rec 2 p1 σ) P → ps_C g mX9_readAtom D0 [.ref (g.2.2.1 + 327), .int p1] σ (ps_qV P)) (hrec_X9_readIf : ∀ (p1 : Int32) (σ : ps_S) (P : Unit → ps_S → Prop), ps_ok (rec 3 p1 σ) P → ps_C g mX9_readIf D0 [.ref (g.2.2.1 + 327), .int p1] σ (ps_qV P)) (hrec_X9_readTruth : ∀ (p1 : Int32) (σ : ps_S) (P : Unit → ps_S → Prop), ps_ok (rec 4 p1 σ) P → ps_C g mX9_readTruth D0 [.ref (g.2.2.1 + 327), .int p1] σ (ps_qV P)) (hrec_X9_readBoth : ∀ (p1 : Int32) (σ : ps_S) (P : Unit → ps_S → Prop), ps_ok (rec 5 p1 σ) P → ps_C g mX9_readBoth D0 [.ref (g.2.2.1 + 327), .int p1] σ (ps_qV P)) (hrec_X9_readUnit : ∀ (p1 : Int32) (σ : ps_S) (P : Unit → ps_S → Prop), ps_ok (rec 6 p1 σ) P → ps_C g mX9_readUnit D0 [.ref (g.2.2.1 + 327), .int p1] σ (ps_qV P)) (p1 : Int32) (σ : ps_S) (P : Unit → ps_S → Prop) (hK : ps_ok (bX9_readAtom rec p1 σ) P) : ps_C g mX9_readAtom D [.ref (g.2.2.1 + 327), .int p1] σ (ps_qV P) := by
  unfold bX9_readAtom at hK
  refine ps_C.of (ls := [some (.ref (g.2.2.1 + 327)), some (.int p1)]) 0 (by decide) rfl (Nat.le_of_ble_eq_true rfl) rfl ?_
  refine pm_ald d_X9_readAtom_0 rfl ?_
  refine pm_ki d_X9_readAtom_1 ?_
  refine ps_cVI d_X9_readAtom_3 mv_X9_is at_327 ob_8_0 rfl (As := [.int 25]) rfl rfl (ps_room.of (by omega) (by decide)) (Nat.le_of_ble_eq_true rfl) (C_X9_is 25 σ _ (ps_bdE hK)) ?_
  intro v1 σ2 hT
  clear hK
  have hK := hT
  clear hT
  refine pm_if_eq d_X9_readAtom_6 (fun c3 => ?_) (fun c3 => ?_)
  · replace hK := ps_ifT c3 hK
    refine pm_ald d_X9_readAtom_24 rfl ?_
    refine ps_getI d_X9_readAtom_25 at_327 f_8_0_12 rfl ?_
    refine ps_topI (fun v4 ev4 => ?_)
    replace hK := ps_ltE ev4 hK
    refine pm_if_ne d_X9_readAtom_28 (fun c5 => ?_) (fun c5 => ?_)
    · replace hK := ps_ifF c5 hK
      refine pm_ald d_X9_readAtom_66 rfl ?_
      refine pm_ki d_X9_readAtom_67 ?_
      refine ps_cVI d_X9_readAtom_69 mv_X9_is at_327 ob_8_0 rfl (As := [.int 35]) rfl rfl (ps_room.of (by omega) (by decide)) (Nat.le_of_ble_eq_true rfl) (C_X9_is 35 σ2 _ (ps_bdE hK)) ?_
      intro v6 σ7 hT
      clear hK
      have hK := hT
      clear hT
      refine pm_if_eq d_X9_readAtom_72 (fun c8 => ?_) (fun c8 => ?_)
      · replace hK := ps_ifT c8 hK
        refine pm_ald d_X9_readAtom_108 rfl ?_
        refine pm_ki d_X9_readAtom_109 ?_
        refine ps_cVI d_X9_readAtom_111 mv_X9_is at_327 ob_8_0 rfl (As := [.int 15]) rfl rfl (ps_room.of (by omega) (by decide)) (Nat.le_of_ble_eq_true rfl) (C_X9_is 15 σ7 _ (ps_bdE hK)) ?_
        intro v9 σ10 hT
        clear hK
        have hK := hT
        clear hT
        refine pm_if_eq d_X9_readAtom_114 (fun c11 => ?_) (fun c11 => ?_)
        · replace hK := ps_ifT c11 hK
          refine pm_ald d_X9_readAtom_125 rfl ?_
          refine pm_ki d_X9_readAtom_126 ?_
          refine ps_cVV d_X9_readAtom_127 mv_X9_fails at_327 ob_8_0 rfl (As := [.int 2]) rfl rfl (ps_room.of (by omega) (by decide)) (Nat.le_of_ble_eq_true rfl) (C_X9_fails 2 σ10 _ (ps_bdE hK)) ?_
          intro σ13 hT
          clear hK
          have hK := hT
          clear hT
          have hQ := ps_so hK
          exact ps_vret rfl d_X9_readAtom_130 ⟨rfl, hQ⟩
        · replace hK := ps_ifF c11 hK
          refine pm_ald d_X9_readAtom_117 rfl ?_
          refine pm_ild d_X9_readAtom_118 rfl ?_
          refine ps_cVV d_X9_readAtom_119 mv_X9_readIf at_327 ob_8_0 rfl (As := [.int p1]) rfl rfl (ps_room.of (by omega) (by decide)) (Nat.le_of_ble_eq_true rfl) (hrec_X9_readIf p1 σ10 _ (ps_bdE hK)) ?_
          intro σ15 hT
          clear hK
          have hK := hT
          clear hT
          refine pm_goto d_X9_readAtom_122 ?_
          have hQ := ps_so hK
          exact ps_vret rfl d_X9_readAtom_130 ⟨rfl, hQ⟩
      · replace hK := ps_ifF c8 hK
        refine pm_ald d_X9_readAtom_75 rfl ?_
        refine pm_ild d_X9_readAtom_76 rfl ?_
        refine ps_cVI d_X9_readAtom_77 mv_X9_goesIn at_327 ob_8_0 rfl (As := [.int p1]) rfl rfl (ps_room.of (by omega) (by decide)) (Nat.le_of_ble_eq_true rfl) (C_X9_goesIn p1 σ7 _ (ps_bdE hK)) ?_
        intro v16 σ17 hT
        clear hK
        have hK := hT
        clear hT
        refine pm_if_ne d_X9_readAtom_80 (fun c18 => ?_) (fun c18 => ?_)
        · replace hK := ps_ifF c18 hK
          refine pm_ald d_X9_readAtom_84 rfl ?_
          refine pm_ild d_X9_readAtom_85 rfl ?_
          refine pm_ki d_X9_readAtom_86 ?_
          refine pm_iadd d_X9_readAtom_87 ?_
          refine ps_cVV d_X9_readAtom_88 mv_X9_readSum at_327 ob_8_0 rfl (As := [.int (p1 + 1)]) rfl rfl (ps_room.of (by omega) (by decide)) (Nat.le_of_ble_eq_true rfl) (hrec_X9_readSum ((p1 + 1)) σ17 _ (ps_bdE hK)) ?_
          intro σ20 hT
          clear hK
          have hK := hT
          clear hT
          refine pm_ald d_X9_readAtom_91 rfl ?_
          refine pm_ki d_X9_readAtom_92 ?_
          refine ps_cVI d_X9_readAtom_94 mv_X9_eats at_327 ob_8_0 rfl (As := [.int 36]) rfl rfl (ps_room.of (by omega) (by decide)) (Nat.le_of_ble_eq_true rfl) (C_X9_eats 36 σ20 _ (ps_bdE hK)) ?_
          intro v21 σ22 hT
          clear hK
          have hK := hT
          clear hT
          refine pm_if_ne d_X9_readAtom_97 (fun c23 => ?_) (fun c23 => ?_)
          · replace hK := ps_ifF c23 hK
            have hQ := ps_so hK
            exact ps_vret rfl d_X9_readAtom_130 ⟨rfl, hQ⟩
          · replace hK := ps_ifT c23 hK
            refine pm_ald d_X9_readAtom_100 rfl ?_
            refine pm_ki d_X9_readAtom_101 ?_
            refine ps_cVV d_X9_readAtom_102 mv_X9_fails at_327 ob_8_0 rfl (As := [.int 2]) rfl rfl (ps_room.of (by omega) (by decide)) (Nat.le_of_ble_eq_true rfl) (C_X9_fails 2 σ22 _ (ps_bdE hK)) ?_
            intro σ25 hT
            clear hK
            have hK := hT
            clear hT
            refine pm_goto d_X9_readAtom_105 ?_
            have hQ := ps_so hK
            exact ps_vret rfl d_X9_readAtom_130 ⟨rfl, hQ⟩
        · replace hK := ps_ifT c18 hK
          have hQ := ps_so hK
          exact ps_vret rfl d_X9_readAtom_83 ⟨rfl, hQ⟩
    · replace hK := ps_ifT c5 hK
      refine pm_ald d_X9_readAtom_31 rfl ?_
      refine pm_ald d_X9_readAtom_32 rfl ?_
      refine ps_getI d_X9_readAtom_33 at_327 f_8_0_10 rfl ?_
      refine ps_topI (fun v26 ev26 => ?_)
      replace hK := ps_ltE ev26 hK
      refine ps_cVI d_X9_readAtom_36 mv_X9_wordOf at_327 ob_8_0 rfl (As := [.int v26]) rfl rfl (ps_room.of (by omega) (by decide)) (Nat.le_of_ble_eq_true rfl) (C_X9_wordOf v26 σ2 _ (ps_bdE hK)) ?_
      intro v27 σ28 hT
      clear hK
      have hK := hT
      clear hT
      refine pm_ki d_X9_readAtom_39 ?_
      refine pm_icmp_eq d_X9_readAtom_40 (fun c29 => ?_) (fun c29 => ?_)
      · replace hK := ps_ifT c29 hK
        refine pm_ald d_X9_readAtom_66 rfl ?_
        refine pm_ki d_X9_readAtom_67 ?_
        refine ps_cVI d_X9_readAtom_69 mv_X9_is at_327 ob_8_0 rfl (As := [.int 35]) rfl rfl (ps_room.of (by omega) (by decide)) (Nat.le_of_ble_eq_true rfl) (C_X9_is 35 σ28 _ (ps_bdE hK)) ?_
        intro v30 σ31 hT
        clear hK
        have hK := hT
        clear hT
        refine pm_if_eq d_X9_readAtom_72 (fun c32 => ?_) (fun c32 => ?_)
        · replace hK := ps_ifT c32 hK
          refine pm_ald d_X9_readAtom_108 rfl ?_
          refine pm_ki d_X9_readAtom_109 ?_
          refine ps_cVI d_X9_readAtom_111 mv_X9_is at_327 ob_8_0 rfl (As := [.int 15]) rfl rfl (ps_room.of (by omega) (by decide)) (Nat.le_of_ble_eq_true rfl) (C_X9_is 15 σ31 _ (ps_bdE hK)) ?_
          intro v33 σ34 hT
          clear hK
          have hK := hT
          clear hT
          refine pm_if_eq d_X9_readAtom_114 (fun c35 => ?_) (fun c35 => ?_)
          · replace hK := ps_ifT c35 hK
            refine pm_ald d_X9_readAtom_125 rfl ?_
            refine pm_ki d_X9_readAtom_126 ?_
            refine ps_cVV d_X9_readAtom_127 mv_X9_fails at_327 ob_8_0 rfl (As := [.int 2]) rfl rfl (ps_room.of (by omega) (by decide)) (Nat.le_of_ble_eq_true rfl) (C_X9_fails 2 σ34 _ (ps_bdE hK)) ?_
            intro σ37 hT
            clear hK
            have hK := hT
            clear hT
            have hQ := ps_so hK
            exact ps_vret rfl d_X9_readAtom_130 ⟨rfl, hQ⟩
          · replace hK := ps_ifF c35 hK
            refine pm_ald d_X9_readAtom_117 rfl ?_
            refine pm_ild d_X9_readAtom_118 rfl ?_
            refine ps_cVV d_X9_readAtom_119 mv_X9_readIf at_327 ob_8_0 rfl (As := [.int p1]) rfl rfl (ps_room.of (by omega) (by decide)) (Nat.le_of_ble_eq_true rfl) (hrec_X9_readIf p1 σ34 _ (ps_bdE hK)) ?_
            intro σ39 hT
            clear hK
            have hK := hT
            clear hT
            refine pm_goto d_X9_readAtom_122 ?_
            have hQ := ps_so hK
            exact ps_vret rfl d_X9_readAtom_130 ⟨rfl, hQ⟩
        · replace hK := ps_ifF c32 hK
          refine pm_ald d_X9_readAtom_75 rfl ?_
          refine pm_ild d_X9_readAtom_76 rfl ?_
          refine ps_cVI d_X9_readAtom_77 mv_X9_goesIn at_327 ob_8_0 rfl (As := [.int p1]) rfl rfl (ps_room.of (by omega) (by decide)) (Nat.le_of_ble_eq_true rfl) (C_X9_goesIn p1 σ31 _ (ps_bdE hK)) ?_
          intro v40 σ41 hT
          clear hK
          have hK := hT
          clear hT
          refine pm_if_ne d_X9_readAtom_80 (fun c42 => ?_) (fun c42 => ?_)
          · replace hK := ps_ifF c42 hK
            refine pm_ald d_X9_readAtom_84 rfl ?_
            refine pm_ild d_X9_readAtom_85 rfl ?_
            refine pm_ki d_X9_readAtom_86 ?_
            refine pm_iadd d_X9_readAtom_87 ?_
            refine ps_cVV d_X9_readAtom_88 mv_X9_readSum at_327 ob_8_0 rfl (As := [.int (p1 + 1)]) rfl rfl (ps_room.of (by omega) (by decide)) (Nat.le_of_ble_eq_true rfl) (hrec_X9_readSum ((p1 + 1)) σ41 _ (ps_bdE hK)) ?_
            intro σ44 hT
            clear hK
            have hK := hT
            clear hT
            refine pm_ald d_X9_readAtom_91 rfl ?_
            refine pm_ki d_X9_readAtom_92 ?_
            refine ps_cVI d_X9_readAtom_94 mv_X9_eats at_327 ob_8_0 rfl (As := [.int 36]) rfl rfl (ps_room.of (by omega) (by decide)) (Nat.le_of_ble_eq_true rfl) (C_X9_eats 36 σ44 _ (ps_bdE hK)) ?_
            intro v45 σ46 hT
            clear hK
            have hK := hT
            clear hT
            refine pm_if_ne d_X9_readAtom_97 (fun c47 => ?_) (fun c47 => ?_)
            · replace hK := ps_ifF c47 hK
              have hQ := ps_so hK
              exact ps_vret rfl d_X9_readAtom_130 ⟨rfl, hQ⟩
            · replace hK := ps_ifT c47 hK
              refine pm_ald d_X9_readAtom_100 rfl ?_
              refine pm_ki d_X9_readAtom_101 ?_
              refine ps_cVV d_X9_readAtom_102 mv_X9_fails at_327 ob_8_0 rfl (As := [.int 2]) rfl rfl (ps_room.of (by omega) (by decide)) (Nat.le_of_ble_eq_true rfl) (C_X9_fails 2 σ46 _ (ps_bdE hK)) ?_
              intro σ49 hT
              clear hK
              have hK := hT
              clear hT
              refine pm_goto d_X9_readAtom_105 ?_
              have hQ := ps_so hK
              exact ps_vret rfl d_X9_readAtom_130 ⟨rfl, hQ⟩
          · replace hK := ps_ifT c42 hK
            have hQ := ps_so hK
            exact ps_vret rfl d_X9_readAtom_83 ⟨rfl, hQ⟩
      · replace hK := ps_ifF c29 hK
        refine pm_ald d_X9_readAtom_43 rfl ?_
        refine pm_ki d_X9_readAtom_44 ?_
        refine pm_ald d_X9_readAtom_47 rfl ?_
        refine pm_ald d_X9_readAtom_48 rfl ?_
        refine ps_getI d_X9_readAtom_49 at_327 f_8_0_10 rfl ?_
        refine ps_topI (fun v50 ev50 => ?_)
        replace hK := ps_ltE ev50 hK
        refine ps_cVI d_X9_readAtom_52 mv_X9_wordOf at_327 ob_8_0 rfl (As := [.int v50]) rfl rfl (ps_room.of (by omega) (by decide)) (Nat.le_of_ble_eq_true rfl) (C_X9_wordOf v50 σ28 _ (ps_bdE hK)) ?_
        intro v51 σ52 hT
        clear hK
        have hK := hT
        clear hT
        refine pm_iadd d_X9_readAtom_55 ?_
        refine ps_cVV d_X9_readAtom_56 mv_X9_codes at_327 ob_8_0 rfl (As := [.int (1000 + v51)]) rfl rfl (ps_room.of (by omega) (by decide)) (Nat.le_of_ble_eq_true rfl) (C_X9_codes ((1000 + v51)) σ52 _ (ps_bdE hK)) ?_
        intro σ54 hT
        clear hK
        have hK := hT
        clear hT
        refine pm_ald d_X9_readAtom_59 rfl ?_
        refine ps_cVV d_X9_readAtom_60 mv_X9_steps at_327 ob_8_0 rfl (As := []) rfl rfl (ps_room.of (by omega) (by decide)) (Nat.le_of_ble_eq_true rfl) (C_X9_steps σ54 _ (ps_bdE hK)) ?_
        intro σ56 hT
        clear hK
        have hK := hT
        clear hT
        refine pm_goto d_X9_readAtom_63 ?_
        have hQ := ps_so hK
        exact ps_vret rfl d_X9_readAtom_130 ⟨rfl, hQ⟩
  · replace hK := ps_ifF c3 hK
    refine pm_ald d_X9_readAtom_9 rfl ?_
    refine pm_ald d_X9_readAtom_10 rfl ?_
    refine ps_getI d_X9_readAtom_11 at_327 f_8_0_11 rfl ?_
    refine ps_topI (fun v57 ev57 => ?_)
    replace hK := ps_ltE ev57 hK
    refine ps_cVV d_X9_readAtom_14 mv_X9_codes at_327 ob_8_0 rfl (As := [.int v57]) rfl rfl (ps_room.of (by omega) (by decide)) (Nat.le_of_ble_eq_true rfl) (C_X9_codes v57 σ2 _ (ps_bdE hK)) ?_
    intro σ59 hT
    clear hK
    have hK := hT
    clear hT
    refine pm_ald d_X9_readAtom_17 rfl ?_
    refine ps_cVV d_X9_readAtom_18 mv_X9_steps at_327 ob_8_0 rfl (As := []) rfl rfl (ps_room.of (by omega) (by decide)) (Nat.le_of_ble_eq_true rfl) (C_X9_steps σ59 _ (ps_bdE hK)) ?_
    intro σ61 hT
    clear hK
    have hK := hT
    clear hT
    refine pm_goto d_X9_readAtom_21 ?_
    have hQ := ps_so hK
    exact ps_vret rfl d_X9_readAtom_130 ⟨rfl, hQ⟩
def bX9_readIf (rec : Nat → Int32 → ps_S → Option (Unit × ps_S)) (p1 : Int32) (σ : ps_S) : Option (Unit × ps_S) :=
  ps_bd (qX9_goesIn p1 σ) (fun v1 σ2 =>
  if v1 = 0 then
  some ((), σ2)
  else
  ps_bd (rec 4 ((p1 + 1)) σ2) (fun _ σ5 =>
  ps_bd (qX9_eats 16 σ5) (fun v6 σ7 =>
  if v6 = 0 then
  ps_bd (qX9_fails 2 σ7) (fun _ σ39 =>
  ps_bd (rec 0 ((p1 + 1)) σ39) (fun _ σ41 =>
  ps_bd (qX9_eats 17 σ41) (fun v42 σ43 =>
  if v42 = 0 then
  ps_bd (qX9_fails 2 σ43) (fun _ σ57 =>
  ps_bd (rec 0 ((p1 + 1)) σ57) (fun _ σ59 =>
  ps_bd (qX9_eats 18 σ59) (fun v60 σ61 =>
  if v60 = 0 then
  ps_bd (qX9_fails 2 σ61) (fun _ σ66 =>
  ps_bd (qX9_codes 3009 σ66) (fun _ σ68 =>
  some ((), σ68)))
  else
  ps_bd (qX9_codes 3009 σ61) (fun _ σ64 =>
  some ((), σ64)))))
  else
  ps_bd (rec 0 ((p1 + 1)) σ43) (fun _ σ46 =>
  ps_bd (qX9_eats 18 σ46) (fun v47 σ48 =>
  if v47 = 0 then
  ps_bd (qX9_fails 2 σ48) (fun _ σ53 =>
  ps_bd (qX9_codes 3009 σ53) (fun _ σ55 =>
  some ((), σ55)))
  else
  ps_bd (qX9_codes 3009 σ48) (fun _ σ51 =>
  some ((), σ51)))))))
  else
  ps_bd (rec 0 ((p1 + 1)) σ7) (fun _ σ10 =>
  ps_bd (qX9_eats 17 σ10) (fun v11 σ12 =>
  if v11 = 0 then
  ps_bd (qX9_fails 2 σ12) (fun _ σ26 =>
  ps_bd (rec 0 ((p1 + 1)) σ26) (fun _ σ28 =>
  ps_bd (qX9_eats 18 σ28) (fun v29 σ30 =>
  if v29 = 0 then
  ps_bd (qX9_fails 2 σ30) (fun _ σ35 =>
  ps_bd (qX9_codes 3009 σ35) (fun _ σ37 =>
  some ((), σ37)))
  else
  ps_bd (qX9_codes 3009 σ30) (fun _ σ33 =>
  some ((), σ33)))))
  else
  ps_bd (rec 0 ((p1 + 1)) σ12) (fun _ σ15 =>
  ps_bd (qX9_eats 18 σ15) (fun v16 σ17 =>
  if v16 = 0 then
  ps_bd (qX9_fails 2 σ17) (fun _ σ22 =>
  ps_bd (qX9_codes 3009 σ22) (fun _ σ24 =>
  some ((), σ24)))
  else
  ps_bd (qX9_codes 3009 σ17) (fun _ σ20 =>
  some ((), σ20)))))))))
set_option maxRecDepth 100000 in
theorem B_X9_readIf {g : pm_G} (D : Nat) (hD : 8 ≤ D) (rec : Nat → Int32 → ps_S → Option (Unit × ps_S)) (D0 : Nat) (hD0 : D0 < D) (hrec_X9_readSum : ∀ (p1 : Int32) (σ : ps_S) (P : Unit → ps_S → Prop), ps_ok (rec 0 p1 σ) P → ps_C g mX9_readSum D0 [.ref (g.2.2.1 + 327), .int p1] σ (ps_qV P)) (hrec_X9_readTerm : ∀ (p1 : Int32) (σ : ps_S) (P : Unit → ps_S → Prop), ps_ok (rec 1 p1 σ) P → ps_C g mX9_readTerm D0 [.ref (g.2.2.1 + 327), .int p1] σ (ps_qV P)) (hrec_X9_readAtom : ∀ (p1 : Int32) (σ : ps_S) (P : Unit → ps_S → Prop), ps_ok (rec 2 p1 σ) P → ps_C g mX9_readAtom D0 [.ref (g.2.2.1 + 327), .int p1] σ (ps_qV P)) (hrec_X9_readIf : ∀ (p1 : Int32) (σ : ps_S) (P : Unit → ps_S → Prop), ps_ok (rec 3 p1 σ) P → ps_C g mX9_readIf D0 [.ref (g.2.2.1 + 327), .int p1] σ (ps_qV P)) (hrec_X9_readTruth : ∀ (p1 : Int32) (σ : ps_S) (P : Unit → ps_S → Prop), ps_ok (rec 4 p1 σ) P → ps_C g mX9_readTruth D0 [.ref (g.2.2.1 + 327), .int p1] σ (ps_qV P)) (hrec_X9_readBoth : ∀ (p1 : Int32) (σ : ps_S) (P : Unit → ps_S → Prop), ps_ok (rec 5 p1 σ) P → ps_C g mX9_readBoth D0 [.ref (g.2.2.1 + 327), .int p1] σ (ps_qV P)) (hrec_X9_readUnit : ∀ (p1 : Int32) (σ : ps_S) (P : Unit → ps_S → Prop), ps_ok (rec 6 p1 σ) P → ps_C g mX9_readUnit D0 [.ref (g.2.2.1 + 327), .int p1] σ (ps_qV P)) (p1 : Int32) (σ : ps_S) (P : Unit → ps_S → Prop) (hK : ps_ok (bX9_readIf rec p1 σ) P) : ps_C g mX9_readIf D [.ref (g.2.2.1 + 327), .int p1] σ (ps_qV P) := by
  unfold bX9_readIf at hK
  refine ps_C.of (ls := [some (.ref (g.2.2.1 + 327)), some (.int p1)]) 0 (by decide) rfl (Nat.le_of_ble_eq_true rfl) rfl ?_
  refine pm_ald d_X9_readIf_0 rfl ?_
  refine pm_ild d_X9_readIf_1 rfl ?_
  refine ps_cVI d_X9_readIf_2 mv_X9_goesIn at_327 ob_8_0 rfl (As := [.int p1]) rfl rfl (ps_room.of (by omega) (by decide)) (Nat.le_of_ble_eq_true rfl) (C_X9_goesIn p1 σ _ (ps_bdE hK)) ?_
  intro v1 σ2 hT
  clear hK
  have hK := hT
  clear hT
  refine pm_if_ne d_X9_readIf_5 (fun c3 => ?_) (fun c3 => ?_)
  · replace hK := ps_ifF c3 hK
    refine pm_ald d_X9_readIf_9 rfl ?_
    refine pm_ild d_X9_readIf_10 rfl ?_
    refine pm_ki d_X9_readIf_11 ?_
    refine pm_iadd d_X9_readIf_12 ?_
    refine ps_cVV d_X9_readIf_13 mv_X9_readTruth at_327 ob_8_0 rfl (As := [.int (p1 + 1)]) rfl rfl (ps_room.of (by omega) (by decide)) (Nat.le_of_ble_eq_true rfl) (hrec_X9_readTruth ((p1 + 1)) σ2 _ (ps_bdE hK)) ?_
    intro σ5 hT
    clear hK
    have hK := hT
    clear hT
    refine pm_ald d_X9_readIf_16 rfl ?_
    refine pm_ki d_X9_readIf_17 ?_
    refine ps_cVI d_X9_readIf_19 mv_X9_eats at_327 ob_8_0 rfl (As := [.int 16]) rfl rfl (ps_room.of (by omega) (by decide)) (Nat.le_of_ble_eq_true rfl) (C_X9_eats 16 σ5 _ (ps_bdE hK)) ?_
    intro v6 σ7 hT
    clear hK
    have hK := hT
    clear hT
    refine pm_if_ne d_X9_readIf_22 (fun c8 => ?_) (fun c8 => ?_)
    · replace hK := ps_ifF c8 hK
      refine pm_ald d_X9_readIf_30 rfl ?_
      refine pm_ild d_X9_readIf_31 rfl ?_
      refine pm_ki d_X9_readIf_32 ?_
      refine pm_iadd d_X9_readIf_33 ?_
      refine ps_cVV d_X9_readIf_34 mv_X9_readSum at_327 ob_8_0 rfl (As := [.int (p1 + 1)]) rfl rfl (ps_room.of (by omega) (by decide)) (Nat.le_of_ble_eq_true rfl) (hrec_X9_readSum ((p1 + 1)) σ7 _ (ps_bdE hK)) ?_
      intro σ10 hT
      clear hK
      have hK := hT
      clear hT
      refine pm_ald d_X9_readIf_37 rfl ?_
      refine pm_ki d_X9_readIf_38 ?_
      refine ps_cVI d_X9_readIf_40 mv_X9_eats at_327 ob_8_0 rfl (As := [.int 17]) rfl rfl (ps_room.of (by omega) (by decide)) (Nat.le_of_ble_eq_true rfl) (C_X9_eats 17 σ10 _ (ps_bdE hK)) ?_
      intro v11 σ12 hT
      clear hK
      have hK := hT
      clear hT
      refine pm_if_ne d_X9_readIf_43 (fun c13 => ?_) (fun c13 => ?_)
      · replace hK := ps_ifF c13 hK
        refine pm_ald d_X9_readIf_51 rfl ?_
        refine pm_ild d_X9_readIf_52 rfl ?_
        refine pm_ki d_X9_readIf_53 ?_
        refine pm_iadd d_X9_readIf_54 ?_
        refine ps_cVV d_X9_readIf_55 mv_X9_readSum at_327 ob_8_0 rfl (As := [.int (p1 + 1)]) rfl rfl (ps_room.of (by omega) (by decide)) (Nat.le_of_ble_eq_true rfl) (hrec_X9_readSum ((p1 + 1)) σ12 _ (ps_bdE hK)) ?_
        intro σ15 hT
        clear hK
        have hK := hT
        clear hT
        refine pm_ald d_X9_readIf_58 rfl ?_
        refine pm_ki d_X9_readIf_59 ?_
        refine ps_cVI d_X9_readIf_61 mv_X9_eats at_327 ob_8_0 rfl (As := [.int 18]) rfl rfl (ps_room.of (by omega) (by decide)) (Nat.le_of_ble_eq_true rfl) (C_X9_eats 18 σ15 _ (ps_bdE hK)) ?_
        intro v16 σ17 hT
        clear hK
        have hK := hT
        clear hT
        refine pm_if_ne d_X9_readIf_64 (fun c18 => ?_) (fun c18 => ?_)
        · replace hK := ps_ifF c18 hK
          refine pm_ald d_X9_readIf_72 rfl ?_
          refine pm_ki d_X9_readIf_73 ?_
          refine ps_cVV d_X9_readIf_76 mv_X9_codes at_327 ob_8_0 rfl (As := [.int 3009]) rfl rfl (ps_room.of (by omega) (by decide)) (Nat.le_of_ble_eq_true rfl) (C_X9_codes 3009 σ17 _ (ps_bdE hK)) ?_
          intro σ20 hT
          clear hK
          have hK := hT
          clear hT
          have hQ := ps_so hK
          exact ps_vret rfl d_X9_readIf_79 ⟨rfl, hQ⟩
        · replace hK := ps_ifT c18 hK
          refine pm_ald d_X9_readIf_67 rfl ?_
          refine pm_ki d_X9_readIf_68 ?_
          refine ps_cVV d_X9_readIf_69 mv_X9_fails at_327 ob_8_0 rfl (As := [.int 2]) rfl rfl (ps_room.of (by omega) (by decide)) (Nat.le_of_ble_eq_true rfl) (C_X9_fails 2 σ17 _ (ps_bdE hK)) ?_
          intro σ22 hT
          clear hK
          have hK := hT
          clear hT
          refine pm_ald d_X9_readIf_72 rfl ?_
          refine pm_ki d_X9_readIf_73 ?_
          refine ps_cVV d_X9_readIf_76 mv_X9_codes at_327 ob_8_0 rfl (As := [.int 3009]) rfl rfl (ps_room.of (by omega) (by decide)) (Nat.le_of_ble_eq_true rfl) (C_X9_codes 3009 σ22 _ (ps_bdE hK)) ?_
          intro σ24 hT
          clear hK
          have hK := hT
          clear hT
          have hQ := ps_so hK
          exact ps_vret rfl d_X9_readIf_79 ⟨rfl, hQ⟩
      · replace hK := ps_ifT c13 hK
        refine pm_ald d_X9_readIf_46 rfl ?_
        refine pm_ki d_X9_readIf_47 ?_
        refine ps_cVV d_X9_readIf_48 mv_X9_fails at_327 ob_8_0 rfl (As := [.int 2]) rfl rfl (ps_room.of (by omega) (by decide)) (Nat.le_of_ble_eq_true rfl) (C_X9_fails 2 σ12 _ (ps_bdE hK)) ?_
        intro σ26 hT
        clear hK
        have hK := hT
        clear hT
        refine pm_ald d_X9_readIf_51 rfl ?_
        refine pm_ild d_X9_readIf_52 rfl ?_
        refine pm_ki d_X9_readIf_53 ?_
        refine pm_iadd d_X9_readIf_54 ?_
        refine ps_cVV d_X9_readIf_55 mv_X9_readSum at_327 ob_8_0 rfl (As := [.int (p1 + 1)]) rfl rfl (ps_room.of (by omega) (by decide)) (Nat.le_of_ble_eq_true rfl) (hrec_X9_readSum ((p1 + 1)) σ26 _ (ps_bdE hK)) ?_
        intro σ28 hT
        clear hK
        have hK := hT
        clear hT
        refine pm_ald d_X9_readIf_58 rfl ?_
        refine pm_ki d_X9_readIf_59 ?_
        refine ps_cVI d_X9_readIf_61 mv_X9_eats at_327 ob_8_0 rfl (As := [.int 18]) rfl rfl (ps_room.of (by omega) (by decide)) (Nat.le_of_ble_eq_true rfl) (C_X9_eats 18 σ28 _ (ps_bdE hK)) ?_
        intro v29 σ30 hT
        clear hK
        have hK := hT
        clear hT
        refine pm_if_ne d_X9_readIf_64 (fun c31 => ?_) (fun c31 => ?_)
        · replace hK := ps_ifF c31 hK
          refine pm_ald d_X9_readIf_72 rfl ?_
          refine pm_ki d_X9_readIf_73 ?_
          refine ps_cVV d_X9_readIf_76 mv_X9_codes at_327 ob_8_0 rfl (As := [.int 3009]) rfl rfl (ps_room.of (by omega) (by decide)) (Nat.le_of_ble_eq_true rfl) (C_X9_codes 3009 σ30 _ (ps_bdE hK)) ?_
          intro σ33 hT
          clear hK
          have hK := hT
          clear hT
          have hQ := ps_so hK
          exact ps_vret rfl d_X9_readIf_79 ⟨rfl, hQ⟩
        · replace hK := ps_ifT c31 hK
          refine pm_ald d_X9_readIf_67 rfl ?_
          refine pm_ki d_X9_readIf_68 ?_
          refine ps_cVV d_X9_readIf_69 mv_X9_fails at_327 ob_8_0 rfl (As := [.int 2]) rfl rfl (ps_room.of (by omega) (by decide)) (Nat.le_of_ble_eq_true rfl) (C_X9_fails 2 σ30 _ (ps_bdE hK)) ?_
          intro σ35 hT
          clear hK
          have hK := hT
          clear hT
          refine pm_ald d_X9_readIf_72 rfl ?_
          refine pm_ki d_X9_readIf_73 ?_
          refine ps_cVV d_X9_readIf_76 mv_X9_codes at_327 ob_8_0 rfl (As := [.int 3009]) rfl rfl (ps_room.of (by omega) (by decide)) (Nat.le_of_ble_eq_true rfl) (C_X9_codes 3009 σ35 _ (ps_bdE hK)) ?_
          intro σ37 hT
          clear hK
          have hK := hT
          clear hT
          have hQ := ps_so hK
          exact ps_vret rfl d_X9_readIf_79 ⟨rfl, hQ⟩
    · replace hK := ps_ifT c8 hK
      refine pm_ald d_X9_readIf_25 rfl ?_
      refine pm_ki d_X9_readIf_26 ?_
      refine ps_cVV d_X9_readIf_27 mv_X9_fails at_327 ob_8_0 rfl (As := [.int 2]) rfl rfl (ps_room.of (by omega) (by decide)) (Nat.le_of_ble_eq_true rfl) (C_X9_fails 2 σ7 _ (ps_bdE hK)) ?_
      intro σ39 hT
      clear hK
      have hK := hT
      clear hT
      refine pm_ald d_X9_readIf_30 rfl ?_
      refine pm_ild d_X9_readIf_31 rfl ?_
      refine pm_ki d_X9_readIf_32 ?_
      refine pm_iadd d_X9_readIf_33 ?_
      refine ps_cVV d_X9_readIf_34 mv_X9_readSum at_327 ob_8_0 rfl (As := [.int (p1 + 1)]) rfl rfl (ps_room.of (by omega) (by decide)) (Nat.le_of_ble_eq_true rfl) (hrec_X9_readSum ((p1 + 1)) σ39 _ (ps_bdE hK)) ?_
      intro σ41 hT
      clear hK
      have hK := hT
      clear hT
      refine pm_ald d_X9_readIf_37 rfl ?_
      refine pm_ki d_X9_readIf_38 ?_
      refine ps_cVI d_X9_readIf_40 mv_X9_eats at_327 ob_8_0 rfl (As := [.int 17]) rfl rfl (ps_room.of (by omega) (by decide)) (Nat.le_of_ble_eq_true rfl) (C_X9_eats 17 σ41 _ (ps_bdE hK)) ?_
      intro v42 σ43 hT
      clear hK
      have hK := hT
      clear hT
      refine pm_if_ne d_X9_readIf_43 (fun c44 => ?_) (fun c44 => ?_)
      · replace hK := ps_ifF c44 hK
        refine pm_ald d_X9_readIf_51 rfl ?_
        refine pm_ild d_X9_readIf_52 rfl ?_
        refine pm_ki d_X9_readIf_53 ?_
        refine pm_iadd d_X9_readIf_54 ?_
        refine ps_cVV d_X9_readIf_55 mv_X9_readSum at_327 ob_8_0 rfl (As := [.int (p1 + 1)]) rfl rfl (ps_room.of (by omega) (by decide)) (Nat.le_of_ble_eq_true rfl) (hrec_X9_readSum ((p1 + 1)) σ43 _ (ps_bdE hK)) ?_
        intro σ46 hT
        clear hK
        have hK := hT
        clear hT
        refine pm_ald d_X9_readIf_58 rfl ?_
        refine pm_ki d_X9_readIf_59 ?_
        refine ps_cVI d_X9_readIf_61 mv_X9_eats at_327 ob_8_0 rfl (As := [.int 18]) rfl rfl (ps_room.of (by omega) (by decide)) (Nat.le_of_ble_eq_true rfl) (C_X9_eats 18 σ46 _ (ps_bdE hK)) ?_
        intro v47 σ48 hT
        clear hK
        have hK := hT
        clear hT
        refine pm_if_ne d_X9_readIf_64 (fun c49 => ?_) (fun c49 => ?_)
        · replace hK := ps_ifF c49 hK
          refine pm_ald d_X9_readIf_72 rfl ?_
          refine pm_ki d_X9_readIf_73 ?_
          refine ps_cVV d_X9_readIf_76 mv_X9_codes at_327 ob_8_0 rfl (As := [.int 3009]) rfl rfl (ps_room.of (by omega) (by decide)) (Nat.le_of_ble_eq_true rfl) (C_X9_codes 3009 σ48 _ (ps_bdE hK)) ?_
          intro σ51 hT
          clear hK
          have hK := hT
          clear hT
          have hQ := ps_so hK
          exact ps_vret rfl d_X9_readIf_79 ⟨rfl, hQ⟩
        · replace hK := ps_ifT c49 hK
          refine pm_ald d_X9_readIf_67 rfl ?_
          refine pm_ki d_X9_readIf_68 ?_
          refine ps_cVV d_X9_readIf_69 mv_X9_fails at_327 ob_8_0 rfl (As := [.int 2]) rfl rfl (ps_room.of (by omega) (by decide)) (Nat.le_of_ble_eq_true rfl) (C_X9_fails 2 σ48 _ (ps_bdE hK)) ?_
          intro σ53 hT
          clear hK
          have hK := hT
          clear hT
          refine pm_ald d_X9_readIf_72 rfl ?_
          refine pm_ki d_X9_readIf_73 ?_
          refine ps_cVV d_X9_readIf_76 mv_X9_codes at_327 ob_8_0 rfl (As := [.int 3009]) rfl rfl (ps_room.of (by omega) (by decide)) (Nat.le_of_ble_eq_true rfl) (C_X9_codes 3009 σ53 _ (ps_bdE hK)) ?_
          intro σ55 hT
          clear hK
          have hK := hT
          clear hT
          have hQ := ps_so hK
          exact ps_vret rfl d_X9_readIf_79 ⟨rfl, hQ⟩
      · replace hK := ps_ifT c44 hK
        refine pm_ald d_X9_readIf_46 rfl ?_
        refine pm_ki d_X9_readIf_47 ?_
        refine ps_cVV d_X9_readIf_48 mv_X9_fails at_327 ob_8_0 rfl (As := [.int 2]) rfl rfl (ps_room.of (by omega) (by decide)) (Nat.le_of_ble_eq_true rfl) (C_X9_fails 2 σ43 _ (ps_bdE hK)) ?_
        intro σ57 hT
        clear hK
        have hK := hT
        clear hT
        refine pm_ald d_X9_readIf_51 rfl ?_
        refine pm_ild d_X9_readIf_52 rfl ?_
        refine pm_ki d_X9_readIf_53 ?_
        refine pm_iadd d_X9_readIf_54 ?_
        refine ps_cVV d_X9_readIf_55 mv_X9_readSum at_327 ob_8_0 rfl (As := [.int (p1 + 1)]) rfl rfl (ps_room.of (by omega) (by decide)) (Nat.le_of_ble_eq_true rfl) (hrec_X9_readSum ((p1 + 1)) σ57 _ (ps_bdE hK)) ?_
        intro σ59 hT
        clear hK
        have hK := hT
        clear hT
        refine pm_ald d_X9_readIf_58 rfl ?_
        refine pm_ki d_X9_readIf_59 ?_
        refine ps_cVI d_X9_readIf_61 mv_X9_eats at_327 ob_8_0 rfl (As := [.int 18]) rfl rfl (ps_room.of (by omega) (by decide)) (Nat.le_of_ble_eq_true rfl) (C_X9_eats 18 σ59 _ (ps_bdE hK)) ?_
        intro v60 σ61 hT
        clear hK
        have hK := hT
        clear hT
        refine pm_if_ne d_X9_readIf_64 (fun c62 => ?_) (fun c62 => ?_)
        · replace hK := ps_ifF c62 hK
          refine pm_ald d_X9_readIf_72 rfl ?_
          refine pm_ki d_X9_readIf_73 ?_
          refine ps_cVV d_X9_readIf_76 mv_X9_codes at_327 ob_8_0 rfl (As := [.int 3009]) rfl rfl (ps_room.of (by omega) (by decide)) (Nat.le_of_ble_eq_true rfl) (C_X9_codes 3009 σ61 _ (ps_bdE hK)) ?_
          intro σ64 hT
          clear hK
          have hK := hT
          clear hT
          have hQ := ps_so hK
          exact ps_vret rfl d_X9_readIf_79 ⟨rfl, hQ⟩
        · replace hK := ps_ifT c62 hK
          refine pm_ald d_X9_readIf_67 rfl ?_
          refine pm_ki d_X9_readIf_68 ?_
          refine ps_cVV d_X9_readIf_69 mv_X9_fails at_327 ob_8_0 rfl (As := [.int 2]) rfl rfl (ps_room.of (by omega) (by decide)) (Nat.le_of_ble_eq_true rfl) (C_X9_fails 2 σ61 _ (ps_bdE hK)) ?_
          intro σ66 hT
          clear hK
          have hK := hT
          clear hT
          refine pm_ald d_X9_readIf_72 rfl ?_
          refine pm_ki d_X9_readIf_73 ?_
          refine ps_cVV d_X9_readIf_76 mv_X9_codes at_327 ob_8_0 rfl (As := [.int 3009]) rfl rfl (ps_room.of (by omega) (by decide)) (Nat.le_of_ble_eq_true rfl) (C_X9_codes 3009 σ66 _ (ps_bdE hK)) ?_
          intro σ68 hT
          clear hK
          have hK := hT
          clear hT
          have hQ := ps_so hK
          exact ps_vret rfl d_X9_readIf_79 ⟨rfl, hQ⟩
  · replace hK := ps_ifT c3 hK
    have hQ := ps_so hK
    exact ps_vret rfl d_X9_readIf_8 ⟨rfl, hQ⟩
def qX9_readTruth_5 (rec : Nat → Int32 → ps_S → Option (Unit × ps_S))  (y1 : Int32) : Nat → ps_S → Option (((Unit)) × ps_S)
  | 0, _ => none
  | n + 1, σ =>
    ps_bd (qX9_eats 22 σ) (fun v3 σ4 =>
    if v3 = 0 then
    some ((), σ4)
    else
    ps_bd (rec 5 y1 σ4) (fun _ σ7 =>
    ps_bd (qX9_codes 3008 σ7) (fun _ σ9 =>
    qX9_readTruth_5 rec y1 n σ9)))
set_option maxRecDepth 100000 in
theorem L_X9_readTruth_5 {g : pm_G} (D : Nat) (hD : 8 ≤ D) {P : Unit → ps_S → Prop} (rec : Nat → Int32 → ps_S → Option (Unit × ps_S)) (D0 : Nat) (hD0 : D0 < D) (hrec_X9_readSum : ∀ (p1 : Int32) (σ : ps_S) (P : Unit → ps_S → Prop), ps_ok (rec 0 p1 σ) P → ps_C g mX9_readSum D0 [.ref (g.2.2.1 + 327), .int p1] σ (ps_qV P)) (hrec_X9_readTerm : ∀ (p1 : Int32) (σ : ps_S) (P : Unit → ps_S → Prop), ps_ok (rec 1 p1 σ) P → ps_C g mX9_readTerm D0 [.ref (g.2.2.1 + 327), .int p1] σ (ps_qV P)) (hrec_X9_readAtom : ∀ (p1 : Int32) (σ : ps_S) (P : Unit → ps_S → Prop), ps_ok (rec 2 p1 σ) P → ps_C g mX9_readAtom D0 [.ref (g.2.2.1 + 327), .int p1] σ (ps_qV P)) (hrec_X9_readIf : ∀ (p1 : Int32) (σ : ps_S) (P : Unit → ps_S → Prop), ps_ok (rec 3 p1 σ) P → ps_C g mX9_readIf D0 [.ref (g.2.2.1 + 327), .int p1] σ (ps_qV P)) (hrec_X9_readTruth : ∀ (p1 : Int32) (σ : ps_S) (P : Unit → ps_S → Prop), ps_ok (rec 4 p1 σ) P → ps_C g mX9_readTruth D0 [.ref (g.2.2.1 + 327), .int p1] σ (ps_qV P)) (hrec_X9_readBoth : ∀ (p1 : Int32) (σ : ps_S) (P : Unit → ps_S → Prop), ps_ok (rec 5 p1 σ) P → ps_C g mX9_readBoth D0 [.ref (g.2.2.1 + 327), .int p1] σ (ps_qV P)) (hrec_X9_readUnit : ∀ (p1 : Int32) (σ : ps_S) (P : Unit → ps_S → Prop), ps_ok (rec 6 p1 σ) P → ps_C g mX9_readUnit D0 [.ref (g.2.2.1 + 327), .int p1] σ (ps_qV P))  (y1 : Int32) : ∀ (n : Nat) (σ : ps_S), ps_ok (qX9_readTruth_5 rec y1 n σ) (fun res σ => match res with | _ => pm_W g mX9_readTruth (ps_F g D (ps_qV P)) 0 0 29 [some (.ref (g.2.2.1 + 327)), some (.int y1)] [] 345 (ps_E g σ)) → pm_W g mX9_readTruth (ps_F g D (ps_qV P)) 0 0 5 [some (.ref (g.2.2.1 + 327)), some (.int y1)] [] 345 (ps_E g σ) := by
  intro n
  induction n with
  | zero => intro σ hK; exact (ps_no hK).elim
  | succ n ih =>
    intro σ hK
    rw [qX9_readTruth_5] at hK
    refine pm_ald d_X9_readTruth_5 rfl ?_
    refine pm_ki d_X9_readTruth_6 ?_
    refine ps_cVI d_X9_readTruth_8 mv_X9_eats at_327 ob_8_0 rfl (As := [.int 22]) rfl rfl (ps_room.of (by omega) (by decide)) (Nat.le_of_ble_eq_true rfl) (C_X9_eats 22 σ _ (ps_bdE hK)) ?_
    intro v3 σ4 hT
    clear hK
    have hK := hT
    clear hT
    refine pm_if_eq d_X9_readTruth_11 (fun c5 => ?_) (fun c5 => ?_)
    · replace hK := ps_ifT c5 hK
      exact ps_so hK
    · replace hK := ps_ifF c5 hK
      refine pm_ald d_X9_readTruth_14 rfl ?_
      refine pm_ild d_X9_readTruth_15 rfl ?_
      refine ps_cVV d_X9_readTruth_16 mv_X9_readBoth at_327 ob_8_0 rfl (As := [.int y1]) rfl rfl (ps_room.of (by omega) (by decide)) (Nat.le_of_ble_eq_true rfl) (hrec_X9_readBoth y1 σ4 _ (ps_bdE hK)) ?_
      intro σ7 hT
      clear hK
      have hK := hT
      clear hT
      refine pm_ald d_X9_readTruth_19 rfl ?_
      refine pm_ki d_X9_readTruth_20 ?_
      refine ps_cVV d_X9_readTruth_23 mv_X9_codes at_327 ob_8_0 rfl (As := [.int 3008]) rfl rfl (ps_room.of (by omega) (by decide)) (Nat.le_of_ble_eq_true rfl) (C_X9_codes 3008 σ7 _ (ps_bdE hK)) ?_
      intro σ9 hT
      clear hK
      have hK := hT
      clear hT
      refine pm_goto d_X9_readTruth_26 ?_
      exact ih _ hK
def bX9_readTruth (rec : Nat → Int32 → ps_S → Option (Unit × ps_S)) (p1 : Int32) (σ : ps_S) : Option (Unit × ps_S) :=
  ps_bd (rec 5 p1 σ) (fun _ σ2 =>
  ps_bd (qX9_readTruth_5 rec p1 ps_N σ2) (fun res σ10 => match res with
  | _ =>
    some ((), σ10)))
set_option maxRecDepth 100000 in
theorem B_X9_readTruth {g : pm_G} (D : Nat) (hD : 8 ≤ D) (rec : Nat → Int32 → ps_S → Option (Unit × ps_S)) (D0 : Nat) (hD0 : D0 < D) (hrec_X9_readSum : ∀ (p1 : Int32) (σ : ps_S) (P : Unit → ps_S → Prop), ps_ok (rec 0 p1 σ) P → ps_C g mX9_readSum D0 [.ref (g.2.2.1 + 327), .int p1] σ (ps_qV P)) (hrec_X9_readTerm : ∀ (p1 : Int32) (σ : ps_S) (P : Unit → ps_S → Prop), ps_ok (rec 1 p1 σ) P → ps_C g mX9_readTerm D0 [.ref (g.2.2.1 + 327), .int p1] σ (ps_qV P)) (hrec_X9_readAtom : ∀ (p1 : Int32) (σ : ps_S) (P : Unit → ps_S → Prop), ps_ok (rec 2 p1 σ) P → ps_C g mX9_readAtom D0 [.ref (g.2.2.1 + 327), .int p1] σ (ps_qV P)) (hrec_X9_readIf : ∀ (p1 : Int32) (σ : ps_S) (P : Unit → ps_S → Prop), ps_ok (rec 3 p1 σ) P → ps_C g mX9_readIf D0 [.ref (g.2.2.1 + 327), .int p1] σ (ps_qV P)) (hrec_X9_readTruth : ∀ (p1 : Int32) (σ : ps_S) (P : Unit → ps_S → Prop), ps_ok (rec 4 p1 σ) P → ps_C g mX9_readTruth D0 [.ref (g.2.2.1 + 327), .int p1] σ (ps_qV P)) (hrec_X9_readBoth : ∀ (p1 : Int32) (σ : ps_S) (P : Unit → ps_S → Prop), ps_ok (rec 5 p1 σ) P → ps_C g mX9_readBoth D0 [.ref (g.2.2.1 + 327), .int p1] σ (ps_qV P)) (hrec_X9_readUnit : ∀ (p1 : Int32) (σ : ps_S) (P : Unit → ps_S → Prop), ps_ok (rec 6 p1 σ) P → ps_C g mX9_readUnit D0 [.ref (g.2.2.1 + 327), .int p1] σ (ps_qV P)) (p1 : Int32) (σ : ps_S) (P : Unit → ps_S → Prop) (hK : ps_ok (bX9_readTruth rec p1 σ) P) : ps_C g mX9_readTruth D [.ref (g.2.2.1 + 327), .int p1] σ (ps_qV P) := by
  unfold bX9_readTruth at hK
  refine ps_C.of (ls := [some (.ref (g.2.2.1 + 327)), some (.int p1)]) 0 (by decide) rfl (Nat.le_of_ble_eq_true rfl) rfl ?_
  refine pm_ald d_X9_readTruth_0 rfl ?_
  refine pm_ild d_X9_readTruth_1 rfl ?_
  refine ps_cVV d_X9_readTruth_2 mv_X9_readBoth at_327 ob_8_0 rfl (As := [.int p1]) rfl rfl (ps_room.of (by omega) (by decide)) (Nat.le_of_ble_eq_true rfl) (hrec_X9_readBoth p1 σ _ (ps_bdE hK)) ?_
  intro σ2 hT
  clear hK
  have hK := hT
  clear hT
  refine L_X9_readTruth_5 D hD rec D0 hD0 hrec_X9_readSum hrec_X9_readTerm hrec_X9_readAtom hrec_X9_readIf hrec_X9_readTruth hrec_X9_readBoth hrec_X9_readUnit p1 _ _ (ps_ok.mono (ps_bdE hK) ?_)
  rintro _ σ10 hT
  clear hK
  have hK := hT
  clear hT
  have hQ := ps_so hK
  exact ps_vret rfl d_X9_readTruth_29 ⟨rfl, hQ⟩
def qX9_readBoth_5 (rec : Nat → Int32 → ps_S → Option (Unit × ps_S))  (y1 : Int32) : Nat → ps_S → Option (((Unit)) × ps_S)
  | 0, _ => none
  | n + 1, σ =>
    ps_bd (qX9_eats 21 σ) (fun v3 σ4 =>
    if v3 = 0 then
    some ((), σ4)
    else
    ps_bd (rec 6 y1 σ4) (fun _ σ7 =>
    ps_bd (qX9_codes 3007 σ7) (fun _ σ9 =>
    qX9_readBoth_5 rec y1 n σ9)))
set_option maxRecDepth 100000 in
theorem L_X9_readBoth_5 {g : pm_G} (D : Nat) (hD : 8 ≤ D) {P : Unit → ps_S → Prop} (rec : Nat → Int32 → ps_S → Option (Unit × ps_S)) (D0 : Nat) (hD0 : D0 < D) (hrec_X9_readSum : ∀ (p1 : Int32) (σ : ps_S) (P : Unit → ps_S → Prop), ps_ok (rec 0 p1 σ) P → ps_C g mX9_readSum D0 [.ref (g.2.2.1 + 327), .int p1] σ (ps_qV P)) (hrec_X9_readTerm : ∀ (p1 : Int32) (σ : ps_S) (P : Unit → ps_S → Prop), ps_ok (rec 1 p1 σ) P → ps_C g mX9_readTerm D0 [.ref (g.2.2.1 + 327), .int p1] σ (ps_qV P)) (hrec_X9_readAtom : ∀ (p1 : Int32) (σ : ps_S) (P : Unit → ps_S → Prop), ps_ok (rec 2 p1 σ) P → ps_C g mX9_readAtom D0 [.ref (g.2.2.1 + 327), .int p1] σ (ps_qV P)) (hrec_X9_readIf : ∀ (p1 : Int32) (σ : ps_S) (P : Unit → ps_S → Prop), ps_ok (rec 3 p1 σ) P → ps_C g mX9_readIf D0 [.ref (g.2.2.1 + 327), .int p1] σ (ps_qV P)) (hrec_X9_readTruth : ∀ (p1 : Int32) (σ : ps_S) (P : Unit → ps_S → Prop), ps_ok (rec 4 p1 σ) P → ps_C g mX9_readTruth D0 [.ref (g.2.2.1 + 327), .int p1] σ (ps_qV P)) (hrec_X9_readBoth : ∀ (p1 : Int32) (σ : ps_S) (P : Unit → ps_S → Prop), ps_ok (rec 5 p1 σ) P → ps_C g mX9_readBoth D0 [.ref (g.2.2.1 + 327), .int p1] σ (ps_qV P)) (hrec_X9_readUnit : ∀ (p1 : Int32) (σ : ps_S) (P : Unit → ps_S → Prop), ps_ok (rec 6 p1 σ) P → ps_C g mX9_readUnit D0 [.ref (g.2.2.1 + 327), .int p1] σ (ps_qV P))  (y1 : Int32) : ∀ (n : Nat) (σ : ps_S), ps_ok (qX9_readBoth_5 rec y1 n σ) (fun res σ => match res with | _ => pm_W g mX9_readBoth (ps_F g D (ps_qV P)) 0 0 29 [some (.ref (g.2.2.1 + 327)), some (.int y1)] [] 345 (ps_E g σ)) → pm_W g mX9_readBoth (ps_F g D (ps_qV P)) 0 0 5 [some (.ref (g.2.2.1 + 327)), some (.int y1)] [] 345 (ps_E g σ) := by
  intro n
  induction n with
  | zero => intro σ hK; exact (ps_no hK).elim
  | succ n ih =>
    intro σ hK
    rw [qX9_readBoth_5] at hK
    refine pm_ald d_X9_readBoth_5 rfl ?_
    refine pm_ki d_X9_readBoth_6 ?_
    refine ps_cVI d_X9_readBoth_8 mv_X9_eats at_327 ob_8_0 rfl (As := [.int 21]) rfl rfl (ps_room.of (by omega) (by decide)) (Nat.le_of_ble_eq_true rfl) (C_X9_eats 21 σ _ (ps_bdE hK)) ?_
    intro v3 σ4 hT
    clear hK
    have hK := hT
    clear hT
    refine pm_if_eq d_X9_readBoth_11 (fun c5 => ?_) (fun c5 => ?_)
    · replace hK := ps_ifT c5 hK
      exact ps_so hK
    · replace hK := ps_ifF c5 hK
      refine pm_ald d_X9_readBoth_14 rfl ?_
      refine pm_ild d_X9_readBoth_15 rfl ?_
      refine ps_cVV d_X9_readBoth_16 mv_X9_readUnit at_327 ob_8_0 rfl (As := [.int y1]) rfl rfl (ps_room.of (by omega) (by decide)) (Nat.le_of_ble_eq_true rfl) (hrec_X9_readUnit y1 σ4 _ (ps_bdE hK)) ?_
      intro σ7 hT
      clear hK
      have hK := hT
      clear hT
      refine pm_ald d_X9_readBoth_19 rfl ?_
      refine pm_ki d_X9_readBoth_20 ?_
      refine ps_cVV d_X9_readBoth_23 mv_X9_codes at_327 ob_8_0 rfl (As := [.int 3007]) rfl rfl (ps_room.of (by omega) (by decide)) (Nat.le_of_ble_eq_true rfl) (C_X9_codes 3007 σ7 _ (ps_bdE hK)) ?_
      intro σ9 hT
      clear hK
      have hK := hT
      clear hT
      refine pm_goto d_X9_readBoth_26 ?_
      exact ih _ hK
def bX9_readBoth (rec : Nat → Int32 → ps_S → Option (Unit × ps_S)) (p1 : Int32) (σ : ps_S) : Option (Unit × ps_S) :=
  ps_bd (rec 6 p1 σ) (fun _ σ2 =>
  ps_bd (qX9_readBoth_5 rec p1 ps_N σ2) (fun res σ10 => match res with
  | _ =>
    some ((), σ10)))
set_option maxRecDepth 100000 in
theorem B_X9_readBoth {g : pm_G} (D : Nat) (hD : 8 ≤ D) (rec : Nat → Int32 → ps_S → Option (Unit × ps_S)) (D0 : Nat) (hD0 : D0 < D) (hrec_X9_readSum : ∀ (p1 : Int32) (σ : ps_S) (P : Unit → ps_S → Prop), ps_ok (rec 0 p1 σ) P → ps_C g mX9_readSum D0 [.ref (g.2.2.1 + 327), .int p1] σ (ps_qV P)) (hrec_X9_readTerm : ∀ (p1 : Int32) (σ : ps_S) (P : Unit → ps_S → Prop), ps_ok (rec 1 p1 σ) P → ps_C g mX9_readTerm D0 [.ref (g.2.2.1 + 327), .int p1] σ (ps_qV P)) (hrec_X9_readAtom : ∀ (p1 : Int32) (σ : ps_S) (P : Unit → ps_S → Prop), ps_ok (rec 2 p1 σ) P → ps_C g mX9_readAtom D0 [.ref (g.2.2.1 + 327), .int p1] σ (ps_qV P)) (hrec_X9_readIf : ∀ (p1 : Int32) (σ : ps_S) (P : Unit → ps_S → Prop), ps_ok (rec 3 p1 σ) P → ps_C g mX9_readIf D0 [.ref (g.2.2.1 + 327), .int p1] σ (ps_qV P)) (hrec_X9_readTruth : ∀ (p1 : Int32) (σ : ps_S) (P : Unit → ps_S → Prop), ps_ok (rec 4 p1 σ) P → ps_C g mX9_readTruth D0 [.ref (g.2.2.1 + 327), .int p1] σ (ps_qV P)) (hrec_X9_readBoth : ∀ (p1 : Int32) (σ : ps_S) (P : Unit → ps_S → Prop), ps_ok (rec 5 p1 σ) P → ps_C g mX9_readBoth D0 [.ref (g.2.2.1 + 327), .int p1] σ (ps_qV P)) (hrec_X9_readUnit : ∀ (p1 : Int32) (σ : ps_S) (P : Unit → ps_S → Prop), ps_ok (rec 6 p1 σ) P → ps_C g mX9_readUnit D0 [.ref (g.2.2.1 + 327), .int p1] σ (ps_qV P)) (p1 : Int32) (σ : ps_S) (P : Unit → ps_S → Prop) (hK : ps_ok (bX9_readBoth rec p1 σ) P) : ps_C g mX9_readBoth D [.ref (g.2.2.1 + 327), .int p1] σ (ps_qV P) := by
  unfold bX9_readBoth at hK
  refine ps_C.of (ls := [some (.ref (g.2.2.1 + 327)), some (.int p1)]) 0 (by decide) rfl (Nat.le_of_ble_eq_true rfl) rfl ?_
  refine pm_ald d_X9_readBoth_0 rfl ?_
  refine pm_ild d_X9_readBoth_1 rfl ?_
  refine ps_cVV d_X9_readBoth_2 mv_X9_readUnit at_327 ob_8_0 rfl (As := [.int p1]) rfl rfl (ps_room.of (by omega) (by decide)) (Nat.le_of_ble_eq_true rfl) (hrec_X9_readUnit p1 σ _ (ps_bdE hK)) ?_
  intro σ2 hT
  clear hK
  have hK := hT
  clear hT
  refine L_X9_readBoth_5 D hD rec D0 hD0 hrec_X9_readSum hrec_X9_readTerm hrec_X9_readAtom hrec_X9_readIf hrec_X9_readTruth hrec_X9_readBoth hrec_X9_readUnit p1 _ _ (ps_ok.mono (ps_bdE hK) ?_)
  rintro _ σ10 hT
  clear hK
  have hK := hT
  clear hT
  have hQ := ps_so hK
  exact ps_vret rfl d_X9_readBoth_29 ⟨rfl, hQ⟩
def bX9_readUnit (rec : Nat → Int32 → ps_S → Option (Unit × ps_S)) (p1 : Int32) (σ : ps_S) : Option (Unit × ps_S) :=
  ps_bd (qX9_is 23 σ) (fun v1 σ2 =>
  if v1 = 0 then
  ps_bd (qX9_is 37 σ2) (fun v4 σ5 =>
  if v4 = 0 then
  ps_bd (rec 0 p1 σ5) (fun _ σ8 =>
  ps_bd (qX9_is 39 σ8) (fun v9 σ10 =>
  if v9 = 0 then
  ps_bd (qX9_is 40 σ10) (fun v12 σ13 =>
  if v12 = 0 then
  ps_bd (qX9_is 39 σ13) (fun v15 σ16 =>
  if v15 = 0 then
  ps_bd (qX9_is 40 σ16) (fun v24 σ25 =>
  if v24 = 0 then
  ps_bd (qX9_is 41 σ25) (fun v33 σ34 =>
  if v33 = 0 then
  ps_bd (qX9_fails 2 σ34) (fun _ σ37 =>
  ps_bd (rec 0 p1 σ37) (fun _ σ39 =>
  ps_bd (qX9_codes 3005 σ39) (fun _ σ41 =>
  some ((), σ41))))
  else
  ps_bd (qX9_steps σ34) (fun _ σ43 =>
  ps_bd (rec 0 p1 σ43) (fun _ σ45 =>
  ps_bd (qX9_codes 3005 σ45) (fun _ σ47 =>
  some ((), σ47)))))
  else
  ps_bd (qX9_steps σ25) (fun _ σ28 =>
  ps_bd (rec 0 p1 σ28) (fun _ σ30 =>
  ps_bd (qX9_codes 3005 σ30) (fun _ σ32 =>
  some ((), σ32)))))
  else
  ps_bd (qX9_steps σ16) (fun _ σ19 =>
  ps_bd (rec 0 p1 σ19) (fun _ σ21 =>
  ps_bd (qX9_codes 3005 σ21) (fun _ σ23 =>
  some ((), σ23)))))
  else
  ps_bd (qX9_is 39 σ13) (fun v48 σ49 =>
  if v48 = 0 then
  ps_bd (qX9_is 40 σ49) (fun v57 σ58 =>
  if v57 = 0 then
  ps_bd (qX9_is 41 σ58) (fun v66 σ67 =>
  if v66 = 0 then
  ps_bd (qX9_fails 2 σ67) (fun _ σ70 =>
  ps_bd (rec 0 p1 σ70) (fun _ σ72 =>
  ps_bd (qX9_codes 3004 σ72) (fun _ σ74 =>
  some ((), σ74))))
  else
  ps_bd (qX9_steps σ67) (fun _ σ76 =>
  ps_bd (rec 0 p1 σ76) (fun _ σ78 =>
  ps_bd (qX9_codes 3004 σ78) (fun _ σ80 =>
  some ((), σ80)))))
  else
  ps_bd (qX9_steps σ58) (fun _ σ61 =>
  ps_bd (rec 0 p1 σ61) (fun _ σ63 =>
  ps_bd (qX9_codes 3004 σ63) (fun _ σ65 =>
  some ((), σ65)))))
  else
  ps_bd (qX9_steps σ49) (fun _ σ52 =>
  ps_bd (rec 0 p1 σ52) (fun _ σ54 =>
  ps_bd (qX9_codes 3004 σ54) (fun _ σ56 =>
  some ((), σ56))))))
  else
  ps_bd (qX9_is 39 σ10) (fun v81 σ82 =>
  if v81 = 0 then
  ps_bd (qX9_is 40 σ82) (fun v90 σ91 =>
  if v90 = 0 then
  ps_bd (qX9_is 41 σ91) (fun v99 σ100 =>
  if v99 = 0 then
  ps_bd (qX9_fails 2 σ100) (fun _ σ103 =>
  ps_bd (rec 0 p1 σ103) (fun _ σ105 =>
  ps_bd (qX9_codes 3003 σ105) (fun _ σ107 =>
  some ((), σ107))))
  else
  ps_bd (qX9_steps σ100) (fun _ σ109 =>
  ps_bd (rec 0 p1 σ109) (fun _ σ111 =>
  ps_bd (qX9_codes 3003 σ111) (fun _ σ113 =>
  some ((), σ113)))))
  else
  ps_bd (qX9_steps σ91) (fun _ σ94 =>
  ps_bd (rec 0 p1 σ94) (fun _ σ96 =>
  ps_bd (qX9_codes 3003 σ96) (fun _ σ98 =>
  some ((), σ98)))))
  else
  ps_bd (qX9_steps σ82) (fun _ σ85 =>
  ps_bd (rec 0 p1 σ85) (fun _ σ87 =>
  ps_bd (qX9_codes 3003 σ87) (fun _ σ89 =>
  some ((), σ89)))))))
  else
  ps_bd (qX9_goesIn p1 σ5) (fun v114 σ115 =>
  if v114 = 0 then
  some ((), σ115)
  else
  ps_bd (rec 4 ((p1 + 1)) σ115) (fun _ σ118 =>
  ps_bd (qX9_eats 38 σ118) (fun v119 σ120 =>
  if v119 = 0 then
  ps_bd (qX9_fails 2 σ120) (fun _ σ123 =>
  some ((), σ123))
  else
  some ((), σ120)))))
  else
  ps_bd (qX9_goesIn p1 σ2) (fun v124 σ125 =>
  if v124 = 0 then
  some ((), σ125)
  else
  ps_bd (rec 6 ((p1 + 1)) σ125) (fun _ σ128 =>
  ps_bd (qX9_codes 3006 σ128) (fun _ σ130 =>
  some ((), σ130)))))
set_option maxRecDepth 100000 in
theorem B_X9_readUnit {g : pm_G} (D : Nat) (hD : 8 ≤ D) (rec : Nat → Int32 → ps_S → Option (Unit × ps_S)) (D0 : Nat) (hD0 : D0 < D) (hrec_X9_readSum : ∀ (p1 : Int32) (σ : ps_S) (P : Unit → ps_S → Prop), ps_ok (rec 0 p1 σ) P → ps_C g mX9_readSum D0 [.ref (g.2.2.1 + 327), .int p1] σ (ps_qV P)) (hrec_X9_readTerm : ∀ (p1 : Int32) (σ : ps_S) (P : Unit → ps_S → Prop), ps_ok (rec 1 p1 σ) P → ps_C g mX9_readTerm D0 [.ref (g.2.2.1 + 327), .int p1] σ (ps_qV P)) (hrec_X9_readAtom : ∀ (p1 : Int32) (σ : ps_S) (P : Unit → ps_S → Prop), ps_ok (rec 2 p1 σ) P → ps_C g mX9_readAtom D0 [.ref (g.2.2.1 + 327), .int p1] σ (ps_qV P)) (hrec_X9_readIf : ∀ (p1 : Int32) (σ : ps_S) (P : Unit → ps_S → Prop), ps_ok (rec 3 p1 σ) P → ps_C g mX9_readIf D0 [.ref (g.2.2.1 + 327), .int p1] σ (ps_qV P)) (hrec_X9_readTruth : ∀ (p1 : Int32) (σ : ps_S) (P : Unit → ps_S → Prop), ps_ok (rec 4 p1 σ) P → ps_C g mX9_readTruth D0 [.ref (g.2.2.1 + 327), .int p1] σ (ps_qV P)) (hrec_X9_readBoth : ∀ (p1 : Int32) (σ : ps_S) (P : Unit → ps_S → Prop), ps_ok (rec 5 p1 σ) P → ps_C g mX9_readBoth D0 [.ref (g.2.2.1 + 327), .int p1] σ (ps_qV P)) (hrec_X9_readUnit : ∀ (p1 : Int32) (σ : ps_S) (P : Unit → ps_S → Prop), ps_ok (rec 6 p1 σ) P → ps_C g mX9_readUnit D0 [.ref (g.2.2.1 + 327), .int p1] σ (ps_qV P)) (p1 : Int32) (σ : ps_S) (P : Unit → ps_S → Prop) (hK : ps_ok (bX9_readUnit rec p1 σ) P) : ps_C g mX9_readUnit D [.ref (g.2.2.1 + 327), .int p1] σ (ps_qV P) := by
  unfold bX9_readUnit at hK
  refine ps_C.of (ls := [some (.ref (g.2.2.1 + 327)), some (.int p1), none]) 1 (by decide) rfl (Nat.le_of_ble_eq_true rfl) rfl ?_
  refine pm_ald d_X9_readUnit_0 rfl ?_
  refine pm_ki d_X9_readUnit_1 ?_
  refine ps_cVI d_X9_readUnit_3 mv_X9_is at_327 ob_8_0 rfl (As := [.int 23]) rfl rfl (ps_room.of (by omega) (by decide)) (Nat.le_of_ble_eq_true rfl) (C_X9_is 23 σ _ (ps_bdE hK)) ?_
  intro v1 σ2 hT
  clear hK
  have hK := hT
  clear hT
  refine pm_if_eq d_X9_readUnit_6 (fun c3 => ?_) (fun c3 => ?_)
  · replace hK := ps_ifT c3 hK
    refine pm_ald d_X9_readUnit_33 rfl ?_
    refine pm_ki d_X9_readUnit_34 ?_
    refine ps_cVI d_X9_readUnit_36 mv_X9_is at_327 ob_8_0 rfl (As := [.int 37]) rfl rfl (ps_room.of (by omega) (by decide)) (Nat.le_of_ble_eq_true rfl) (C_X9_is 37 σ2 _ (ps_bdE hK)) ?_
    intro v4 σ5 hT
    clear hK
    have hK := hT
    clear hT
    refine pm_if_eq d_X9_readUnit_39 (fun c6 => ?_) (fun c6 => ?_)
    · replace hK := ps_ifT c6 hK
      refine pm_ald d_X9_readUnit_73 rfl ?_
      refine pm_ild d_X9_readUnit_74 rfl ?_
      refine ps_cVV d_X9_readUnit_75 mv_X9_readSum at_327 ob_8_0 rfl (As := [.int p1]) rfl rfl (ps_room.of (by omega) (by decide)) (Nat.le_of_ble_eq_true rfl) (hrec_X9_readSum p1 σ5 _ (ps_bdE hK)) ?_
      intro σ8 hT
      clear hK
      have hK := hT
      clear hT
      refine pm_ald d_X9_readUnit_78 rfl ?_
      refine pm_ki d_X9_readUnit_79 ?_
      refine ps_cVI d_X9_readUnit_81 mv_X9_is at_327 ob_8_0 rfl (As := [.int 39]) rfl rfl (ps_room.of (by omega) (by decide)) (Nat.le_of_ble_eq_true rfl) (C_X9_is 39 σ8 _ (ps_bdE hK)) ?_
      intro v9 σ10 hT
      clear hK
      have hK := hT
      clear hT
      refine pm_if_eq d_X9_readUnit_84 (fun c11 => ?_) (fun c11 => ?_)
      · replace hK := ps_ifT c11 hK
        refine pm_ald d_X9_readUnit_93 rfl ?_
        refine pm_ki d_X9_readUnit_94 ?_
        refine ps_cVI d_X9_readUnit_96 mv_X9_is at_327 ob_8_0 rfl (As := [.int 40]) rfl rfl (ps_room.of (by omega) (by decide)) (Nat.le_of_ble_eq_true rfl) (C_X9_is 40 σ10 _ (ps_bdE hK)) ?_
        intro v12 σ13 hT
        clear hK
        have hK := hT
        clear hT
        refine pm_if_eq d_X9_readUnit_99 (fun c14 => ?_) (fun c14 => ?_)
        · replace hK := ps_ifT c14 hK
          refine pm_ki d_X9_readUnit_108 ?_
          refine pm_ist2 d_X9_readUnit_111 rfl (by decide) ?_
          refine pm_ald d_X9_readUnit_112 rfl ?_
          refine pm_ki d_X9_readUnit_113 ?_
          refine ps_cVI d_X9_readUnit_115 mv_X9_is at_327 ob_8_0 rfl (As := [.int 39]) rfl rfl (ps_room.of (by omega) (by decide)) (Nat.le_of_ble_eq_true rfl) (C_X9_is 39 σ13 _ (ps_bdE hK)) ?_
          intro v15 σ16 hT
          clear hK
          have hK := hT
          clear hT
          refine pm_if_ne d_X9_readUnit_118 (fun c17 => ?_) (fun c17 => ?_)
          · replace hK := ps_ifF c17 hK
            refine pm_ald d_X9_readUnit_139 rfl ?_
            refine ps_cVV d_X9_readUnit_140 mv_X9_steps at_327 ob_8_0 rfl (As := []) rfl rfl (ps_room.of (by omega) (by decide)) (Nat.le_of_ble_eq_true rfl) (C_X9_steps σ16 _ (ps_bdE hK)) ?_
            intro σ19 hT
            clear hK
            have hK := hT
            clear hT
            refine pm_goto d_X9_readUnit_143 ?_
            refine pm_ald d_X9_readUnit_151 rfl ?_
            refine pm_ild d_X9_readUnit_152 rfl ?_
            refine ps_cVV d_X9_readUnit_153 mv_X9_readSum at_327 ob_8_0 rfl (As := [.int p1]) rfl rfl (ps_room.of (by omega) (by decide)) (Nat.le_of_ble_eq_true rfl) (hrec_X9_readSum p1 σ19 _ (ps_bdE hK)) ?_
            intro σ21 hT
            clear hK
            have hK := hT
            clear hT
            refine pm_ald d_X9_readUnit_156 rfl ?_
            refine pm_ild d_X9_readUnit_157 rfl ?_
            refine ps_cVV d_X9_readUnit_158 mv_X9_codes at_327 ob_8_0 rfl (As := [.int 3005]) rfl rfl (ps_room.of (by omega) (by decide)) (Nat.le_of_ble_eq_true rfl) (C_X9_codes 3005 σ21 _ (ps_bdE hK)) ?_
            intro σ23 hT
            clear hK
            have hK := hT
            clear hT
            have hQ := ps_so hK
            exact ps_vret rfl d_X9_readUnit_161 ⟨rfl, hQ⟩
          · replace hK := ps_ifT c17 hK
            refine pm_ald d_X9_readUnit_121 rfl ?_
            refine pm_ki d_X9_readUnit_122 ?_
            refine ps_cVI d_X9_readUnit_124 mv_X9_is at_327 ob_8_0 rfl (As := [.int 40]) rfl rfl (ps_room.of (by omega) (by decide)) (Nat.le_of_ble_eq_true rfl) (C_X9_is 40 σ16 _ (ps_bdE hK)) ?_
            intro v24 σ25 hT
            clear hK
            have hK := hT
            clear hT
            refine pm_if_ne d_X9_readUnit_127 (fun c26 => ?_) (fun c26 => ?_)
            · replace hK := ps_ifF c26 hK
              refine pm_ald d_X9_readUnit_139 rfl ?_
              refine ps_cVV d_X9_readUnit_140 mv_X9_steps at_327 ob_8_0 rfl (As := []) rfl rfl (ps_room.of (by omega) (by decide)) (Nat.le_of_ble_eq_true rfl) (C_X9_steps σ25 _ (ps_bdE hK)) ?_
              intro σ28 hT
              clear hK
              have hK := hT
              clear hT
              refine pm_goto d_X9_readUnit_143 ?_
              refine pm_ald d_X9_readUnit_151 rfl ?_
              refine pm_ild d_X9_readUnit_152 rfl ?_
              refine ps_cVV d_X9_readUnit_153 mv_X9_readSum at_327 ob_8_0 rfl (As := [.int p1]) rfl rfl (ps_room.of (by omega) (by decide)) (Nat.le_of_ble_eq_true rfl) (hrec_X9_readSum p1 σ28 _ (ps_bdE hK)) ?_
              intro σ30 hT
              clear hK
              have hK := hT
              clear hT
              refine pm_ald d_X9_readUnit_156 rfl ?_
              refine pm_ild d_X9_readUnit_157 rfl ?_
              refine ps_cVV d_X9_readUnit_158 mv_X9_codes at_327 ob_8_0 rfl (As := [.int 3005]) rfl rfl (ps_room.of (by omega) (by decide)) (Nat.le_of_ble_eq_true rfl) (C_X9_codes 3005 σ30 _ (ps_bdE hK)) ?_
              intro σ32 hT
              clear hK
              have hK := hT
              clear hT
              have hQ := ps_so hK
              exact ps_vret rfl d_X9_readUnit_161 ⟨rfl, hQ⟩
            · replace hK := ps_ifT c26 hK
              refine pm_ald d_X9_readUnit_130 rfl ?_
              refine pm_ki d_X9_readUnit_131 ?_
              refine ps_cVI d_X9_readUnit_133 mv_X9_is at_327 ob_8_0 rfl (As := [.int 41]) rfl rfl (ps_room.of (by omega) (by decide)) (Nat.le_of_ble_eq_true rfl) (C_X9_is 41 σ25 _ (ps_bdE hK)) ?_
              intro v33 σ34 hT
              clear hK
              have hK := hT
              clear hT
              refine pm_if_eq d_X9_readUnit_136 (fun c35 => ?_) (fun c35 => ?_)
              · replace hK := ps_ifT c35 hK
                refine pm_ald d_X9_readUnit_146 rfl ?_
                refine pm_ki d_X9_readUnit_147 ?_
                refine ps_cVV d_X9_readUnit_148 mv_X9_fails at_327 ob_8_0 rfl (As := [.int 2]) rfl rfl (ps_room.of (by omega) (by decide)) (Nat.le_of_ble_eq_true rfl) (C_X9_fails 2 σ34 _ (ps_bdE hK)) ?_
                intro σ37 hT
                clear hK
                have hK := hT
                clear hT
                refine pm_ald d_X9_readUnit_151 rfl ?_
                refine pm_ild d_X9_readUnit_152 rfl ?_
                refine ps_cVV d_X9_readUnit_153 mv_X9_readSum at_327 ob_8_0 rfl (As := [.int p1]) rfl rfl (ps_room.of (by omega) (by decide)) (Nat.le_of_ble_eq_true rfl) (hrec_X9_readSum p1 σ37 _ (ps_bdE hK)) ?_
                intro σ39 hT
                clear hK
                have hK := hT
                clear hT
                refine pm_ald d_X9_readUnit_156 rfl ?_
                refine pm_ild d_X9_readUnit_157 rfl ?_
                refine ps_cVV d_X9_readUnit_158 mv_X9_codes at_327 ob_8_0 rfl (As := [.int 3005]) rfl rfl (ps_room.of (by omega) (by decide)) (Nat.le_of_ble_eq_true rfl) (C_X9_codes 3005 σ39 _ (ps_bdE hK)) ?_
                intro σ41 hT
                clear hK
                have hK := hT
                clear hT
                have hQ := ps_so hK
                exact ps_vret rfl d_X9_readUnit_161 ⟨rfl, hQ⟩
              · replace hK := ps_ifF c35 hK
                refine pm_ald d_X9_readUnit_139 rfl ?_
                refine ps_cVV d_X9_readUnit_140 mv_X9_steps at_327 ob_8_0 rfl (As := []) rfl rfl (ps_room.of (by omega) (by decide)) (Nat.le_of_ble_eq_true rfl) (C_X9_steps σ34 _ (ps_bdE hK)) ?_
                intro σ43 hT
                clear hK
                have hK := hT
                clear hT
                refine pm_goto d_X9_readUnit_143 ?_
                refine pm_ald d_X9_readUnit_151 rfl ?_
                refine pm_ild d_X9_readUnit_152 rfl ?_
                refine ps_cVV d_X9_readUnit_153 mv_X9_readSum at_327 ob_8_0 rfl (As := [.int p1]) rfl rfl (ps_room.of (by omega) (by decide)) (Nat.le_of_ble_eq_true rfl) (hrec_X9_readSum p1 σ43 _ (ps_bdE hK)) ?_
                intro σ45 hT
                clear hK
                have hK := hT
                clear hT
                refine pm_ald d_X9_readUnit_156 rfl ?_
                refine pm_ild d_X9_readUnit_157 rfl ?_
                refine ps_cVV d_X9_readUnit_158 mv_X9_codes at_327 ob_8_0 rfl (As := [.int 3005]) rfl rfl (ps_room.of (by omega) (by decide)) (Nat.le_of_ble_eq_true rfl) (C_X9_codes 3005 σ45 _ (ps_bdE hK)) ?_
                intro σ47 hT
                clear hK
                have hK := hT
                clear hT
                have hQ := ps_so hK
                exact ps_vret rfl d_X9_readUnit_161 ⟨rfl, hQ⟩
        · replace hK := ps_ifF c14 hK
          refine pm_ki d_X9_readUnit_102 ?_
          refine pm_goto d_X9_readUnit_105 ?_
          refine pm_ist2 d_X9_readUnit_111 rfl (by decide) ?_
          refine pm_ald d_X9_readUnit_112 rfl ?_
          refine pm_ki d_X9_readUnit_113 ?_
          refine ps_cVI d_X9_readUnit_115 mv_X9_is at_327 ob_8_0 rfl (As := [.int 39]) rfl rfl (ps_room.of (by omega) (by decide)) (Nat.le_of_ble_eq_true rfl) (C_X9_is 39 σ13 _ (ps_bdE hK)) ?_
          intro v48 σ49 hT
          clear hK
          have hK := hT
          clear hT
          refine pm_if_ne d_X9_readUnit_118 (fun c50 => ?_) (fun c50 => ?_)
          · replace hK := ps_ifF c50 hK
            refine pm_ald d_X9_readUnit_139 rfl ?_
            refine ps_cVV d_X9_readUnit_140 mv_X9_steps at_327 ob_8_0 rfl (As := []) rfl rfl (ps_room.of (by omega) (by decide)) (Nat.le_of_ble_eq_true rfl) (C_X9_steps σ49 _ (ps_bdE hK)) ?_
            intro σ52 hT
            clear hK
            have hK := hT
            clear hT
            refine pm_goto d_X9_readUnit_143 ?_
            refine pm_ald d_X9_readUnit_151 rfl ?_
            refine pm_ild d_X9_readUnit_152 rfl ?_
            refine ps_cVV d_X9_readUnit_153 mv_X9_readSum at_327 ob_8_0 rfl (As := [.int p1]) rfl rfl (ps_room.of (by omega) (by decide)) (Nat.le_of_ble_eq_true rfl) (hrec_X9_readSum p1 σ52 _ (ps_bdE hK)) ?_
            intro σ54 hT
            clear hK
            have hK := hT
            clear hT
            refine pm_ald d_X9_readUnit_156 rfl ?_
            refine pm_ild d_X9_readUnit_157 rfl ?_
            refine ps_cVV d_X9_readUnit_158 mv_X9_codes at_327 ob_8_0 rfl (As := [.int 3004]) rfl rfl (ps_room.of (by omega) (by decide)) (Nat.le_of_ble_eq_true rfl) (C_X9_codes 3004 σ54 _ (ps_bdE hK)) ?_
            intro σ56 hT
            clear hK
            have hK := hT
            clear hT
            have hQ := ps_so hK
            exact ps_vret rfl d_X9_readUnit_161 ⟨rfl, hQ⟩
          · replace hK := ps_ifT c50 hK
            refine pm_ald d_X9_readUnit_121 rfl ?_
            refine pm_ki d_X9_readUnit_122 ?_
            refine ps_cVI d_X9_readUnit_124 mv_X9_is at_327 ob_8_0 rfl (As := [.int 40]) rfl rfl (ps_room.of (by omega) (by decide)) (Nat.le_of_ble_eq_true rfl) (C_X9_is 40 σ49 _ (ps_bdE hK)) ?_
            intro v57 σ58 hT
            clear hK
            have hK := hT
            clear hT
            refine pm_if_ne d_X9_readUnit_127 (fun c59 => ?_) (fun c59 => ?_)
            · replace hK := ps_ifF c59 hK
              refine pm_ald d_X9_readUnit_139 rfl ?_
              refine ps_cVV d_X9_readUnit_140 mv_X9_steps at_327 ob_8_0 rfl (As := []) rfl rfl (ps_room.of (by omega) (by decide)) (Nat.le_of_ble_eq_true rfl) (C_X9_steps σ58 _ (ps_bdE hK)) ?_
              intro σ61 hT
              clear hK
              have hK := hT
              clear hT
              refine pm_goto d_X9_readUnit_143 ?_
              refine pm_ald d_X9_readUnit_151 rfl ?_
              refine pm_ild d_X9_readUnit_152 rfl ?_
              refine ps_cVV d_X9_readUnit_153 mv_X9_readSum at_327 ob_8_0 rfl (As := [.int p1]) rfl rfl (ps_room.of (by omega) (by decide)) (Nat.le_of_ble_eq_true rfl) (hrec_X9_readSum p1 σ61 _ (ps_bdE hK)) ?_
              intro σ63 hT
              clear hK
              have hK := hT
              clear hT
              refine pm_ald d_X9_readUnit_156 rfl ?_
              refine pm_ild d_X9_readUnit_157 rfl ?_
              refine ps_cVV d_X9_readUnit_158 mv_X9_codes at_327 ob_8_0 rfl (As := [.int 3004]) rfl rfl (ps_room.of (by omega) (by decide)) (Nat.le_of_ble_eq_true rfl) (C_X9_codes 3004 σ63 _ (ps_bdE hK)) ?_
              intro σ65 hT
              clear hK
              have hK := hT
              clear hT
              have hQ := ps_so hK
              exact ps_vret rfl d_X9_readUnit_161 ⟨rfl, hQ⟩
            · replace hK := ps_ifT c59 hK
              refine pm_ald d_X9_readUnit_130 rfl ?_
              refine pm_ki d_X9_readUnit_131 ?_
              refine ps_cVI d_X9_readUnit_133 mv_X9_is at_327 ob_8_0 rfl (As := [.int 41]) rfl rfl (ps_room.of (by omega) (by decide)) (Nat.le_of_ble_eq_true rfl) (C_X9_is 41 σ58 _ (ps_bdE hK)) ?_
              intro v66 σ67 hT
              clear hK
              have hK := hT
              clear hT
              refine pm_if_eq d_X9_readUnit_136 (fun c68 => ?_) (fun c68 => ?_)
              · replace hK := ps_ifT c68 hK
                refine pm_ald d_X9_readUnit_146 rfl ?_
                refine pm_ki d_X9_readUnit_147 ?_
                refine ps_cVV d_X9_readUnit_148 mv_X9_fails at_327 ob_8_0 rfl (As := [.int 2]) rfl rfl (ps_room.of (by omega) (by decide)) (Nat.le_of_ble_eq_true rfl) (C_X9_fails 2 σ67 _ (ps_bdE hK)) ?_
                intro σ70 hT
                clear hK
                have hK := hT
                clear hT
                refine pm_ald d_X9_readUnit_151 rfl ?_
                refine pm_ild d_X9_readUnit_152 rfl ?_
                refine ps_cVV d_X9_readUnit_153 mv_X9_readSum at_327 ob_8_0 rfl (As := [.int p1]) rfl rfl (ps_room.of (by omega) (by decide)) (Nat.le_of_ble_eq_true rfl) (hrec_X9_readSum p1 σ70 _ (ps_bdE hK)) ?_
                intro σ72 hT
                clear hK
                have hK := hT
                clear hT
                refine pm_ald d_X9_readUnit_156 rfl ?_
                refine pm_ild d_X9_readUnit_157 rfl ?_
                refine ps_cVV d_X9_readUnit_158 mv_X9_codes at_327 ob_8_0 rfl (As := [.int 3004]) rfl rfl (ps_room.of (by omega) (by decide)) (Nat.le_of_ble_eq_true rfl) (C_X9_codes 3004 σ72 _ (ps_bdE hK)) ?_
                intro σ74 hT
                clear hK
                have hK := hT
                clear hT
                have hQ := ps_so hK
                exact ps_vret rfl d_X9_readUnit_161 ⟨rfl, hQ⟩
              · replace hK := ps_ifF c68 hK
                refine pm_ald d_X9_readUnit_139 rfl ?_
                refine ps_cVV d_X9_readUnit_140 mv_X9_steps at_327 ob_8_0 rfl (As := []) rfl rfl (ps_room.of (by omega) (by decide)) (Nat.le_of_ble_eq_true rfl) (C_X9_steps σ67 _ (ps_bdE hK)) ?_
                intro σ76 hT
                clear hK
                have hK := hT
                clear hT
                refine pm_goto d_X9_readUnit_143 ?_
                refine pm_ald d_X9_readUnit_151 rfl ?_
                refine pm_ild d_X9_readUnit_152 rfl ?_
                refine ps_cVV d_X9_readUnit_153 mv_X9_readSum at_327 ob_8_0 rfl (As := [.int p1]) rfl rfl (ps_room.of (by omega) (by decide)) (Nat.le_of_ble_eq_true rfl) (hrec_X9_readSum p1 σ76 _ (ps_bdE hK)) ?_
                intro σ78 hT
                clear hK
                have hK := hT
                clear hT
                refine pm_ald d_X9_readUnit_156 rfl ?_
                refine pm_ild d_X9_readUnit_157 rfl ?_
                refine ps_cVV d_X9_readUnit_158 mv_X9_codes at_327 ob_8_0 rfl (As := [.int 3004]) rfl rfl (ps_room.of (by omega) (by decide)) (Nat.le_of_ble_eq_true rfl) (C_X9_codes 3004 σ78 _ (ps_bdE hK)) ?_
                intro σ80 hT
                clear hK
                have hK := hT
                clear hT
                have hQ := ps_so hK
                exact ps_vret rfl d_X9_readUnit_161 ⟨rfl, hQ⟩
      · replace hK := ps_ifF c11 hK
        refine pm_ki d_X9_readUnit_87 ?_
        refine pm_goto d_X9_readUnit_90 ?_
        refine pm_ist2 d_X9_readUnit_111 rfl (by decide) ?_
        refine pm_ald d_X9_readUnit_112 rfl ?_
        refine pm_ki d_X9_readUnit_113 ?_
        refine ps_cVI d_X9_readUnit_115 mv_X9_is at_327 ob_8_0 rfl (As := [.int 39]) rfl rfl (ps_room.of (by omega) (by decide)) (Nat.le_of_ble_eq_true rfl) (C_X9_is 39 σ10 _ (ps_bdE hK)) ?_
        intro v81 σ82 hT
        clear hK
        have hK := hT
        clear hT
        refine pm_if_ne d_X9_readUnit_118 (fun c83 => ?_) (fun c83 => ?_)
        · replace hK := ps_ifF c83 hK
          refine pm_ald d_X9_readUnit_139 rfl ?_
          refine ps_cVV d_X9_readUnit_140 mv_X9_steps at_327 ob_8_0 rfl (As := []) rfl rfl (ps_room.of (by omega) (by decide)) (Nat.le_of_ble_eq_true rfl) (C_X9_steps σ82 _ (ps_bdE hK)) ?_
          intro σ85 hT
          clear hK
          have hK := hT
          clear hT
          refine pm_goto d_X9_readUnit_143 ?_
          refine pm_ald d_X9_readUnit_151 rfl ?_
          refine pm_ild d_X9_readUnit_152 rfl ?_
          refine ps_cVV d_X9_readUnit_153 mv_X9_readSum at_327 ob_8_0 rfl (As := [.int p1]) rfl rfl (ps_room.of (by omega) (by decide)) (Nat.le_of_ble_eq_true rfl) (hrec_X9_readSum p1 σ85 _ (ps_bdE hK)) ?_
          intro σ87 hT
          clear hK
          have hK := hT
          clear hT
          refine pm_ald d_X9_readUnit_156 rfl ?_
          refine pm_ild d_X9_readUnit_157 rfl ?_
          refine ps_cVV d_X9_readUnit_158 mv_X9_codes at_327 ob_8_0 rfl (As := [.int 3003]) rfl rfl (ps_room.of (by omega) (by decide)) (Nat.le_of_ble_eq_true rfl) (C_X9_codes 3003 σ87 _ (ps_bdE hK)) ?_
          intro σ89 hT
          clear hK
          have hK := hT
          clear hT
          have hQ := ps_so hK
          exact ps_vret rfl d_X9_readUnit_161 ⟨rfl, hQ⟩
        · replace hK := ps_ifT c83 hK
          refine pm_ald d_X9_readUnit_121 rfl ?_
          refine pm_ki d_X9_readUnit_122 ?_
          refine ps_cVI d_X9_readUnit_124 mv_X9_is at_327 ob_8_0 rfl (As := [.int 40]) rfl rfl (ps_room.of (by omega) (by decide)) (Nat.le_of_ble_eq_true rfl) (C_X9_is 40 σ82 _ (ps_bdE hK)) ?_
          intro v90 σ91 hT
          clear hK
          have hK := hT
          clear hT
          refine pm_if_ne d_X9_readUnit_127 (fun c92 => ?_) (fun c92 => ?_)
          · replace hK := ps_ifF c92 hK
            refine pm_ald d_X9_readUnit_139 rfl ?_
            refine ps_cVV d_X9_readUnit_140 mv_X9_steps at_327 ob_8_0 rfl (As := []) rfl rfl (ps_room.of (by omega) (by decide)) (Nat.le_of_ble_eq_true rfl) (C_X9_steps σ91 _ (ps_bdE hK)) ?_
            intro σ94 hT
            clear hK
            have hK := hT
            clear hT
            refine pm_goto d_X9_readUnit_143 ?_
            refine pm_ald d_X9_readUnit_151 rfl ?_
            refine pm_ild d_X9_readUnit_152 rfl ?_
            refine ps_cVV d_X9_readUnit_153 mv_X9_readSum at_327 ob_8_0 rfl (As := [.int p1]) rfl rfl (ps_room.of (by omega) (by decide)) (Nat.le_of_ble_eq_true rfl) (hrec_X9_readSum p1 σ94 _ (ps_bdE hK)) ?_
            intro σ96 hT
            clear hK
            have hK := hT
            clear hT
            refine pm_ald d_X9_readUnit_156 rfl ?_
            refine pm_ild d_X9_readUnit_157 rfl ?_
            refine ps_cVV d_X9_readUnit_158 mv_X9_codes at_327 ob_8_0 rfl (As := [.int 3003]) rfl rfl (ps_room.of (by omega) (by decide)) (Nat.le_of_ble_eq_true rfl) (C_X9_codes 3003 σ96 _ (ps_bdE hK)) ?_
            intro σ98 hT
            clear hK
            have hK := hT
            clear hT
            have hQ := ps_so hK
            exact ps_vret rfl d_X9_readUnit_161 ⟨rfl, hQ⟩
          · replace hK := ps_ifT c92 hK
            refine pm_ald d_X9_readUnit_130 rfl ?_
            refine pm_ki d_X9_readUnit_131 ?_
            refine ps_cVI d_X9_readUnit_133 mv_X9_is at_327 ob_8_0 rfl (As := [.int 41]) rfl rfl (ps_room.of (by omega) (by decide)) (Nat.le_of_ble_eq_true rfl) (C_X9_is 41 σ91 _ (ps_bdE hK)) ?_
            intro v99 σ100 hT
            clear hK
            have hK := hT
            clear hT
            refine pm_if_eq d_X9_readUnit_136 (fun c101 => ?_) (fun c101 => ?_)
            · replace hK := ps_ifT c101 hK
              refine pm_ald d_X9_readUnit_146 rfl ?_
              refine pm_ki d_X9_readUnit_147 ?_
              refine ps_cVV d_X9_readUnit_148 mv_X9_fails at_327 ob_8_0 rfl (As := [.int 2]) rfl rfl (ps_room.of (by omega) (by decide)) (Nat.le_of_ble_eq_true rfl) (C_X9_fails 2 σ100 _ (ps_bdE hK)) ?_
              intro σ103 hT
              clear hK
              have hK := hT
              clear hT
              refine pm_ald d_X9_readUnit_151 rfl ?_
              refine pm_ild d_X9_readUnit_152 rfl ?_
              refine ps_cVV d_X9_readUnit_153 mv_X9_readSum at_327 ob_8_0 rfl (As := [.int p1]) rfl rfl (ps_room.of (by omega) (by decide)) (Nat.le_of_ble_eq_true rfl) (hrec_X9_readSum p1 σ103 _ (ps_bdE hK)) ?_
              intro σ105 hT
              clear hK
              have hK := hT
              clear hT
              refine pm_ald d_X9_readUnit_156 rfl ?_
              refine pm_ild d_X9_readUnit_157 rfl ?_
              refine ps_cVV d_X9_readUnit_158 mv_X9_codes at_327 ob_8_0 rfl (As := [.int 3003]) rfl rfl (ps_room.of (by omega) (by decide)) (Nat.le_of_ble_eq_true rfl) (C_X9_codes 3003 σ105 _ (ps_bdE hK)) ?_
              intro σ107 hT
              clear hK
              have hK := hT
              clear hT
              have hQ := ps_so hK
              exact ps_vret rfl d_X9_readUnit_161 ⟨rfl, hQ⟩
            · replace hK := ps_ifF c101 hK
              refine pm_ald d_X9_readUnit_139 rfl ?_
              refine ps_cVV d_X9_readUnit_140 mv_X9_steps at_327 ob_8_0 rfl (As := []) rfl rfl (ps_room.of (by omega) (by decide)) (Nat.le_of_ble_eq_true rfl) (C_X9_steps σ100 _ (ps_bdE hK)) ?_
              intro σ109 hT
              clear hK
              have hK := hT
              clear hT
              refine pm_goto d_X9_readUnit_143 ?_
              refine pm_ald d_X9_readUnit_151 rfl ?_
              refine pm_ild d_X9_readUnit_152 rfl ?_
              refine ps_cVV d_X9_readUnit_153 mv_X9_readSum at_327 ob_8_0 rfl (As := [.int p1]) rfl rfl (ps_room.of (by omega) (by decide)) (Nat.le_of_ble_eq_true rfl) (hrec_X9_readSum p1 σ109 _ (ps_bdE hK)) ?_
              intro σ111 hT
              clear hK
              have hK := hT
              clear hT
              refine pm_ald d_X9_readUnit_156 rfl ?_
              refine pm_ild d_X9_readUnit_157 rfl ?_
              refine ps_cVV d_X9_readUnit_158 mv_X9_codes at_327 ob_8_0 rfl (As := [.int 3003]) rfl rfl (ps_room.of (by omega) (by decide)) (Nat.le_of_ble_eq_true rfl) (C_X9_codes 3003 σ111 _ (ps_bdE hK)) ?_
              intro σ113 hT
              clear hK
              have hK := hT
              clear hT
              have hQ := ps_so hK
              exact ps_vret rfl d_X9_readUnit_161 ⟨rfl, hQ⟩
    · replace hK := ps_ifF c6 hK
      refine pm_ald d_X9_readUnit_42 rfl ?_
      refine pm_ild d_X9_readUnit_43 rfl ?_
      refine ps_cVI d_X9_readUnit_44 mv_X9_goesIn at_327 ob_8_0 rfl (As := [.int p1]) rfl rfl (ps_room.of (by omega) (by decide)) (Nat.le_of_ble_eq_true rfl) (C_X9_goesIn p1 σ5 _ (ps_bdE hK)) ?_
      intro v114 σ115 hT
      clear hK
      have hK := hT
      clear hT
      refine pm_if_ne d_X9_readUnit_47 (fun c116 => ?_) (fun c116 => ?_)
      · replace hK := ps_ifF c116 hK
        refine pm_ald d_X9_readUnit_51 rfl ?_
        refine pm_ild d_X9_readUnit_52 rfl ?_
        refine pm_ki d_X9_readUnit_53 ?_
        refine pm_iadd d_X9_readUnit_54 ?_
        refine ps_cVV d_X9_readUnit_55 mv_X9_readTruth at_327 ob_8_0 rfl (As := [.int (p1 + 1)]) rfl rfl (ps_room.of (by omega) (by decide)) (Nat.le_of_ble_eq_true rfl) (hrec_X9_readTruth ((p1 + 1)) σ115 _ (ps_bdE hK)) ?_
        intro σ118 hT
        clear hK
        have hK := hT
        clear hT
        refine pm_ald d_X9_readUnit_58 rfl ?_
        refine pm_ki d_X9_readUnit_59 ?_
        refine ps_cVI d_X9_readUnit_61 mv_X9_eats at_327 ob_8_0 rfl (As := [.int 38]) rfl rfl (ps_room.of (by omega) (by decide)) (Nat.le_of_ble_eq_true rfl) (C_X9_eats 38 σ118 _ (ps_bdE hK)) ?_
        intro v119 σ120 hT
        clear hK
        have hK := hT
        clear hT
        refine pm_if_ne d_X9_readUnit_64 (fun c121 => ?_) (fun c121 => ?_)
        · replace hK := ps_ifF c121 hK
          have hQ := ps_so hK
          exact ps_vret rfl d_X9_readUnit_72 ⟨rfl, hQ⟩
        · replace hK := ps_ifT c121 hK
          refine pm_ald d_X9_readUnit_67 rfl ?_
          refine pm_ki d_X9_readUnit_68 ?_
          refine ps_cVV d_X9_readUnit_69 mv_X9_fails at_327 ob_8_0 rfl (As := [.int 2]) rfl rfl (ps_room.of (by omega) (by decide)) (Nat.le_of_ble_eq_true rfl) (C_X9_fails 2 σ120 _ (ps_bdE hK)) ?_
          intro σ123 hT
          clear hK
          have hK := hT
          clear hT
          have hQ := ps_so hK
          exact ps_vret rfl d_X9_readUnit_72 ⟨rfl, hQ⟩
      · replace hK := ps_ifT c116 hK
        have hQ := ps_so hK
        exact ps_vret rfl d_X9_readUnit_50 ⟨rfl, hQ⟩
  · replace hK := ps_ifF c3 hK
    refine pm_ald d_X9_readUnit_9 rfl ?_
    refine pm_ild d_X9_readUnit_10 rfl ?_
    refine ps_cVI d_X9_readUnit_11 mv_X9_goesIn at_327 ob_8_0 rfl (As := [.int p1]) rfl rfl (ps_room.of (by omega) (by decide)) (Nat.le_of_ble_eq_true rfl) (C_X9_goesIn p1 σ2 _ (ps_bdE hK)) ?_
    intro v124 σ125 hT
    clear hK
    have hK := hT
    clear hT
    refine pm_if_ne d_X9_readUnit_14 (fun c126 => ?_) (fun c126 => ?_)
    · replace hK := ps_ifF c126 hK
      refine pm_ald d_X9_readUnit_18 rfl ?_
      refine pm_ild d_X9_readUnit_19 rfl ?_
      refine pm_ki d_X9_readUnit_20 ?_
      refine pm_iadd d_X9_readUnit_21 ?_
      refine ps_cVV d_X9_readUnit_22 mv_X9_readUnit at_327 ob_8_0 rfl (As := [.int (p1 + 1)]) rfl rfl (ps_room.of (by omega) (by decide)) (Nat.le_of_ble_eq_true rfl) (hrec_X9_readUnit ((p1 + 1)) σ125 _ (ps_bdE hK)) ?_
      intro σ128 hT
      clear hK
      have hK := hT
      clear hT
      refine pm_ald d_X9_readUnit_25 rfl ?_
      refine pm_ki d_X9_readUnit_26 ?_
      refine ps_cVV d_X9_readUnit_29 mv_X9_codes at_327 ob_8_0 rfl (As := [.int 3006]) rfl rfl (ps_room.of (by omega) (by decide)) (Nat.le_of_ble_eq_true rfl) (C_X9_codes 3006 σ128 _ (ps_bdE hK)) ?_
      intro σ130 hT
      clear hK
      have hK := hT
      clear hT
      have hQ := ps_so hK
      exact ps_vret rfl d_X9_readUnit_32 ⟨rfl, hQ⟩
    · replace hK := ps_ifT c126 hK
      have hQ := ps_so hK
      exact ps_vret rfl d_X9_readUnit_17 ⟨rfl, hQ⟩
def rc_X9 : Nat → Nat → Int32 → ps_S → Option (Unit × ps_S)
  | 0, _, _, _ => none
  | n + 1, w, p1, σ => if w = 0 then bX9_readSum (rc_X9 n) p1 σ else if w = 1 then bX9_readTerm (rc_X9 n) p1 σ else if w = 2 then bX9_readAtom (rc_X9 n) p1 σ else if w = 3 then bX9_readIf (rc_X9 n) p1 σ else if w = 4 then bX9_readTruth (rc_X9 n) p1 σ else if w = 5 then bX9_readBoth (rc_X9 n) p1 σ else if w = 6 then bX9_readUnit (rc_X9 n) p1 σ else none
theorem R_X9 {g : pm_G} : ∀ n : Nat, (∀ (p1 : Int32) (σ : ps_S) (P : Unit → ps_S → Prop), ps_ok (rc_X9 n 0 p1 σ) P → ps_C g mX9_readSum (8 + n) [.ref (g.2.2.1 + 327), .int p1] σ (ps_qV P)) ∧ (∀ (p1 : Int32) (σ : ps_S) (P : Unit → ps_S → Prop), ps_ok (rc_X9 n 1 p1 σ) P → ps_C g mX9_readTerm (8 + n) [.ref (g.2.2.1 + 327), .int p1] σ (ps_qV P)) ∧ (∀ (p1 : Int32) (σ : ps_S) (P : Unit → ps_S → Prop), ps_ok (rc_X9 n 2 p1 σ) P → ps_C g mX9_readAtom (8 + n) [.ref (g.2.2.1 + 327), .int p1] σ (ps_qV P)) ∧ (∀ (p1 : Int32) (σ : ps_S) (P : Unit → ps_S → Prop), ps_ok (rc_X9 n 3 p1 σ) P → ps_C g mX9_readIf (8 + n) [.ref (g.2.2.1 + 327), .int p1] σ (ps_qV P)) ∧ (∀ (p1 : Int32) (σ : ps_S) (P : Unit → ps_S → Prop), ps_ok (rc_X9 n 4 p1 σ) P → ps_C g mX9_readTruth (8 + n) [.ref (g.2.2.1 + 327), .int p1] σ (ps_qV P)) ∧ (∀ (p1 : Int32) (σ : ps_S) (P : Unit → ps_S → Prop), ps_ok (rc_X9 n 5 p1 σ) P → ps_C g mX9_readBoth (8 + n) [.ref (g.2.2.1 + 327), .int p1] σ (ps_qV P)) ∧ (∀ (p1 : Int32) (σ : ps_S) (P : Unit → ps_S → Prop), ps_ok (rc_X9 n 6 p1 σ) P → ps_C g mX9_readUnit (8 + n) [.ref (g.2.2.1 + 327), .int p1] σ (ps_qV P)) := by
  intro n
  induction n with
  | zero => exact ⟨fun _ σ P hK => (ps_no hK).elim, fun _ σ P hK => (ps_no hK).elim, fun _ σ P hK => (ps_no hK).elim, fun _ σ P hK => (ps_no hK).elim, fun _ σ P hK => (ps_no hK).elim, fun _ σ P hK => (ps_no hK).elim, fun _ σ P hK => (ps_no hK).elim⟩
  | succ n ih =>
    obtain ⟨ih0, ih1, ih2, ih3, ih4, ih5, ih6⟩ := ih
    refine ⟨?_, ?_, ?_, ?_, ?_, ?_, ?_⟩
    · intro p1 σ P hK
      rw [rc_X9] at hK
      replace hK := ps_ifT rfl hK
      exact B_X9_readSum (8 + (n + 1)) (by omega) (rc_X9 n) (8 + n) (by omega) ih0 ih1 ih2 ih3 ih4 ih5 ih6 p1 σ P hK
    · intro p1 σ P hK
      rw [rc_X9] at hK
      replace hK := ps_ifF (by decide) hK
      replace hK := ps_ifT rfl hK
      exact B_X9_readTerm (8 + (n + 1)) (by omega) (rc_X9 n) (8 + n) (by omega) ih0 ih1 ih2 ih3 ih4 ih5 ih6 p1 σ P hK
    · intro p1 σ P hK
      rw [rc_X9] at hK
      replace hK := ps_ifF (by decide) hK
      replace hK := ps_ifF (by decide) hK
      replace hK := ps_ifT rfl hK
      exact B_X9_readAtom (8 + (n + 1)) (by omega) (rc_X9 n) (8 + n) (by omega) ih0 ih1 ih2 ih3 ih4 ih5 ih6 p1 σ P hK
    · intro p1 σ P hK
      rw [rc_X9] at hK
      replace hK := ps_ifF (by decide) hK
      replace hK := ps_ifF (by decide) hK
      replace hK := ps_ifF (by decide) hK
      replace hK := ps_ifT rfl hK
      exact B_X9_readIf (8 + (n + 1)) (by omega) (rc_X9 n) (8 + n) (by omega) ih0 ih1 ih2 ih3 ih4 ih5 ih6 p1 σ P hK
    · intro p1 σ P hK
      rw [rc_X9] at hK
      replace hK := ps_ifF (by decide) hK
      replace hK := ps_ifF (by decide) hK
      replace hK := ps_ifF (by decide) hK
      replace hK := ps_ifF (by decide) hK
      replace hK := ps_ifT rfl hK
      exact B_X9_readTruth (8 + (n + 1)) (by omega) (rc_X9 n) (8 + n) (by omega) ih0 ih1 ih2 ih3 ih4 ih5 ih6 p1 σ P hK
    · intro p1 σ P hK
      rw [rc_X9] at hK
      replace hK := ps_ifF (by decide) hK
      replace hK := ps_ifF (by decide) hK
      replace hK := ps_ifF (by decide) hK
      replace hK := ps_ifF (by decide) hK
      replace hK := ps_ifF (by decide) hK
      replace hK := ps_ifT rfl hK
      exact B_X9_readBoth (8 + (n + 1)) (by omega) (rc_X9 n) (8 + n) (by omega) ih0 ih1 ih2 ih3 ih4 ih5 ih6 p1 σ P hK
    · intro p1 σ P hK
      rw [rc_X9] at hK
      replace hK := ps_ifF (by decide) hK
      replace hK := ps_ifF (by decide) hK
      replace hK := ps_ifF (by decide) hK
      replace hK := ps_ifF (by decide) hK
      replace hK := ps_ifF (by decide) hK
      replace hK := ps_ifF (by decide) hK
      replace hK := ps_ifT rfl hK
      exact B_X9_readUnit (8 + (n + 1)) (by omega) (rc_X9 n) (8 + n) (by omega) ih0 ih1 ih2 ih3 ih4 ih5 ih6 p1 σ P hK

def qX9_readSum (p1 : Int32) (σ : ps_S) : Option (Unit × ps_S) := rc_X9 80 0 p1 σ
theorem C_X9_readSum {g : pm_G} (p1 : Int32) (σ : ps_S) (P : Unit → ps_S → Prop) (hK : ps_ok (qX9_readSum p1 σ) P) : ps_C g mX9_readSum 88 [.ref (g.2.2.1 + 327), .int p1] σ (ps_qV P) := (R_X9 80).1 p1 σ P hK
def qX9_readLaw (p1 : Int32) (σ : ps_S) : Option (Unit × ps_S) :=
  ps_bd (qX9_steps σ) (fun _ σ2 =>
  ps_bd (qX9_eats 31 σ2) (fun v3 σ4 =>
  if v3 = 0 then
  ps_bd (qX9_fails 2 σ4) (fun _ σ20 =>
  ps_let (σ20.1 332 949) fun v21 =>
  ps_let (ps_rI σ20 327 (upd (σ20.1 327) 16 p1)) fun σ22 =>
  ps_bd (qX9_readSum 0 σ22) (fun _ σ24 =>
  ps_let (σ24.1 327 12) fun v25 =>
  if v25 = 0 then
  if ps_in ((4 + p1)) 1850 = true then
  ps_let (ps_rI σ24 332 (upd (σ24.1 332) ((4 + p1)).toNatClampNeg 1)) fun σ27 =>
  if ps_in ((6 + p1)) 1850 = true then
  ps_let (ps_rI σ27 332 (upd (σ27.1 332) ((6 + p1)).toNatClampNeg v21)) fun σ28 =>
  ps_let (σ28.1 332 949) fun v29 =>
  if ps_in ((8 + p1)) 1850 = true then
  ps_let (ps_rI σ28 332 (upd (σ28.1 332) ((8 + p1)).toNatClampNeg ((v29 - v21)))) fun σ30 =>
  some ((), σ30)
  else none
  else none
  else none
  else
  some ((), σ24)))
  else
  ps_let (σ4.1 332 949) fun v6 =>
  ps_let (ps_rI σ4 327 (upd (σ4.1 327) 16 p1)) fun σ7 =>
  ps_bd (qX9_readSum 0 σ7) (fun _ σ9 =>
  ps_let (σ9.1 327 12) fun v10 =>
  if v10 = 0 then
  if ps_in ((4 + p1)) 1850 = true then
  ps_let (ps_rI σ9 332 (upd (σ9.1 332) ((4 + p1)).toNatClampNeg 1)) fun σ12 =>
  if ps_in ((6 + p1)) 1850 = true then
  ps_let (ps_rI σ12 332 (upd (σ12.1 332) ((6 + p1)).toNatClampNeg v6)) fun σ13 =>
  ps_let (σ13.1 332 949) fun v14 =>
  if ps_in ((8 + p1)) 1850 = true then
  ps_let (ps_rI σ13 332 (upd (σ13.1 332) ((8 + p1)).toNatClampNeg ((v14 - v6)))) fun σ15 =>
  some ((), σ15)
  else none
  else none
  else none
  else
  some ((), σ9))))
set_option maxRecDepth 100000 in
theorem C_X9_readLaw {g : pm_G} (p1 : Int32) (σ : ps_S) (P : Unit → ps_S → Prop) (hK : ps_ok (qX9_readLaw p1 σ) P) : ps_C g mX9_readLaw 89 [.ref (g.2.2.1 + 327), .int p1] σ (ps_qV P) := by
  unfold qX9_readLaw at hK
  refine ps_C.of (ls := [some (.ref (g.2.2.1 + 327)), some (.int p1), none]) 1 (by decide) rfl (Nat.le_of_ble_eq_true rfl) rfl ?_
  refine pm_ald d_X9_readLaw_0 rfl ?_
  refine ps_cVV d_X9_readLaw_1 mv_X9_steps at_327 ob_8_0 rfl (As := []) rfl rfl (ps_room.of (by omega) (by decide)) (Nat.le_of_ble_eq_true rfl) (C_X9_steps σ _ (ps_bdE hK)) ?_
  intro σ2 hT
  clear hK
  have hK := hT
  clear hT
  refine pm_ald d_X9_readLaw_4 rfl ?_
  refine pm_ki d_X9_readLaw_5 ?_
  refine ps_cVI d_X9_readLaw_7 mv_X9_eats at_327 ob_8_0 rfl (As := [.int 31]) rfl rfl (ps_room.of (by omega) (by decide)) (Nat.le_of_ble_eq_true rfl) (C_X9_eats 31 σ2 _ (ps_bdE hK)) ?_
  intro v3 σ4 hT
  clear hK
  have hK := hT
  clear hT
  refine pm_if_ne d_X9_readLaw_10 (fun c5 => ?_) (fun c5 => ?_)
  · replace hK := ps_ifF c5 hK
    refine pm_ald d_X9_readLaw_18 rfl ?_
    refine ps_getR (q := 332) d_X9_readLaw_19 at_327 f_8_0_5 rfl ?_
    refine pm_ki d_X9_readLaw_22 ?_
    refine ps_iald (x := σ4.1 332 949) d_X9_readLaw_25 at_332 a_8_5 (ps_in_of rfl) rfl ?_
    refine ps_topI (fun v6 ev6 => ?_)
    replace hK := ps_ltE ev6 hK
    refine pm_ist2 d_X9_readLaw_26 rfl (by decide) ?_
    refine pm_ald d_X9_readLaw_27 rfl ?_
    refine pm_ild d_X9_readLaw_28 rfl ?_
    refine ps_putI d_X9_readLaw_29 at_327 f_8_0_16 rfl rfl ?_
    refine ps_nmS (fun σ7 eσ7 => ?_)
    replace hK := ps_ltE eσ7 hK
    refine pm_ald d_X9_readLaw_32 rfl ?_
    refine pm_ki d_X9_readLaw_33 ?_
    refine ps_cVV d_X9_readLaw_34 mv_X9_readSum at_327 ob_8_0 rfl (As := [.int 0]) rfl rfl (ps_room.of (by omega) (by decide)) (Nat.le_of_ble_eq_true rfl) (C_X9_readSum 0 σ7 _ (ps_bdE hK)) ?_
    intro σ9 hT
    clear hK
    have hK := hT
    clear hT
    refine pm_ald d_X9_readLaw_37 rfl ?_
    refine ps_getI d_X9_readLaw_38 at_327 f_8_0_12 rfl ?_
    refine ps_topI (fun v10 ev10 => ?_)
    replace hK := ps_ltE ev10 hK
    refine pm_if_eq d_X9_readLaw_41 (fun c11 => ?_) (fun c11 => ?_)
    · replace hK := ps_ifT c11 hK
      refine pm_ald d_X9_readLaw_45 rfl ?_
      refine ps_getR (q := 332) d_X9_readLaw_46 at_327 f_8_0_5 rfl ?_
      refine pm_ki d_X9_readLaw_49 ?_
      refine pm_ild d_X9_readLaw_50 rfl ?_
      refine pm_iadd d_X9_readLaw_51 ?_
      refine pm_ki d_X9_readLaw_52 ?_
      obtain ⟨b18, hT⟩ := ps_gd hK
      replace hK := hT
      clear hT
      refine ps_iast d_X9_readLaw_53 at_332 a_8_5 (ps_in_of b18) ?_
      refine ps_nmS (fun σ12 eσ12 => ?_)
      replace hK := ps_ltE eσ12 hK
      refine pm_ald d_X9_readLaw_54 rfl ?_
      refine ps_getR (q := 332) d_X9_readLaw_55 at_327 f_8_0_5 rfl ?_
      refine pm_ki d_X9_readLaw_58 ?_
      refine pm_ild d_X9_readLaw_60 rfl ?_
      refine pm_iadd d_X9_readLaw_61 ?_
      refine pm_ild d_X9_readLaw_62 rfl ?_
      obtain ⟨b17, hT⟩ := ps_gd hK
      replace hK := hT
      clear hT
      refine ps_iast d_X9_readLaw_63 at_332 a_8_5 (ps_in_of b17) ?_
      refine ps_nmS (fun σ13 eσ13 => ?_)
      replace hK := ps_ltE eσ13 hK
      refine pm_ald d_X9_readLaw_64 rfl ?_
      refine ps_getR (q := 332) d_X9_readLaw_65 at_327 f_8_0_5 rfl ?_
      refine pm_ki d_X9_readLaw_68 ?_
      refine pm_ild d_X9_readLaw_70 rfl ?_
      refine pm_iadd d_X9_readLaw_71 ?_
      refine pm_ald d_X9_readLaw_72 rfl ?_
      refine ps_getR (q := 332) d_X9_readLaw_73 at_327 f_8_0_5 rfl ?_
      refine pm_ki d_X9_readLaw_76 ?_
      refine ps_iald (x := σ13.1 332 949) d_X9_readLaw_79 at_332 a_8_5 (ps_in_of rfl) rfl ?_
      refine ps_topI (fun v14 ev14 => ?_)
      replace hK := ps_ltE ev14 hK
      refine pm_ild d_X9_readLaw_80 rfl ?_
      refine pm_isub d_X9_readLaw_81 ?_
      obtain ⟨b16, hT⟩ := ps_gd hK
      replace hK := hT
      clear hT
      refine ps_iast d_X9_readLaw_82 at_332 a_8_5 (ps_in_of b16) ?_
      refine ps_nmS (fun σ15 eσ15 => ?_)
      replace hK := ps_ltE eσ15 hK
      have hQ := ps_so hK
      exact ps_vret rfl d_X9_readLaw_83 ⟨rfl, hQ⟩
    · replace hK := ps_ifF c11 hK
      have hQ := ps_so hK
      exact ps_vret rfl d_X9_readLaw_44 ⟨rfl, hQ⟩
  · replace hK := ps_ifT c5 hK
    refine pm_ald d_X9_readLaw_13 rfl ?_
    refine pm_ki d_X9_readLaw_14 ?_
    refine ps_cVV d_X9_readLaw_15 mv_X9_fails at_327 ob_8_0 rfl (As := [.int 2]) rfl rfl (ps_room.of (by omega) (by decide)) (Nat.le_of_ble_eq_true rfl) (C_X9_fails 2 σ4 _ (ps_bdE hK)) ?_
    intro σ20 hT
    clear hK
    have hK := hT
    clear hT
    refine pm_ald d_X9_readLaw_18 rfl ?_
    refine ps_getR (q := 332) d_X9_readLaw_19 at_327 f_8_0_5 rfl ?_
    refine pm_ki d_X9_readLaw_22 ?_
    refine ps_iald (x := σ20.1 332 949) d_X9_readLaw_25 at_332 a_8_5 (ps_in_of rfl) rfl ?_
    refine ps_topI (fun v21 ev21 => ?_)
    replace hK := ps_ltE ev21 hK
    refine pm_ist2 d_X9_readLaw_26 rfl (by decide) ?_
    refine pm_ald d_X9_readLaw_27 rfl ?_
    refine pm_ild d_X9_readLaw_28 rfl ?_
    refine ps_putI d_X9_readLaw_29 at_327 f_8_0_16 rfl rfl ?_
    refine ps_nmS (fun σ22 eσ22 => ?_)
    replace hK := ps_ltE eσ22 hK
    refine pm_ald d_X9_readLaw_32 rfl ?_
    refine pm_ki d_X9_readLaw_33 ?_
    refine ps_cVV d_X9_readLaw_34 mv_X9_readSum at_327 ob_8_0 rfl (As := [.int 0]) rfl rfl (ps_room.of (by omega) (by decide)) (Nat.le_of_ble_eq_true rfl) (C_X9_readSum 0 σ22 _ (ps_bdE hK)) ?_
    intro σ24 hT
    clear hK
    have hK := hT
    clear hT
    refine pm_ald d_X9_readLaw_37 rfl ?_
    refine ps_getI d_X9_readLaw_38 at_327 f_8_0_12 rfl ?_
    refine ps_topI (fun v25 ev25 => ?_)
    replace hK := ps_ltE ev25 hK
    refine pm_if_eq d_X9_readLaw_41 (fun c26 => ?_) (fun c26 => ?_)
    · replace hK := ps_ifT c26 hK
      refine pm_ald d_X9_readLaw_45 rfl ?_
      refine ps_getR (q := 332) d_X9_readLaw_46 at_327 f_8_0_5 rfl ?_
      refine pm_ki d_X9_readLaw_49 ?_
      refine pm_ild d_X9_readLaw_50 rfl ?_
      refine pm_iadd d_X9_readLaw_51 ?_
      refine pm_ki d_X9_readLaw_52 ?_
      obtain ⟨b33, hT⟩ := ps_gd hK
      replace hK := hT
      clear hT
      refine ps_iast d_X9_readLaw_53 at_332 a_8_5 (ps_in_of b33) ?_
      refine ps_nmS (fun σ27 eσ27 => ?_)
      replace hK := ps_ltE eσ27 hK
      refine pm_ald d_X9_readLaw_54 rfl ?_
      refine ps_getR (q := 332) d_X9_readLaw_55 at_327 f_8_0_5 rfl ?_
      refine pm_ki d_X9_readLaw_58 ?_
      refine pm_ild d_X9_readLaw_60 rfl ?_
      refine pm_iadd d_X9_readLaw_61 ?_
      refine pm_ild d_X9_readLaw_62 rfl ?_
      obtain ⟨b32, hT⟩ := ps_gd hK
      replace hK := hT
      clear hT
      refine ps_iast d_X9_readLaw_63 at_332 a_8_5 (ps_in_of b32) ?_
      refine ps_nmS (fun σ28 eσ28 => ?_)
      replace hK := ps_ltE eσ28 hK
      refine pm_ald d_X9_readLaw_64 rfl ?_
      refine ps_getR (q := 332) d_X9_readLaw_65 at_327 f_8_0_5 rfl ?_
      refine pm_ki d_X9_readLaw_68 ?_
      refine pm_ild d_X9_readLaw_70 rfl ?_
      refine pm_iadd d_X9_readLaw_71 ?_
      refine pm_ald d_X9_readLaw_72 rfl ?_
      refine ps_getR (q := 332) d_X9_readLaw_73 at_327 f_8_0_5 rfl ?_
      refine pm_ki d_X9_readLaw_76 ?_
      refine ps_iald (x := σ28.1 332 949) d_X9_readLaw_79 at_332 a_8_5 (ps_in_of rfl) rfl ?_
      refine ps_topI (fun v29 ev29 => ?_)
      replace hK := ps_ltE ev29 hK
      refine pm_ild d_X9_readLaw_80 rfl ?_
      refine pm_isub d_X9_readLaw_81 ?_
      obtain ⟨b31, hT⟩ := ps_gd hK
      replace hK := hT
      clear hT
      refine ps_iast d_X9_readLaw_82 at_332 a_8_5 (ps_in_of b31) ?_
      refine ps_nmS (fun σ30 eσ30 => ?_)
      replace hK := ps_ltE eσ30 hK
      have hQ := ps_so hK
      exact ps_vret rfl d_X9_readLaw_83 ⟨rfl, hQ⟩
    · replace hK := ps_ifF c26 hK
      have hQ := ps_so hK
      exact ps_vret rfl d_X9_readLaw_44 ⟨rfl, hQ⟩
def qX9_readWriter  (σ : ps_S) : Option (Unit × ps_S) :=
  ps_let (σ.1 332 3) fun v1 =>
  if v1 = 6 then
  ps_bd (qX9_fails 4 σ) (fun _ σ21 =>
  ps_let (σ21.1 327 12) fun v22 =>
  if v22 = 0 then
  ps_bd (qX9_steps σ21) (fun _ σ25 =>
  ps_let (σ25.1 332 2) fun v26 =>
  ps_bd (qX9_named 13 0 ((v26 - 1)) σ25) (fun v27 σ28 =>
  if ps_in ((29 + v1)) 1850 = true then
  ps_let (ps_rI σ28 332 (upd (σ28.1 332) ((29 + v1)).toNatClampNeg v27)) fun σ29 =>
  ps_bd (qX9_named 14 0 99 σ29) (fun v30 σ31 =>
  if ps_in ((88 + v1)) 1850 = true then
  ps_let (ps_rI σ31 332 (upd (σ31.1 332) ((88 + v1)).toNatClampNeg v30)) fun σ32 =>
  ps_let (σ32.1 327 12) fun v33 =>
  if v33 = 0 then
  ps_let (σ32.1 332 3) fun v35 =>
  ps_let (ps_rI σ32 332 (upd (σ32.1 332) 3 ((v35 + 1)))) fun σ36 =>
  some ((), σ36)
  else
  some ((), σ32)
  else none)
  else none))
  else
  some ((), σ21))
  else
  ps_let (σ.1 327 12) fun v3 =>
  if v3 = 0 then
  ps_bd (qX9_steps σ) (fun _ σ6 =>
  ps_let (σ6.1 332 2) fun v7 =>
  ps_bd (qX9_named 13 0 ((v7 - 1)) σ6) (fun v8 σ9 =>
  if ps_in ((29 + v1)) 1850 = true then
  ps_let (ps_rI σ9 332 (upd (σ9.1 332) ((29 + v1)).toNatClampNeg v8)) fun σ10 =>
  ps_bd (qX9_named 14 0 99 σ10) (fun v11 σ12 =>
  if ps_in ((88 + v1)) 1850 = true then
  ps_let (ps_rI σ12 332 (upd (σ12.1 332) ((88 + v1)).toNatClampNeg v11)) fun σ13 =>
  ps_let (σ13.1 327 12) fun v14 =>
  if v14 = 0 then
  ps_let (σ13.1 332 3) fun v16 =>
  ps_let (ps_rI σ13 332 (upd (σ13.1 332) 3 ((v16 + 1)))) fun σ17 =>
  some ((), σ17)
  else
  some ((), σ13)
  else none)
  else none))
  else
  some ((), σ)
set_option maxRecDepth 100000 in
theorem C_X9_readWriter {g : pm_G}  (σ : ps_S) (P : Unit → ps_S → Prop) (hK : ps_ok (qX9_readWriter  σ) P) : ps_C g mX9_readWriter 9 [.ref (g.2.2.1 + 327)] σ (ps_qV P) := by
  unfold qX9_readWriter at hK
  refine ps_C.of (ls := [some (.ref (g.2.2.1 + 327)), none]) 1 (by decide) rfl (Nat.le_of_ble_eq_true rfl) rfl ?_
  refine pm_ald d_X9_readWriter_0 rfl ?_
  refine ps_getR (q := 332) d_X9_readWriter_1 at_327 f_8_0_5 rfl ?_
  refine pm_ki d_X9_readWriter_4 ?_
  refine ps_iald (x := σ.1 332 3) d_X9_readWriter_5 at_332 a_8_5 (ps_in_of rfl) rfl ?_
  refine ps_topI (fun v1 ev1 => ?_)
  replace hK := ps_ltE ev1 hK
  refine pm_ist1 d_X9_readWriter_6 rfl (by decide) ?_
  refine pm_ild d_X9_readWriter_7 rfl ?_
  refine pm_ki d_X9_readWriter_8 ?_
  refine pm_icmp_ne d_X9_readWriter_10 (fun c2 => ?_) (fun c2 => ?_)
  · replace hK := ps_ifF c2 hK
    refine pm_ald d_X9_readWriter_18 rfl ?_
    refine ps_getI d_X9_readWriter_19 at_327 f_8_0_12 rfl ?_
    refine ps_topI (fun v3 ev3 => ?_)
    replace hK := ps_ltE ev3 hK
    refine pm_if_eq d_X9_readWriter_22 (fun c4 => ?_) (fun c4 => ?_)
    · replace hK := ps_ifT c4 hK
      refine pm_ald d_X9_readWriter_26 rfl ?_
      refine ps_cVV d_X9_readWriter_27 mv_X9_steps at_327 ob_8_0 rfl (As := []) rfl rfl (ps_room.of (by omega) (by decide)) (Nat.le_of_ble_eq_true rfl) (C_X9_steps σ _ (ps_bdE hK)) ?_
      intro σ6 hT
      clear hK
      have hK := hT
      clear hT
      refine pm_ald d_X9_readWriter_30 rfl ?_
      refine ps_getR (q := 332) d_X9_readWriter_31 at_327 f_8_0_5 rfl ?_
      refine pm_ki d_X9_readWriter_34 ?_
      refine pm_ild d_X9_readWriter_36 rfl ?_
      refine pm_iadd d_X9_readWriter_37 ?_
      refine pm_ald d_X9_readWriter_38 rfl ?_
      refine pm_ki d_X9_readWriter_39 ?_
      refine pm_ki d_X9_readWriter_41 ?_
      refine pm_ald d_X9_readWriter_42 rfl ?_
      refine ps_getR (q := 332) d_X9_readWriter_43 at_327 f_8_0_5 rfl ?_
      refine pm_ki d_X9_readWriter_46 ?_
      refine ps_iald (x := σ6.1 332 2) d_X9_readWriter_47 at_332 a_8_5 (ps_in_of rfl) rfl ?_
      refine ps_topI (fun v7 ev7 => ?_)
      replace hK := ps_ltE ev7 hK
      refine pm_ki d_X9_readWriter_48 ?_
      refine pm_isub d_X9_readWriter_49 ?_
      refine ps_cVI d_X9_readWriter_50 mv_X9_named at_327 ob_8_0 rfl (As := [.int 13, .int 0, .int (v7 - 1)]) rfl rfl (ps_room.of (by omega) (by decide)) (Nat.le_of_ble_eq_true rfl) (C_X9_named 13 0 ((v7 - 1)) σ6 _ (ps_bdE hK)) ?_
      intro v8 σ9 hT
      clear hK
      have hK := hT
      clear hT
      obtain ⟨b19, hT⟩ := ps_gd hK
      replace hK := hT
      clear hT
      refine ps_iast d_X9_readWriter_53 at_332 a_8_5 (ps_in_of b19) ?_
      refine ps_nmS (fun σ10 eσ10 => ?_)
      replace hK := ps_ltE eσ10 hK
      refine pm_ald d_X9_readWriter_54 rfl ?_
      refine ps_getR (q := 332) d_X9_readWriter_55 at_327 f_8_0_5 rfl ?_
      refine pm_ki d_X9_readWriter_58 ?_
      refine pm_ild d_X9_readWriter_60 rfl ?_
      refine pm_iadd d_X9_readWriter_61 ?_
      refine pm_ald d_X9_readWriter_62 rfl ?_
      refine pm_ki d_X9_readWriter_63 ?_
      refine pm_ki d_X9_readWriter_65 ?_
      refine pm_ki d_X9_readWriter_66 ?_
      refine ps_cVI d_X9_readWriter_68 mv_X9_named at_327 ob_8_0 rfl (As := [.int 14, .int 0, .int 99]) rfl rfl (ps_room.of (by omega) (by decide)) (Nat.le_of_ble_eq_true rfl) (C_X9_named 14 0 99 σ10 _ (ps_bdE hK)) ?_
      intro v11 σ12 hT
      clear hK
      have hK := hT
      clear hT
      obtain ⟨b18, hT⟩ := ps_gd hK
      replace hK := hT
      clear hT
      refine ps_iast d_X9_readWriter_71 at_332 a_8_5 (ps_in_of b18) ?_
      refine ps_nmS (fun σ13 eσ13 => ?_)
      replace hK := ps_ltE eσ13 hK
      refine pm_ald d_X9_readWriter_72 rfl ?_
      refine ps_getI d_X9_readWriter_73 at_327 f_8_0_12 rfl ?_
      refine ps_topI (fun v14 ev14 => ?_)
      replace hK := ps_ltE ev14 hK
      refine pm_if_ne d_X9_readWriter_76 (fun c15 => ?_) (fun c15 => ?_)
      · replace hK := ps_ifF c15 hK
        have hQ := ps_so hK
        exact ps_vret rfl d_X9_readWriter_89 ⟨rfl, hQ⟩
      · replace hK := ps_ifT c15 hK
        refine pm_ald d_X9_readWriter_79 rfl ?_
        refine ps_getR (q := 332) d_X9_readWriter_80 at_327 f_8_0_5 rfl ?_
        refine pm_ki d_X9_readWriter_83 ?_
        refine pm_dup2 d_X9_readWriter_84 rfl rfl ?_
        refine ps_iald (x := σ13.1 332 3) d_X9_readWriter_85 at_332 a_8_5 (ps_in_of rfl) rfl ?_
        refine ps_topI (fun v16 ev16 => ?_)
        replace hK := ps_ltE ev16 hK
        refine pm_ki d_X9_readWriter_86 ?_
        refine pm_iadd d_X9_readWriter_87 ?_
        refine ps_iast d_X9_readWriter_88 at_332 a_8_5 (ps_in_of rfl) ?_
        refine ps_nmS (fun σ17 eσ17 => ?_)
        replace hK := ps_ltE eσ17 hK
        have hQ := ps_so hK
        exact ps_vret rfl d_X9_readWriter_89 ⟨rfl, hQ⟩
    · replace hK := ps_ifF c4 hK
      have hQ := ps_so hK
      exact ps_vret rfl d_X9_readWriter_25 ⟨rfl, hQ⟩
  · replace hK := ps_ifT c2 hK
    refine pm_ald d_X9_readWriter_13 rfl ?_
    refine pm_ki d_X9_readWriter_14 ?_
    refine ps_cVV d_X9_readWriter_15 mv_X9_fails at_327 ob_8_0 rfl (As := [.int 4]) rfl rfl (ps_room.of (by omega) (by decide)) (Nat.le_of_ble_eq_true rfl) (C_X9_fails 4 σ _ (ps_bdE hK)) ?_
    intro σ21 hT
    clear hK
    have hK := hT
    clear hT
    refine pm_ald d_X9_readWriter_18 rfl ?_
    refine ps_getI d_X9_readWriter_19 at_327 f_8_0_12 rfl ?_
    refine ps_topI (fun v22 ev22 => ?_)
    replace hK := ps_ltE ev22 hK
    refine pm_if_eq d_X9_readWriter_22 (fun c23 => ?_) (fun c23 => ?_)
    · replace hK := ps_ifT c23 hK
      refine pm_ald d_X9_readWriter_26 rfl ?_
      refine ps_cVV d_X9_readWriter_27 mv_X9_steps at_327 ob_8_0 rfl (As := []) rfl rfl (ps_room.of (by omega) (by decide)) (Nat.le_of_ble_eq_true rfl) (C_X9_steps σ21 _ (ps_bdE hK)) ?_
      intro σ25 hT
      clear hK
      have hK := hT
      clear hT
      refine pm_ald d_X9_readWriter_30 rfl ?_
      refine ps_getR (q := 332) d_X9_readWriter_31 at_327 f_8_0_5 rfl ?_
      refine pm_ki d_X9_readWriter_34 ?_
      refine pm_ild d_X9_readWriter_36 rfl ?_
      refine pm_iadd d_X9_readWriter_37 ?_
      refine pm_ald d_X9_readWriter_38 rfl ?_
      refine pm_ki d_X9_readWriter_39 ?_
      refine pm_ki d_X9_readWriter_41 ?_
      refine pm_ald d_X9_readWriter_42 rfl ?_
      refine ps_getR (q := 332) d_X9_readWriter_43 at_327 f_8_0_5 rfl ?_
      refine pm_ki d_X9_readWriter_46 ?_
      refine ps_iald (x := σ25.1 332 2) d_X9_readWriter_47 at_332 a_8_5 (ps_in_of rfl) rfl ?_
      refine ps_topI (fun v26 ev26 => ?_)
      replace hK := ps_ltE ev26 hK
      refine pm_ki d_X9_readWriter_48 ?_
      refine pm_isub d_X9_readWriter_49 ?_
      refine ps_cVI d_X9_readWriter_50 mv_X9_named at_327 ob_8_0 rfl (As := [.int 13, .int 0, .int (v26 - 1)]) rfl rfl (ps_room.of (by omega) (by decide)) (Nat.le_of_ble_eq_true rfl) (C_X9_named 13 0 ((v26 - 1)) σ25 _ (ps_bdE hK)) ?_
      intro v27 σ28 hT
      clear hK
      have hK := hT
      clear hT
      obtain ⟨b38, hT⟩ := ps_gd hK
      replace hK := hT
      clear hT
      refine ps_iast d_X9_readWriter_53 at_332 a_8_5 (ps_in_of b38) ?_
      refine ps_nmS (fun σ29 eσ29 => ?_)
      replace hK := ps_ltE eσ29 hK
      refine pm_ald d_X9_readWriter_54 rfl ?_
      refine ps_getR (q := 332) d_X9_readWriter_55 at_327 f_8_0_5 rfl ?_
      refine pm_ki d_X9_readWriter_58 ?_
      refine pm_ild d_X9_readWriter_60 rfl ?_
      refine pm_iadd d_X9_readWriter_61 ?_
      refine pm_ald d_X9_readWriter_62 rfl ?_
      refine pm_ki d_X9_readWriter_63 ?_
      refine pm_ki d_X9_readWriter_65 ?_
      refine pm_ki d_X9_readWriter_66 ?_
      refine ps_cVI d_X9_readWriter_68 mv_X9_named at_327 ob_8_0 rfl (As := [.int 14, .int 0, .int 99]) rfl rfl (ps_room.of (by omega) (by decide)) (Nat.le_of_ble_eq_true rfl) (C_X9_named 14 0 99 σ29 _ (ps_bdE hK)) ?_
      intro v30 σ31 hT
      clear hK
      have hK := hT
      clear hT
      obtain ⟨b37, hT⟩ := ps_gd hK
      replace hK := hT
      clear hT
      refine ps_iast d_X9_readWriter_71 at_332 a_8_5 (ps_in_of b37) ?_
      refine ps_nmS (fun σ32 eσ32 => ?_)
      replace hK := ps_ltE eσ32 hK
      refine pm_ald d_X9_readWriter_72 rfl ?_
      refine ps_getI d_X9_readWriter_73 at_327 f_8_0_12 rfl ?_
      refine ps_topI (fun v33 ev33 => ?_)
      replace hK := ps_ltE ev33 hK
      refine pm_if_ne d_X9_readWriter_76 (fun c34 => ?_) (fun c34 => ?_)
      · replace hK := ps_ifF c34 hK
        have hQ := ps_so hK
        exact ps_vret rfl d_X9_readWriter_89 ⟨rfl, hQ⟩
      · replace hK := ps_ifT c34 hK
        refine pm_ald d_X9_readWriter_79 rfl ?_
        refine ps_getR (q := 332) d_X9_readWriter_80 at_327 f_8_0_5 rfl ?_
        refine pm_ki d_X9_readWriter_83 ?_
        refine pm_dup2 d_X9_readWriter_84 rfl rfl ?_
        refine ps_iald (x := σ32.1 332 3) d_X9_readWriter_85 at_332 a_8_5 (ps_in_of rfl) rfl ?_
        refine ps_topI (fun v35 ev35 => ?_)
        replace hK := ps_ltE ev35 hK
        refine pm_ki d_X9_readWriter_86 ?_
        refine pm_iadd d_X9_readWriter_87 ?_
        refine ps_iast d_X9_readWriter_88 at_332 a_8_5 (ps_in_of rfl) ?_
        refine ps_nmS (fun σ36 eσ36 => ?_)
        replace hK := ps_ltE eσ36 hK
        have hQ := ps_so hK
        exact ps_vret rfl d_X9_readWriter_89 ⟨rfl, hQ⟩
    · replace hK := ps_ifF c23 hK
      have hQ := ps_so hK
      exact ps_vret rfl d_X9_readWriter_25 ⟨rfl, hQ⟩
def qX9_readLine  (σ : ps_S) : Option (Unit × ps_S) :=
  ps_let (σ.1 327 12) fun v1 =>
  if v1 = 0 then
  ps_bd (qX9_is 8 σ) (fun v3 σ4 =>
  if v3 = 0 then
  ps_bd (qX9_is 10 σ4) (fun v6 σ7 =>
  if v6 = 0 then
  ps_bd (qX9_is 12 σ7) (fun v9 σ10 =>
  if v9 = 0 then
  ps_bd (qX9_is 14 σ10) (fun v12 σ13 =>
  if v12 = 0 then
  ps_bd (qX9_is 9 σ13) (fun v15 σ16 =>
  if v15 = 0 then
  ps_bd (qX9_fails 2 σ16) (fun _ σ19 =>
  some ((), σ19))
  else
  ps_bd (qX9_readLaw 1 σ16) (fun _ σ21 =>
  some ((), σ21)))
  else
  ps_bd (qX9_readLaw 0 σ13) (fun _ σ23 =>
  some ((), σ23)))
  else
  ps_bd (qX9_readWriter σ10) (fun _ σ25 =>
  some ((), σ25)))
  else
  ps_bd (qX9_readFile σ7) (fun _ σ27 =>
  some ((), σ27)))
  else
  ps_bd (qX9_readDevice σ4) (fun _ σ29 =>
  some ((), σ29)))
  else
  some ((), σ)
set_option maxRecDepth 100000 in
theorem C_X9_readLine {g : pm_G}  (σ : ps_S) (P : Unit → ps_S → Prop) (hK : ps_ok (qX9_readLine  σ) P) : ps_C g mX9_readLine 90 [.ref (g.2.2.1 + 327)] σ (ps_qV P) := by
  unfold qX9_readLine at hK
  refine ps_C.of (ls := [some (.ref (g.2.2.1 + 327))]) 0 (by decide) rfl (Nat.le_of_ble_eq_true rfl) rfl ?_
  refine pm_ald d_X9_readLine_0 rfl ?_
  refine ps_getI d_X9_readLine_1 at_327 f_8_0_12 rfl ?_
  refine ps_topI (fun v1 ev1 => ?_)
  replace hK := ps_ltE ev1 hK
  refine pm_if_eq d_X9_readLine_4 (fun c2 => ?_) (fun c2 => ?_)
  · replace hK := ps_ifT c2 hK
    refine pm_ald d_X9_readLine_8 rfl ?_
    refine pm_ki d_X9_readLine_9 ?_
    refine ps_cVI d_X9_readLine_11 mv_X9_is at_327 ob_8_0 rfl (As := [.int 8]) rfl rfl (ps_room.of (by omega) (by decide)) (Nat.le_of_ble_eq_true rfl) (C_X9_is 8 σ _ (ps_bdE hK)) ?_
    intro v3 σ4 hT
    clear hK
    have hK := hT
    clear hT
    refine pm_if_eq d_X9_readLine_14 (fun c5 => ?_) (fun c5 => ?_)
    · replace hK := ps_ifT c5 hK
      refine pm_ald d_X9_readLine_24 rfl ?_
      refine pm_ki d_X9_readLine_25 ?_
      refine ps_cVI d_X9_readLine_27 mv_X9_is at_327 ob_8_0 rfl (As := [.int 10]) rfl rfl (ps_room.of (by omega) (by decide)) (Nat.le_of_ble_eq_true rfl) (C_X9_is 10 σ4 _ (ps_bdE hK)) ?_
      intro v6 σ7 hT
      clear hK
      have hK := hT
      clear hT
      refine pm_if_eq d_X9_readLine_30 (fun c8 => ?_) (fun c8 => ?_)
      · replace hK := ps_ifT c8 hK
        refine pm_ald d_X9_readLine_40 rfl ?_
        refine pm_ki d_X9_readLine_41 ?_
        refine ps_cVI d_X9_readLine_43 mv_X9_is at_327 ob_8_0 rfl (As := [.int 12]) rfl rfl (ps_room.of (by omega) (by decide)) (Nat.le_of_ble_eq_true rfl) (C_X9_is 12 σ7 _ (ps_bdE hK)) ?_
        intro v9 σ10 hT
        clear hK
        have hK := hT
        clear hT
        refine pm_if_eq d_X9_readLine_46 (fun c11 => ?_) (fun c11 => ?_)
        · replace hK := ps_ifT c11 hK
          refine pm_ald d_X9_readLine_56 rfl ?_
          refine pm_ki d_X9_readLine_57 ?_
          refine ps_cVI d_X9_readLine_59 mv_X9_is at_327 ob_8_0 rfl (As := [.int 14]) rfl rfl (ps_room.of (by omega) (by decide)) (Nat.le_of_ble_eq_true rfl) (C_X9_is 14 σ10 _ (ps_bdE hK)) ?_
          intro v12 σ13 hT
          clear hK
          have hK := hT
          clear hT
          refine pm_if_eq d_X9_readLine_62 (fun c14 => ?_) (fun c14 => ?_)
          · replace hK := ps_ifT c14 hK
            refine pm_ald d_X9_readLine_73 rfl ?_
            refine pm_ki d_X9_readLine_74 ?_
            refine ps_cVI d_X9_readLine_76 mv_X9_is at_327 ob_8_0 rfl (As := [.int 9]) rfl rfl (ps_room.of (by omega) (by decide)) (Nat.le_of_ble_eq_true rfl) (C_X9_is 9 σ13 _ (ps_bdE hK)) ?_
            intro v15 σ16 hT
            clear hK
            have hK := hT
            clear hT
            refine pm_if_eq d_X9_readLine_79 (fun c17 => ?_) (fun c17 => ?_)
            · replace hK := ps_ifT c17 hK
              refine pm_ald d_X9_readLine_90 rfl ?_
              refine pm_ki d_X9_readLine_91 ?_
              refine ps_cVV d_X9_readLine_92 mv_X9_fails at_327 ob_8_0 rfl (As := [.int 2]) rfl rfl (ps_room.of (by omega) (by decide)) (Nat.le_of_ble_eq_true rfl) (C_X9_fails 2 σ16 _ (ps_bdE hK)) ?_
              intro σ19 hT
              clear hK
              have hK := hT
              clear hT
              have hQ := ps_so hK
              exact ps_vret rfl d_X9_readLine_95 ⟨rfl, hQ⟩
            · replace hK := ps_ifF c17 hK
              refine pm_ald d_X9_readLine_82 rfl ?_
              refine pm_ki d_X9_readLine_83 ?_
              refine ps_cVV d_X9_readLine_84 mv_X9_readLaw at_327 ob_8_0 rfl (As := [.int 1]) rfl rfl (ps_room.of (by omega) (by decide)) (Nat.le_of_ble_eq_true rfl) (C_X9_readLaw 1 σ16 _ (ps_bdE hK)) ?_
              intro σ21 hT
              clear hK
              have hK := hT
              clear hT
              refine pm_goto d_X9_readLine_87 ?_
              have hQ := ps_so hK
              exact ps_vret rfl d_X9_readLine_95 ⟨rfl, hQ⟩
          · replace hK := ps_ifF c14 hK
            refine pm_ald d_X9_readLine_65 rfl ?_
            refine pm_ki d_X9_readLine_66 ?_
            refine ps_cVV d_X9_readLine_67 mv_X9_readLaw at_327 ob_8_0 rfl (As := [.int 0]) rfl rfl (ps_room.of (by omega) (by decide)) (Nat.le_of_ble_eq_true rfl) (C_X9_readLaw 0 σ13 _ (ps_bdE hK)) ?_
            intro σ23 hT
            clear hK
            have hK := hT
            clear hT
            refine pm_goto d_X9_readLine_70 ?_
            have hQ := ps_so hK
            exact ps_vret rfl d_X9_readLine_95 ⟨rfl, hQ⟩
        · replace hK := ps_ifF c11 hK
          refine pm_ald d_X9_readLine_49 rfl ?_
          refine ps_cVV d_X9_readLine_50 mv_X9_readWriter at_327 ob_8_0 rfl (As := []) rfl rfl (ps_room.of (by omega) (by decide)) (Nat.le_of_ble_eq_true rfl) (C_X9_readWriter σ10 _ (ps_bdE hK)) ?_
          intro σ25 hT
          clear hK
          have hK := hT
          clear hT
          refine pm_goto d_X9_readLine_53 ?_
          have hQ := ps_so hK
          exact ps_vret rfl d_X9_readLine_95 ⟨rfl, hQ⟩
      · replace hK := ps_ifF c8 hK
        refine pm_ald d_X9_readLine_33 rfl ?_
        refine ps_cVV d_X9_readLine_34 mv_X9_readFile at_327 ob_8_0 rfl (As := []) rfl rfl (ps_room.of (by omega) (by decide)) (Nat.le_of_ble_eq_true rfl) (C_X9_readFile σ7 _ (ps_bdE hK)) ?_
        intro σ27 hT
        clear hK
        have hK := hT
        clear hT
        refine pm_goto d_X9_readLine_37 ?_
        have hQ := ps_so hK
        exact ps_vret rfl d_X9_readLine_95 ⟨rfl, hQ⟩
    · replace hK := ps_ifF c5 hK
      refine pm_ald d_X9_readLine_17 rfl ?_
      refine ps_cVV d_X9_readLine_18 mv_X9_readDevice at_327 ob_8_0 rfl (As := []) rfl rfl (ps_room.of (by omega) (by decide)) (Nat.le_of_ble_eq_true rfl) (C_X9_readDevice σ4 _ (ps_bdE hK)) ?_
      intro σ29 hT
      clear hK
      have hK := hT
      clear hT
      refine pm_goto d_X9_readLine_21 ?_
      have hQ := ps_so hK
      exact ps_vret rfl d_X9_readLine_95 ⟨rfl, hQ⟩
  · replace hK := ps_ifF c2 hK
    have hQ := ps_so hK
    exact ps_vret rfl d_X9_readLine_7 ⟨rfl, hQ⟩
def qX9_host_61  (y1 : Int32) : Nat → ps_S → Option (((Unit)) × ps_S)
  | 0, _ => none
  | n + 1, σ =>
    ps_let (σ.1 327 12) fun v18 =>
    if v18 = 0 then
    ps_let (σ.1 327 10) fun v20 =>
    if v20 = 26 then
    some ((), σ)
    else
    ps_bd (qX9_readLine σ) (fun _ σ23 =>
    ps_bd (qX9_closes σ23) (fun _ σ25 =>
    qX9_host_61 y1 n σ25))
    else
    some ((), σ)
set_option maxRecDepth 100000 in
theorem L_X9_host_61 {g : pm_G} (D : Nat) (hD : 91 ≤ D) {P : Int32 → ps_S → Prop}  (y1 : Int32) : ∀ (n : Nat) (σ : ps_S), ps_ok (qX9_host_61 y1 n σ) (fun res σ => match res with | _ => pm_W g mX9_host (ps_F g D (ps_qI P)) 0 0 88 [some (.ref (g.2.2.1 + 327)), some (.int y1), none] [] 345 (ps_E g σ)) → pm_W g mX9_host (ps_F g D (ps_qI P)) 0 0 61 [some (.ref (g.2.2.1 + 327)), some (.int y1), none] [] 345 (ps_E g σ) := by
  intro n
  induction n with
  | zero => intro σ hK; exact (ps_no hK).elim
  | succ n ih =>
    intro σ hK
    rw [qX9_host_61] at hK
    refine pm_ald d_X9_host_61 rfl ?_
    refine ps_getI d_X9_host_62 at_327 f_8_0_12 rfl ?_
    refine ps_topI (fun v18 ev18 => ?_)
    replace hK := ps_ltE ev18 hK
    refine pm_if_ne d_X9_host_65 (fun c19 => ?_) (fun c19 => ?_)
    · replace hK := ps_ifF c19 hK
      exact ps_so hK
    · replace hK := ps_ifT c19 hK
      refine pm_ald d_X9_host_68 rfl ?_
      refine ps_getI d_X9_host_69 at_327 f_8_0_10 rfl ?_
      refine ps_topI (fun v20 ev20 => ?_)
      replace hK := ps_ltE ev20 hK
      refine pm_ki d_X9_host_72 ?_
      refine pm_icmp_eq d_X9_host_74 (fun c21 => ?_) (fun c21 => ?_)
      · replace hK := ps_ifT c21 hK
        exact ps_so hK
      · replace hK := ps_ifF c21 hK
        refine pm_ald d_X9_host_77 rfl ?_
        refine ps_cVV d_X9_host_78 mv_X9_readLine at_327 ob_8_0 rfl (As := []) rfl rfl (ps_room.of (by omega) (by decide)) (Nat.le_of_ble_eq_true rfl) (C_X9_readLine σ _ (ps_bdE hK)) ?_
        intro σ23 hT
        clear hK
        have hK := hT
        clear hT
        refine pm_ald d_X9_host_81 rfl ?_
        refine ps_cVV d_X9_host_82 mv_X9_closes at_327 ob_8_0 rfl (As := []) rfl rfl (ps_room.of (by omega) (by decide)) (Nat.le_of_ble_eq_true rfl) (C_X9_closes σ23 _ (ps_bdE hK)) ?_
        intro σ25 hT
        clear hK
        have hK := hT
        clear hT
        refine pm_goto d_X9_host_85 ?_
        exact ih _ hK
def qX9_host_132  (y1 : Int32) : Nat → Int32 → ps_S → Option (((Int32)) × ps_S)
  | 0, _, _ => none
  | n + 1, x2, σ =>
    if 1850 ≤ x2 then
    some (x2, σ)
    else
    if ps_in x2 1850 = true then
    ps_let (σ.1 332 (x2).toNatClampNeg) fun v36 =>
    if ps_in x2 5550 = true then
    ps_let (ps_rI σ 328 (upd (σ.1 328) (x2).toNatClampNeg v36)) fun σ37 =>
    ps_let (x2 + 1) fun v38 =>
    qX9_host_132 y1 n v38 σ37
    else none
    else none
set_option maxRecDepth 100000 in
theorem L_X9_host_132 {g : pm_G} (D : Nat) (hD : 91 ≤ D) {P : Int32 → ps_S → Prop}  (y1 : Int32) : ∀ (n : Nat) (x2 : Int32) (σ : ps_S), ps_ok (qX9_host_132 y1 n x2 σ) (fun res σ => match res with | x2 => pm_W g mX9_host (ps_F g D (ps_qI P)) 0 0 157 [some (.ref (g.2.2.1 + 327)), some (.int y1), some (.int x2)] [] 345 (ps_E g σ)) → pm_W g mX9_host (ps_F g D (ps_qI P)) 0 0 132 [some (.ref (g.2.2.1 + 327)), some (.int y1), some (.int x2)] [] 345 (ps_E g σ) := by
  intro n
  induction n with
  | zero => intro x2 σ hK; exact (ps_no hK).elim
  | succ n ih =>
    intro x2 σ hK
    rw [qX9_host_132] at hK
    refine pm_ild d_X9_host_132 rfl ?_
    refine pm_ki d_X9_host_133 ?_
    refine pm_icmp_ge d_X9_host_136 (fun c35 => ?_) (fun c35 => ?_)
    · replace hK := ps_ifT c35 hK
      exact ps_so hK
    · replace hK := ps_ifF c35 hK
      refine pm_ald d_X9_host_139 rfl ?_
      refine ps_getR (q := 328) d_X9_host_140 at_327 f_8_0_1 rfl ?_
      refine pm_ild d_X9_host_143 rfl ?_
      refine pm_ald d_X9_host_144 rfl ?_
      refine ps_getR (q := 332) d_X9_host_145 at_327 f_8_0_5 rfl ?_
      refine pm_ild d_X9_host_148 rfl ?_
      obtain ⟨b40, hT⟩ := ps_gd hK
      replace hK := hT
      clear hT
      refine ps_iald d_X9_host_149 at_332 a_8_5 (ps_in_of b40) rfl ?_
      refine ps_topI (fun v36 ev36 => ?_)
      replace hK := ps_ltE ev36 hK
      obtain ⟨b39, hT⟩ := ps_gd hK
      replace hK := hT
      clear hT
      refine ps_iast d_X9_host_150 at_328 a_8_1 (ps_in_of b39) ?_
      refine ps_nmS (fun σ37 eσ37 => ?_)
      replace hK := ps_ltE eσ37 hK
      refine pm_inc2 d_X9_host_151 rfl ?_
      obtain ⟨v38, ev38⟩ : ∃ y : Int32, y = x2 + 1 := ⟨_, rfl⟩
      rw [← ev38]
      replace hK := ps_ltE ev38 hK
      refine pm_goto d_X9_host_154 ?_
      exact ih _ _ hK
def qX9_host_159  (y1 : Int32) : Nat → Int32 → ps_S → Option (((Int32)) × ps_S)
  | 0, _, _ => none
  | n + 1, x2, σ =>
    if 4 ≤ x2 then
    some (x2, σ)
    else
    if ps_in ((60 + x2)) 5550 = true then
    ps_let (σ.1 328 ((60 + x2)).toNatClampNeg) fun v44 =>
    if ps_in x2 132 = true then
    ps_let (ps_rD σ 329 (vf_upd (σ.2.2 329) (x2).toNatClampNeg ((FP.i2d (v44))))) fun σ45 =>
    ps_let (x2 + 1) fun v46 =>
    qX9_host_159 y1 n v46 σ45
    else none
    else none
set_option maxRecDepth 100000 in
theorem L_X9_host_159 {g : pm_G} (D : Nat) (hD : 91 ≤ D) {P : Int32 → ps_S → Prop}  (y1 : Int32) : ∀ (n : Nat) (x2 : Int32) (σ : ps_S), ps_ok (qX9_host_159 y1 n x2 σ) (fun res σ => match res with | x2 => pm_W g mX9_host (ps_F g D (ps_qI P)) 0 0 186 [some (.ref (g.2.2.1 + 327)), some (.int y1), some (.int x2)] [] 345 (ps_E g σ)) → pm_W g mX9_host (ps_F g D (ps_qI P)) 0 0 159 [some (.ref (g.2.2.1 + 327)), some (.int y1), some (.int x2)] [] 345 (ps_E g σ) := by
  intro n
  induction n with
  | zero => intro x2 σ hK; exact (ps_no hK).elim
  | succ n ih =>
    intro x2 σ hK
    rw [qX9_host_159] at hK
    refine pm_ild d_X9_host_159 rfl ?_
    refine pm_ki d_X9_host_160 ?_
    refine pm_icmp_ge d_X9_host_161 (fun c43 => ?_) (fun c43 => ?_)
    · replace hK := ps_ifT c43 hK
      exact ps_so hK
    · replace hK := ps_ifF c43 hK
      refine pm_ald d_X9_host_164 rfl ?_
      refine ps_getR (q := 329) d_X9_host_165 at_327 f_8_0_2 rfl ?_
      refine pm_ild d_X9_host_168 rfl ?_
      refine pm_ald d_X9_host_169 rfl ?_
      refine ps_getR (q := 328) d_X9_host_170 at_327 f_8_0_1 rfl ?_
      refine pm_ki d_X9_host_173 ?_
      refine pm_ild d_X9_host_175 rfl ?_
      refine pm_iadd d_X9_host_176 ?_
      obtain ⟨b48, hT⟩ := ps_gd hK
      replace hK := hT
      clear hT
      refine ps_iald d_X9_host_177 at_328 a_8_1 (ps_in_of b48) rfl ?_
      refine ps_topI (fun v44 ev44 => ?_)
      replace hK := ps_ltE ev44 hK
      refine pm_i2d d_X9_host_178 ?_
      obtain ⟨b47, hT⟩ := ps_gd hK
      replace hK := hT
      clear hT
      refine ps_dast d_X9_host_179 at_329 a_8_2 (ps_in_of b47) ?_
      refine ps_nmS (fun σ45 eσ45 => ?_)
      replace hK := ps_ltE eσ45 hK
      refine pm_inc2 d_X9_host_180 rfl ?_
      obtain ⟨v46, ev46⟩ : ∃ y : Int32, y = x2 + 1 := ⟨_, rfl⟩
      rw [← ev46]
      replace hK := ps_ltE ev46 hK
      refine pm_goto d_X9_host_183 ?_
      exact ih _ _ hK
def qX9_host (p1 : Int32) (σ : ps_S) : Option (Int32 × ps_S) :=
  ps_let (ps_rI σ 327 (upd (σ.1 327) 0 0)) fun σ1 =>
  ps_let (σ1.1 327 6) fun v2 =>
  ps_bd (qX9_within (((p1).toInt64)) 0 (((v2).toInt64)) σ1) (fun v3 σ4 =>
  if v3 = 0 then
  some ((-3), σ4)
  else
  ps_let (ps_rI σ4 327 (upd (σ4.1 327) 9 p1)) fun σ6 =>
  ps_let (ps_rI σ6 327 (upd (σ6.1 327) 6 0)) fun σ7 =>
  ps_let (ps_rI σ7 327 (upd (σ7.1 327) 8 0)) fun σ8 =>
  ps_let (ps_rI σ8 327 (upd (σ8.1 327) 12 0)) fun σ9 =>
  ps_bd (qX9_plain 332 1850 σ9) (fun _ σ11 =>
  ps_bd (qX9_steps σ11) (fun _ σ13 =>
  ps_bd (qX9_readHost σ13) (fun _ σ15 =>
  ps_bd (qX9_closes σ15) (fun _ σ17 =>
  ps_bd (qX9_host_61 p1 ps_N σ17) (fun res σ26 => match res with
  | _ =>
    ps_let (σ26.1 327 12) fun v27 =>
    ps_let (ps_rI σ26 327 (upd (σ26.1 327) 14 v27)) fun σ28 =>
    ps_let (σ28.1 327 12) fun v29 =>
    if v29 = 0 then
    ps_let (ps_rI σ28 327 (upd (σ28.1 327) 15 ((-1)))) fun σ53 =>
    ps_let (σ53.1 327 12) fun v54 =>
    if v54 = 0 then
    ps_bd (qX9_host_132 p1 ps_N 0 σ53) (fun res σ56 => match res with
    | v57 =>
      ps_bd (qX9_host_159 p1 ps_N 0 σ56) (fun res σ58 => match res with
      | v59 =>
        ps_let (σ58.1 328 0) fun v60 =>
        some (v60, σ58)))
    else
    ps_let (σ53.1 327 12) fun v61 =>
    some ((((-30)) - v61), σ53)
    else
    ps_let (σ28.1 327 13) fun v31 =>
    ps_let (ps_rI σ28 327 (upd (σ28.1 327) 15 v31)) fun σ32 =>
    ps_let (σ32.1 327 12) fun v33 =>
    if v33 = 0 then
    ps_bd (qX9_host_132 p1 ps_N 0 σ32) (fun res σ41 => match res with
    | v42 =>
      ps_bd (qX9_host_159 p1 ps_N 0 σ41) (fun res σ49 => match res with
      | v50 =>
        ps_let (σ49.1 328 0) fun v51 =>
        some (v51, σ49)))
    else
    ps_let (σ32.1 327 12) fun v52 =>
    some ((((-30)) - v52), σ32)))))))
set_option maxRecDepth 100000 in
theorem C_X9_host {g : pm_G} (p1 : Int32) (σ : ps_S) (P : Int32 → ps_S → Prop) (hK : ps_ok (qX9_host p1 σ) P) : ps_C g mX9_host 91 [.ref (g.2.2.1 + 327), .int p1] σ (ps_qI P) := by
  unfold qX9_host at hK
  refine ps_C.of (ls := [some (.ref (g.2.2.1 + 327)), some (.int p1), none]) 1 (by decide) rfl (Nat.le_of_ble_eq_true rfl) rfl ?_
  refine pm_ald d_X9_host_0 rfl ?_
  refine pm_ki d_X9_host_1 ?_
  refine ps_putI d_X9_host_2 at_327 f_8_0_0 rfl rfl ?_
  refine ps_nmS (fun σ1 eσ1 => ?_)
  replace hK := ps_ltE eσ1 hK
  refine pm_ild d_X9_host_5 rfl ?_
  refine pm_i2l d_X9_host_6 ?_
  refine pm_kl d_X9_host_7 ?_
  refine pm_ald d_X9_host_8 rfl ?_
  refine ps_getI d_X9_host_9 at_327 f_8_0_6 rfl ?_
  refine ps_topI (fun v2 ev2 => ?_)
  replace hK := ps_ltE ev2 hK
  refine pm_i2l d_X9_host_12 ?_
  refine ps_cSI d_X9_host_13 ms_X9_within (As := [.long ((p1).toInt64), .long 0, .long ((v2).toInt64)]) rfl rfl (ps_room.of (by omega) (by decide)) (Nat.le_of_ble_eq_true rfl) (C_X9_within (((p1).toInt64)) 0 (((v2).toInt64)) σ1 _ (ps_bdE hK)) ?_
  intro v3 σ4 hT
  clear hK
  have hK := hT
  clear hT
  refine pm_if_ne d_X9_host_16 (fun c5 => ?_) (fun c5 => ?_)
  · replace hK := ps_ifF c5 hK
    refine pm_ald d_X9_host_22 rfl ?_
    refine pm_ild d_X9_host_23 rfl ?_
    refine ps_putI d_X9_host_24 at_327 f_8_0_9 rfl rfl ?_
    refine ps_nmS (fun σ6 eσ6 => ?_)
    replace hK := ps_ltE eσ6 hK
    refine pm_ald d_X9_host_27 rfl ?_
    refine pm_ki d_X9_host_28 ?_
    refine ps_putI d_X9_host_29 at_327 f_8_0_6 rfl rfl ?_
    refine ps_nmS (fun σ7 eσ7 => ?_)
    replace hK := ps_ltE eσ7 hK
    refine pm_ald d_X9_host_32 rfl ?_
    refine pm_ki d_X9_host_33 ?_
    refine ps_putI d_X9_host_34 at_327 f_8_0_8 rfl rfl ?_
    refine ps_nmS (fun σ8 eσ8 => ?_)
    replace hK := ps_ltE eσ8 hK
    refine pm_ald d_X9_host_37 rfl ?_
    refine pm_ki d_X9_host_38 ?_
    refine ps_putI d_X9_host_39 at_327 f_8_0_12 rfl rfl ?_
    refine ps_nmS (fun σ9 eσ9 => ?_)
    replace hK := ps_ltE eσ9 hK
    refine pm_ald d_X9_host_42 rfl ?_
    refine ps_getR (q := 332) d_X9_host_43 at_327 f_8_0_5 rfl ?_
    refine ps_cSV d_X9_host_46 ms_X9_plain (As := [.ref (g.2.2.1 + 332)]) rfl rfl (ps_room.of (by omega) (by decide)) (Nat.le_of_ble_eq_true rfl) (C_X9_plain 332 1850 8 327 5 at_332 a_8_5 σ9 _ (ps_bdE hK)) ?_
    intro σ11 hT
    clear hK
    have hK := hT
    clear hT
    refine pm_ald d_X9_host_49 rfl ?_
    refine ps_cVV d_X9_host_50 mv_X9_steps at_327 ob_8_0 rfl (As := []) rfl rfl (ps_room.of (by omega) (by decide)) (Nat.le_of_ble_eq_true rfl) (C_X9_steps σ11 _ (ps_bdE hK)) ?_
    intro σ13 hT
    clear hK
    have hK := hT
    clear hT
    refine pm_ald d_X9_host_53 rfl ?_
    refine ps_cVV d_X9_host_54 mv_X9_readHost at_327 ob_8_0 rfl (As := []) rfl rfl (ps_room.of (by omega) (by decide)) (Nat.le_of_ble_eq_true rfl) (C_X9_readHost σ13 _ (ps_bdE hK)) ?_
    intro σ15 hT
    clear hK
    have hK := hT
    clear hT
    refine pm_ald d_X9_host_57 rfl ?_
    refine ps_cVV d_X9_host_58 mv_X9_closes at_327 ob_8_0 rfl (As := []) rfl rfl (ps_room.of (by omega) (by decide)) (Nat.le_of_ble_eq_true rfl) (C_X9_closes σ15 _ (ps_bdE hK)) ?_
    intro σ17 hT
    clear hK
    have hK := hT
    clear hT
    refine L_X9_host_61 _ (by decide) p1 _ _ (ps_ok.mono (ps_bdE hK) ?_)
    rintro _ σ26 hT
    clear hK
    have hK := hT
    clear hT
    refine pm_ald d_X9_host_88 rfl ?_
    refine pm_ald d_X9_host_89 rfl ?_
    refine ps_getI d_X9_host_90 at_327 f_8_0_12 rfl ?_
    refine ps_topI (fun v27 ev27 => ?_)
    replace hK := ps_ltE ev27 hK
    refine ps_putI d_X9_host_93 at_327 f_8_0_14 rfl rfl ?_
    refine ps_nmS (fun σ28 eσ28 => ?_)
    replace hK := ps_ltE eσ28 hK
    refine pm_ald d_X9_host_96 rfl ?_
    refine pm_ald d_X9_host_97 rfl ?_
    refine ps_getI d_X9_host_98 at_327 f_8_0_12 rfl ?_
    refine ps_topI (fun v29 ev29 => ?_)
    replace hK := ps_ltE ev29 hK
    refine pm_if_ne d_X9_host_101 (fun c30 => ?_) (fun c30 => ?_)
    · replace hK := ps_ifF c30 hK
      refine pm_ald d_X9_host_108 rfl ?_
      refine ps_getI d_X9_host_109 at_327 f_8_0_13 rfl ?_
      refine ps_topI (fun v31 ev31 => ?_)
      replace hK := ps_ltE ev31 hK
      refine ps_putI d_X9_host_112 at_327 f_8_0_15 rfl rfl ?_
      refine ps_nmS (fun σ32 eσ32 => ?_)
      replace hK := ps_ltE eσ32 hK
      refine pm_ald d_X9_host_115 rfl ?_
      refine ps_getI d_X9_host_116 at_327 f_8_0_12 rfl ?_
      refine ps_topI (fun v33 ev33 => ?_)
      replace hK := ps_ltE ev33 hK
      refine pm_if_eq d_X9_host_119 (fun c34 => ?_) (fun c34 => ?_)
      · replace hK := ps_ifT c34 hK
        refine pm_ki d_X9_host_130 ?_
        refine pm_ist2 d_X9_host_131 rfl (by decide) ?_
        refine L_X9_host_132 _ (by decide) p1 _ _ _ (ps_ok.mono (ps_bdE hK) ?_)
        rintro v42 σ41 hT
        clear hK
        have hK := hT
        clear hT
        refine pm_ki d_X9_host_157 ?_
        refine pm_ist2 d_X9_host_158 rfl (by decide) ?_
        refine L_X9_host_159 _ (by decide) p1 _ _ _ (ps_ok.mono (ps_bdE hK) ?_)
        rintro v50 σ49 hT
        clear hK
        have hK := hT
        clear hT
        refine pm_ald d_X9_host_186 rfl ?_
        refine ps_getR (q := 328) d_X9_host_187 at_327 f_8_0_1 rfl ?_
        refine pm_ki d_X9_host_190 ?_
        refine ps_iald (x := σ49.1 328 0) d_X9_host_191 at_328 a_8_1 (ps_in_of rfl) rfl ?_
        refine ps_topI (fun v51 ev51 => ?_)
        replace hK := ps_ltE ev51 hK
        have hQ := ps_so hK
        exact ps_iret rfl d_X9_host_192 ⟨_, rfl, hQ⟩
      · replace hK := ps_ifF c34 hK
        refine pm_ki d_X9_host_122 ?_
        refine pm_ald d_X9_host_124 rfl ?_
        refine ps_getI d_X9_host_125 at_327 f_8_0_12 rfl ?_
        refine ps_topI (fun v52 ev52 => ?_)
        replace hK := ps_ltE ev52 hK
        refine pm_isub d_X9_host_128 ?_
        have hQ := ps_so hK
        exact ps_iret rfl d_X9_host_129 ⟨_, rfl, hQ⟩
    · replace hK := ps_ifT c30 hK
      refine pm_ki d_X9_host_104 ?_
      refine pm_goto d_X9_host_105 ?_
      refine ps_putI d_X9_host_112 at_327 f_8_0_15 rfl rfl ?_
      refine ps_nmS (fun σ53 eσ53 => ?_)
      replace hK := ps_ltE eσ53 hK
      refine pm_ald d_X9_host_115 rfl ?_
      refine ps_getI d_X9_host_116 at_327 f_8_0_12 rfl ?_
      refine ps_topI (fun v54 ev54 => ?_)
      replace hK := ps_ltE ev54 hK
      refine pm_if_eq d_X9_host_119 (fun c55 => ?_) (fun c55 => ?_)
      · replace hK := ps_ifT c55 hK
        refine pm_ki d_X9_host_130 ?_
        refine pm_ist2 d_X9_host_131 rfl (by decide) ?_
        refine L_X9_host_132 _ (by decide) p1 _ _ _ (ps_ok.mono (ps_bdE hK) ?_)
        rintro v57 σ56 hT
        clear hK
        have hK := hT
        clear hT
        refine pm_ki d_X9_host_157 ?_
        refine pm_ist2 d_X9_host_158 rfl (by decide) ?_
        refine L_X9_host_159 _ (by decide) p1 _ _ _ (ps_ok.mono (ps_bdE hK) ?_)
        rintro v59 σ58 hT
        clear hK
        have hK := hT
        clear hT
        refine pm_ald d_X9_host_186 rfl ?_
        refine ps_getR (q := 328) d_X9_host_187 at_327 f_8_0_1 rfl ?_
        refine pm_ki d_X9_host_190 ?_
        refine ps_iald (x := σ58.1 328 0) d_X9_host_191 at_328 a_8_1 (ps_in_of rfl) rfl ?_
        refine ps_topI (fun v60 ev60 => ?_)
        replace hK := ps_ltE ev60 hK
        have hQ := ps_so hK
        exact ps_iret rfl d_X9_host_192 ⟨_, rfl, hQ⟩
      · replace hK := ps_ifF c55 hK
        refine pm_ki d_X9_host_122 ?_
        refine pm_ald d_X9_host_124 rfl ?_
        refine ps_getI d_X9_host_125 at_327 f_8_0_12 rfl ?_
        refine ps_topI (fun v61 ev61 => ?_)
        replace hK := ps_ltE ev61 hK
        refine pm_isub d_X9_host_128 ?_
        have hQ := ps_so hK
        exact ps_iret rfl d_X9_host_129 ⟨_, rfl, hQ⟩
  · replace hK := ps_ifT c5 hK
    refine pm_ki d_X9_host_19 ?_
    have hQ := ps_so hK
    exact ps_iret rfl d_X9_host_21 ⟨_, rfl, hQ⟩
def qX9_image_20  (y1 : Int32) : Nat → Int32 → ps_S → Option (((Int32)) × ps_S)
  | 0, _, _ => none
  | n + 1, x2, σ =>
    if 1850 ≤ x2 then
    some (x2, σ)
    else
    if ps_in x2 5550 = true then
    ps_let (σ.1 328 (x2).toNatClampNeg) fun v6 =>
    if ps_in ((((1850 * ((y1 + 1)))) + x2)) 5550 = true then
    ps_let (ps_rI σ 328 (upd (σ.1 328) ((((1850 * ((y1 + 1)))) + x2)).toNatClampNeg v6)) fun σ7 =>
    ps_let (x2 + 1) fun v8 =>
    qX9_image_20 y1 n v8 σ7
    else none
    else none
set_option maxRecDepth 100000 in
theorem L_X9_image_20 {g : pm_G} (D : Nat) (hD : 2 ≤ D) {P : Int32 → ps_S → Prop}  (y1 : Int32) : ∀ (n : Nat) (x2 : Int32) (σ : ps_S), ps_ok (qX9_image_20 y1 n x2 σ) (fun res σ => match res with | x2 => pm_W g mX9_image (ps_F g D (ps_qI P)) 0 0 53 [some (.ref (g.2.2.1 + 327)), some (.int y1), some (.int x2)] [] 345 (ps_E g σ)) → pm_W g mX9_image (ps_F g D (ps_qI P)) 0 0 20 [some (.ref (g.2.2.1 + 327)), some (.int y1), some (.int x2)] [] 345 (ps_E g σ) := by
  intro n
  induction n with
  | zero => intro x2 σ hK; exact (ps_no hK).elim
  | succ n ih =>
    intro x2 σ hK
    rw [qX9_image_20] at hK
    refine pm_ild d_X9_image_20 rfl ?_
    refine pm_ki d_X9_image_21 ?_
    refine pm_icmp_ge d_X9_image_24 (fun c5 => ?_) (fun c5 => ?_)
    · replace hK := ps_ifT c5 hK
      exact ps_so hK
    · replace hK := ps_ifF c5 hK
      refine pm_ald d_X9_image_27 rfl ?_
      refine ps_getR (q := 328) d_X9_image_28 at_327 f_8_0_1 rfl ?_
      refine pm_ki d_X9_image_31 ?_
      refine pm_ild d_X9_image_34 rfl ?_
      refine pm_ki d_X9_image_35 ?_
      refine pm_iadd d_X9_image_36 ?_
      refine pm_imul d_X9_image_37 ?_
      refine pm_ild d_X9_image_38 rfl ?_
      refine pm_iadd d_X9_image_39 ?_
      refine pm_ald d_X9_image_40 rfl ?_
      refine ps_getR (q := 328) d_X9_image_41 at_327 f_8_0_1 rfl ?_
      refine pm_ild d_X9_image_44 rfl ?_
      obtain ⟨b10, hT⟩ := ps_gd hK
      replace hK := hT
      clear hT
      refine ps_iald d_X9_image_45 at_328 a_8_1 (ps_in_of b10) rfl ?_
      refine ps_topI (fun v6 ev6 => ?_)
      replace hK := ps_ltE ev6 hK
      obtain ⟨b9, hT⟩ := ps_gd hK
      replace hK := hT
      clear hT
      refine ps_iast d_X9_image_46 at_328 a_8_1 (ps_in_of b9) ?_
      refine ps_nmS (fun σ7 eσ7 => ?_)
      replace hK := ps_ltE eσ7 hK
      refine pm_inc2 d_X9_image_47 rfl ?_
      obtain ⟨v8, ev8⟩ : ∃ y : Int32, y = x2 + 1 := ⟨_, rfl⟩
      rw [← ev8]
      replace hK := ps_ltE ev8 hK
      refine pm_goto d_X9_image_50 ?_
      exact ih _ _ hK
def qX9_image_55  (y1 : Int32) : Nat → Int32 → ps_S → Option (((Int32)) × ps_S)
  | 0, _, _ => none
  | n + 1, x2, σ =>
    if 44 ≤ x2 then
    some (x2, σ)
    else
    if ps_in x2 132 = true then
    ps_let (σ.2.2 329 (x2).toNatClampNeg) fun v14 =>
    if ps_in ((((44 * ((y1 + 1)))) + x2)) 132 = true then
    ps_let (ps_rD σ 329 (vf_upd (σ.2.2 329) ((((44 * ((y1 + 1)))) + x2)).toNatClampNeg v14)) fun σ15 =>
    ps_let (x2 + 1) fun v16 =>
    qX9_image_55 y1 n v16 σ15
    else none
    else none
set_option maxRecDepth 100000 in
theorem L_X9_image_55 {g : pm_G} (D : Nat) (hD : 2 ≤ D) {P : Int32 → ps_S → Prop}  (y1 : Int32) : ∀ (n : Nat) (x2 : Int32) (σ : ps_S), ps_ok (qX9_image_55 y1 n x2 σ) (fun res σ => match res with | x2 => pm_W g mX9_image (ps_F g D (ps_qI P)) 0 0 86 [some (.ref (g.2.2.1 + 327)), some (.int y1), some (.int x2)] [] 345 (ps_E g σ)) → pm_W g mX9_image (ps_F g D (ps_qI P)) 0 0 55 [some (.ref (g.2.2.1 + 327)), some (.int y1), some (.int x2)] [] 345 (ps_E g σ) := by
  intro n
  induction n with
  | zero => intro x2 σ hK; exact (ps_no hK).elim
  | succ n ih =>
    intro x2 σ hK
    rw [qX9_image_55] at hK
    refine pm_ild d_X9_image_55 rfl ?_
    refine pm_ki d_X9_image_56 ?_
    refine pm_icmp_ge d_X9_image_58 (fun c13 => ?_) (fun c13 => ?_)
    · replace hK := ps_ifT c13 hK
      exact ps_so hK
    · replace hK := ps_ifF c13 hK
      refine pm_ald d_X9_image_61 rfl ?_
      refine ps_getR (q := 329) d_X9_image_62 at_327 f_8_0_2 rfl ?_
      refine pm_ki d_X9_image_65 ?_
      refine pm_ild d_X9_image_67 rfl ?_
      refine pm_ki d_X9_image_68 ?_
      refine pm_iadd d_X9_image_69 ?_
      refine pm_imul d_X9_image_70 ?_
      refine pm_ild d_X9_image_71 rfl ?_
      refine pm_iadd d_X9_image_72 ?_
      refine pm_ald d_X9_image_73 rfl ?_
      refine ps_getR (q := 329) d_X9_image_74 at_327 f_8_0_2 rfl ?_
      refine pm_ild d_X9_image_77 rfl ?_
      obtain ⟨b18, hT⟩ := ps_gd hK
      replace hK := hT
      clear hT
      refine ps_dald d_X9_image_78 at_329 a_8_2 (ps_in_of b18) rfl ?_
      refine ps_topD (fun v14 ev14 => ?_)
      replace hK := ps_ltE ev14 hK
      obtain ⟨b17, hT⟩ := ps_gd hK
      replace hK := hT
      clear hT
      refine ps_dast d_X9_image_79 at_329 a_8_2 (ps_in_of b17) ?_
      refine ps_nmS (fun σ15 eσ15 => ?_)
      replace hK := ps_ltE eσ15 hK
      refine pm_inc2 d_X9_image_80 rfl ?_
      obtain ⟨v16, ev16⟩ : ∃ y : Int32, y = x2 + 1 := ⟨_, rfl⟩
      rw [← ev16]
      replace hK := ps_ltE ev16 hK
      refine pm_goto d_X9_image_83 ?_
      exact ih _ _ hK
def qX9_image (p1 : Int32) (σ : ps_S) : Option (Int32 × ps_S) :=
  ps_let (ps_rI σ 327 (upd (σ.1 327) 0 0)) fun σ1 =>
  ps_bd (qX9_within (((p1).toInt64)) 0 1 σ1) (fun v2 σ3 =>
  if v2 = 0 then
  some ((-2), σ3)
  else
  ps_bd (qX9_image_20 p1 ps_N 0 σ3) (fun res σ11 => match res with
  | v12 =>
    ps_bd (qX9_image_55 p1 ps_N 0 σ11) (fun res σ19 => match res with
    | v20 =>
      if ps_in p1 2 = true then
      ps_let (ps_rI σ19 330 (upd (σ19.1 330) (p1).toNatClampNeg (vp_nar .boolean 1))) fun σ21 =>
      some (0, σ21)
      else none)))
set_option maxRecDepth 100000 in
theorem C_X9_image {g : pm_G} (p1 : Int32) (σ : ps_S) (P : Int32 → ps_S → Prop) (hK : ps_ok (qX9_image p1 σ) P) : ps_C g mX9_image 2 [.ref (g.2.2.1 + 327), .int p1] σ (ps_qI P) := by
  unfold qX9_image at hK
  refine ps_C.of (ls := [some (.ref (g.2.2.1 + 327)), some (.int p1), none]) 1 (by decide) rfl (Nat.le_of_ble_eq_true rfl) rfl ?_
  refine pm_ald d_X9_image_0 rfl ?_
  refine pm_ki d_X9_image_1 ?_
  refine ps_putI d_X9_image_2 at_327 f_8_0_0 rfl rfl ?_
  refine ps_nmS (fun σ1 eσ1 => ?_)
  replace hK := ps_ltE eσ1 hK
  refine pm_ild d_X9_image_5 rfl ?_
  refine pm_i2l d_X9_image_6 ?_
  refine pm_kl d_X9_image_7 ?_
  refine pm_kl d_X9_image_8 ?_
  refine ps_cSI d_X9_image_9 ms_X9_within (As := [.long ((p1).toInt64), .long 0, .long 1]) rfl rfl (ps_room.of (by omega) (by decide)) (Nat.le_of_ble_eq_true rfl) (C_X9_within (((p1).toInt64)) 0 1 σ1 _ (ps_bdE hK)) ?_
  intro v2 σ3 hT
  clear hK
  have hK := hT
  clear hT
  refine pm_if_ne d_X9_image_12 (fun c4 => ?_) (fun c4 => ?_)
  · replace hK := ps_ifF c4 hK
    refine pm_ki d_X9_image_18 ?_
    refine pm_ist2 d_X9_image_19 rfl (by decide) ?_
    refine L_X9_image_20 _ (by decide) p1 _ _ _ (ps_ok.mono (ps_bdE hK) ?_)
    rintro v12 σ11 hT
    clear hK
    have hK := hT
    clear hT
    refine pm_ki d_X9_image_53 ?_
    refine pm_ist2 d_X9_image_54 rfl (by decide) ?_
    refine L_X9_image_55 _ (by decide) p1 _ _ _ (ps_ok.mono (ps_bdE hK) ?_)
    rintro v20 σ19 hT
    clear hK
    have hK := hT
    clear hT
    refine pm_ald d_X9_image_86 rfl ?_
    refine ps_getR (q := 330) d_X9_image_87 at_327 f_8_0_3 rfl ?_
    refine pm_ild d_X9_image_90 rfl ?_
    refine pm_ki d_X9_image_91 ?_
    obtain ⟨b22, hT⟩ := ps_gd hK
    replace hK := hT
    clear hT
    refine ps_zast d_X9_image_92 at_330 a_8_3 (ps_in_of b22) ?_
    refine ps_nmS (fun σ21 eσ21 => ?_)
    replace hK := ps_ltE eσ21 hK
    refine pm_ki d_X9_image_93 ?_
    have hQ := ps_so hK
    exact ps_iret rfl d_X9_image_94 ⟨_, rfl, hQ⟩
  · replace hK := ps_ifT c4 hK
    refine pm_ki d_X9_image_15 ?_
    have hQ := ps_so hK
    exact ps_iret rfl d_X9_image_17 ⟨_, rfl, hQ⟩
def qX9_isAgain_2  : Nat → Int32 → ps_S → Option (((Int32)) × ps_S)
  | 0, _, _ => none
  | n + 1, x1, σ =>
    if 83 ≤ x1 then
    some (x1, σ)
    else
    if ps_in x1 83 = true then
    ps_let (σ.1 337 (x1).toNatClampNeg) fun v2 =>
    if ps_in ((35 + x1)) 5550 = true then
    ps_let (ps_rI σ 328 (upd (σ.1 328) ((35 + x1)).toNatClampNeg v2)) fun σ3 =>
    ps_let (x1 + 1) fun v4 =>
    qX9_isAgain_2 n v4 σ3
    else none
    else none
set_option maxRecDepth 100000 in
theorem L_X9_isAgain_2 {g : pm_G} (D : Nat) (hD : 1 ≤ D) {P : Unit → ps_S → Prop}  : ∀ (n : Nat) (x1 : Int32) (σ : ps_S), ps_ok (qX9_isAgain_2 n x1 σ) (fun res σ => match res with | x1 => pm_W g mX9_isAgain (ps_F g D (ps_qV P)) 0 0 29 [some (.ref (g.2.2.1 + 327)), some (.int x1)] [] 345 (ps_E g σ)) → pm_W g mX9_isAgain (ps_F g D (ps_qV P)) 0 0 2 [some (.ref (g.2.2.1 + 327)), some (.int x1)] [] 345 (ps_E g σ) := by
  intro n
  induction n with
  | zero => intro x1 σ hK; exact (ps_no hK).elim
  | succ n ih =>
    intro x1 σ hK
    rw [qX9_isAgain_2] at hK
    refine pm_ild d_X9_isAgain_2 rfl ?_
    refine pm_ki d_X9_isAgain_3 ?_
    refine pm_icmp_ge d_X9_isAgain_5 (fun c1 => ?_) (fun c1 => ?_)
    · replace hK := ps_ifT c1 hK
      exact ps_so hK
    · replace hK := ps_ifF c1 hK
      refine pm_ald d_X9_isAgain_8 rfl ?_
      refine ps_getR (q := 328) d_X9_isAgain_9 at_327 f_8_0_1 rfl ?_
      refine pm_ki d_X9_isAgain_12 ?_
      refine pm_ild d_X9_isAgain_14 rfl ?_
      refine pm_iadd d_X9_isAgain_15 ?_
      refine pm_ald d_X9_isAgain_16 rfl ?_
      refine ps_getR (q := 337) d_X9_isAgain_17 at_327 f_8_0_26 rfl ?_
      refine pm_ild d_X9_isAgain_20 rfl ?_
      obtain ⟨b6, hT⟩ := ps_gd hK
      replace hK := hT
      clear hT
      refine ps_iald d_X9_isAgain_21 at_337 a_8_10 (ps_in_of b6) rfl ?_
      refine ps_topI (fun v2 ev2 => ?_)
      replace hK := ps_ltE ev2 hK
      obtain ⟨b5, hT⟩ := ps_gd hK
      replace hK := hT
      clear hT
      refine ps_iast d_X9_isAgain_22 at_328 a_8_1 (ps_in_of b5) ?_
      refine ps_nmS (fun σ3 eσ3 => ?_)
      replace hK := ps_ltE eσ3 hK
      refine pm_inc1 d_X9_isAgain_23 rfl ?_
      obtain ⟨v4, ev4⟩ : ∃ y : Int32, y = x1 + 1 := ⟨_, rfl⟩
      rw [← ev4]
      replace hK := ps_ltE ev4 hK
      refine pm_goto d_X9_isAgain_26 ?_
      exact ih _ _ hK
def qX9_isAgain_31  : Nat → Int32 → ps_S → Option (((Int32)) × ps_S)
  | 0, _, _ => none
  | n + 1, x1, σ =>
    if 4 ≤ x1 then
    some (x1, σ)
    else
    if ps_in x1 4 = true then
    ps_let (σ.2.2 338 (x1).toNatClampNeg) fun v10 =>
    if ps_in x1 132 = true then
    ps_let (ps_rD σ 329 (vf_upd (σ.2.2 329) (x1).toNatClampNeg v10)) fun σ11 =>
    ps_let (x1 + 1) fun v12 =>
    qX9_isAgain_31 n v12 σ11
    else none
    else none
set_option maxRecDepth 100000 in
theorem L_X9_isAgain_31 {g : pm_G} (D : Nat) (hD : 1 ≤ D) {P : Unit → ps_S → Prop}  : ∀ (n : Nat) (x1 : Int32) (σ : ps_S), ps_ok (qX9_isAgain_31 n x1 σ) (fun res σ => match res with | x1 => pm_W g mX9_isAgain (ps_F g D (ps_qV P)) 0 0 54 [some (.ref (g.2.2.1 + 327)), some (.int x1)] [] 345 (ps_E g σ)) → pm_W g mX9_isAgain (ps_F g D (ps_qV P)) 0 0 31 [some (.ref (g.2.2.1 + 327)), some (.int x1)] [] 345 (ps_E g σ) := by
  intro n
  induction n with
  | zero => intro x1 σ hK; exact (ps_no hK).elim
  | succ n ih =>
    intro x1 σ hK
    rw [qX9_isAgain_31] at hK
    refine pm_ild d_X9_isAgain_31 rfl ?_
    refine pm_ki d_X9_isAgain_32 ?_
    refine pm_icmp_ge d_X9_isAgain_33 (fun c9 => ?_) (fun c9 => ?_)
    · replace hK := ps_ifT c9 hK
      exact ps_so hK
    · replace hK := ps_ifF c9 hK
      refine pm_ald d_X9_isAgain_36 rfl ?_
      refine ps_getR (q := 329) d_X9_isAgain_37 at_327 f_8_0_2 rfl ?_
      refine pm_ild d_X9_isAgain_40 rfl ?_
      refine pm_ald d_X9_isAgain_41 rfl ?_
      refine ps_getR (q := 338) d_X9_isAgain_42 at_327 f_8_0_27 rfl ?_
      refine pm_ild d_X9_isAgain_45 rfl ?_
      obtain ⟨b14, hT⟩ := ps_gd hK
      replace hK := hT
      clear hT
      refine ps_dald d_X9_isAgain_46 at_338 a_8_11 (ps_in_of b14) rfl ?_
      refine ps_topD (fun v10 ev10 => ?_)
      replace hK := ps_ltE ev10 hK
      obtain ⟨b13, hT⟩ := ps_gd hK
      replace hK := hT
      clear hT
      refine ps_dast d_X9_isAgain_47 at_329 a_8_2 (ps_in_of b13) ?_
      refine ps_nmS (fun σ11 eσ11 => ?_)
      replace hK := ps_ltE eσ11 hK
      refine pm_inc1 d_X9_isAgain_48 rfl ?_
      obtain ⟨v12, ev12⟩ : ∃ y : Int32, y = x1 + 1 := ⟨_, rfl⟩
      rw [← ev12]
      replace hK := ps_ltE ev12 hK
      refine pm_goto d_X9_isAgain_51 ?_
      exact ih _ _ hK
def qX9_isAgain  (σ : ps_S) : Option (Unit × ps_S) :=
  ps_bd (qX9_isAgain_2 ps_N 0 σ) (fun res σ7 => match res with
  | v8 =>
    ps_bd (qX9_isAgain_31 ps_N 0 σ7) (fun res σ15 => match res with
    | v16 =>
      some ((), σ15)))
set_option maxRecDepth 100000 in
theorem C_X9_isAgain {g : pm_G}  (σ : ps_S) (P : Unit → ps_S → Prop) (hK : ps_ok (qX9_isAgain  σ) P) : ps_C g mX9_isAgain 1 [.ref (g.2.2.1 + 327)] σ (ps_qV P) := by
  unfold qX9_isAgain at hK
  refine ps_C.of (ls := [some (.ref (g.2.2.1 + 327)), none]) 1 (by decide) rfl (Nat.le_of_ble_eq_true rfl) rfl ?_
  refine pm_ki d_X9_isAgain_0 ?_
  refine pm_ist1 d_X9_isAgain_1 rfl (by decide) ?_
  refine L_X9_isAgain_2 _ (by decide) _ _ _ (ps_ok.mono (ps_bdE hK) ?_)
  rintro v8 σ7 hT
  clear hK
  have hK := hT
  clear hT
  refine pm_ki d_X9_isAgain_29 ?_
  refine pm_ist1 d_X9_isAgain_30 rfl (by decide) ?_
  refine L_X9_isAgain_31 _ (by decide) _ _ _ (ps_ok.mono (ps_bdE hK) ?_)
  rintro v16 σ15 hT
  clear hK
  have hK := hT
  clear hT
  have hQ := ps_so hK
  exact ps_vret rfl d_X9_isAgain_54 ⟨rfl, hQ⟩
def qX9_noTray (p1 : Int32) (σ : ps_S) : Option (Int32 × ps_S) :=
  ps_bd (qX9_within (((p1).toInt64)) 0 3 σ) (fun v1 σ2 =>
  if v1 = 0 then
  some ((-2), σ2)
  else
  if ps_in p1 4 = true then
  ps_let (σ2.1 342 (p1).toNatClampNeg) fun v4 =>
  if v4 = ((-1)) then
  some ((-6), σ2)
  else
  some (0, σ2)
  else none)
set_option maxRecDepth 100000 in
theorem C_X9_noTray {g : pm_G} (p1 : Int32) (σ : ps_S) (P : Int32 → ps_S → Prop) (hK : ps_ok (qX9_noTray p1 σ) P) : ps_C g mX9_noTray 2 [.ref (g.2.2.1 + 327), .int p1] σ (ps_qI P) := by
  unfold qX9_noTray at hK
  refine ps_C.of (ls := [some (.ref (g.2.2.1 + 327)), some (.int p1)]) 0 (by decide) rfl (Nat.le_of_ble_eq_true rfl) rfl ?_
  refine pm_ild d_X9_noTray_0 rfl ?_
  refine pm_i2l d_X9_noTray_1 ?_
  refine pm_kl d_X9_noTray_2 ?_
  refine pm_kl d_X9_noTray_3 ?_
  refine ps_cSI d_X9_noTray_6 ms_X9_within (As := [.long ((p1).toInt64), .long 0, .long 3]) rfl rfl (ps_room.of (by omega) (by decide)) (Nat.le_of_ble_eq_true rfl) (C_X9_within (((p1).toInt64)) 0 3 σ _ (ps_bdE hK)) ?_
  intro v1 σ2 hT
  clear hK
  have hK := hT
  clear hT
  refine pm_if_ne d_X9_noTray_9 (fun c3 => ?_) (fun c3 => ?_)
  · replace hK := ps_ifF c3 hK
    refine pm_ald d_X9_noTray_17 rfl ?_
    refine ps_getR (q := 342) d_X9_noTray_18 at_327 f_8_0_35 rfl ?_
    refine pm_ild d_X9_noTray_21 rfl ?_
    obtain ⟨b6, hT⟩ := ps_gd hK
    replace hK := hT
    clear hT
    refine ps_iald d_X9_noTray_22 at_342 a_8_15 (ps_in_of b6) rfl ?_
    refine ps_topI (fun v4 ev4 => ?_)
    replace hK := ps_ltE ev4 hK
    refine pm_ki d_X9_noTray_23 ?_
    refine pm_icmp_ne d_X9_noTray_24 (fun c5 => ?_) (fun c5 => ?_)
    · replace hK := ps_ifF c5 hK
      refine pm_ki d_X9_noTray_32 ?_
      have hQ := ps_so hK
      exact ps_iret rfl d_X9_noTray_33 ⟨_, rfl, hQ⟩
    · replace hK := ps_ifT c5 hK
      refine pm_ki d_X9_noTray_27 ?_
      refine pm_goto d_X9_noTray_29 ?_
      have hQ := ps_so hK
      exact ps_iret rfl d_X9_noTray_33 ⟨_, rfl, hQ⟩
  · replace hK := ps_ifT c3 hK
    refine pm_ki d_X9_noTray_12 ?_
    refine pm_goto d_X9_noTray_14 ?_
    have hQ := ps_so hK
    exact ps_iret rfl d_X9_noTray_33 ⟨_, rfl, hQ⟩
def qX9_stores_2  : Nat → Int32 → ps_S → Option (((Int32)) × ps_S)
  | 0, _, _ => none
  | n + 1, x1, σ =>
    if 83 ≤ x1 then
    some (x1, σ)
    else
    if ps_in ((35 + x1)) 5550 = true then
    ps_let (σ.1 328 ((35 + x1)).toNatClampNeg) fun v2 =>
    if ps_in x1 83 = true then
    ps_let (ps_rI σ 337 (upd (σ.1 337) (x1).toNatClampNeg v2)) fun σ3 =>
    ps_let (x1 + 1) fun v4 =>
    qX9_stores_2 n v4 σ3
    else none
    else none
set_option maxRecDepth 100000 in
theorem L_X9_stores_2 {g : pm_G} (D : Nat) (hD : 1 ≤ D) {P : Unit → ps_S → Prop}  : ∀ (n : Nat) (x1 : Int32) (σ : ps_S), ps_ok (qX9_stores_2 n x1 σ) (fun res σ => match res with | x1 => pm_W g mX9_stores (ps_F g D (ps_qV P)) 0 0 29 [some (.ref (g.2.2.1 + 327)), some (.int x1)] [] 345 (ps_E g σ)) → pm_W g mX9_stores (ps_F g D (ps_qV P)) 0 0 2 [some (.ref (g.2.2.1 + 327)), some (.int x1)] [] 345 (ps_E g σ) := by
  intro n
  induction n with
  | zero => intro x1 σ hK; exact (ps_no hK).elim
  | succ n ih =>
    intro x1 σ hK
    rw [qX9_stores_2] at hK
    refine pm_ild d_X9_stores_2 rfl ?_
    refine pm_ki d_X9_stores_3 ?_
    refine pm_icmp_ge d_X9_stores_5 (fun c1 => ?_) (fun c1 => ?_)
    · replace hK := ps_ifT c1 hK
      exact ps_so hK
    · replace hK := ps_ifF c1 hK
      refine pm_ald d_X9_stores_8 rfl ?_
      refine ps_getR (q := 337) d_X9_stores_9 at_327 f_8_0_26 rfl ?_
      refine pm_ild d_X9_stores_12 rfl ?_
      refine pm_ald d_X9_stores_13 rfl ?_
      refine ps_getR (q := 328) d_X9_stores_14 at_327 f_8_0_1 rfl ?_
      refine pm_ki d_X9_stores_17 ?_
      refine pm_ild d_X9_stores_19 rfl ?_
      refine pm_iadd d_X9_stores_20 ?_
      obtain ⟨b6, hT⟩ := ps_gd hK
      replace hK := hT
      clear hT
      refine ps_iald d_X9_stores_21 at_328 a_8_1 (ps_in_of b6) rfl ?_
      refine ps_topI (fun v2 ev2 => ?_)
      replace hK := ps_ltE ev2 hK
      obtain ⟨b5, hT⟩ := ps_gd hK
      replace hK := hT
      clear hT
      refine ps_iast d_X9_stores_22 at_337 a_8_10 (ps_in_of b5) ?_
      refine ps_nmS (fun σ3 eσ3 => ?_)
      replace hK := ps_ltE eσ3 hK
      refine pm_inc1 d_X9_stores_23 rfl ?_
      obtain ⟨v4, ev4⟩ : ∃ y : Int32, y = x1 + 1 := ⟨_, rfl⟩
      rw [← ev4]
      replace hK := ps_ltE ev4 hK
      refine pm_goto d_X9_stores_26 ?_
      exact ih _ _ hK
def qX9_stores_31  : Nat → Int32 → ps_S → Option (((Int32)) × ps_S)
  | 0, _, _ => none
  | n + 1, x1, σ =>
    if 4 ≤ x1 then
    some (x1, σ)
    else
    if ps_in x1 132 = true then
    ps_let (σ.2.2 329 (x1).toNatClampNeg) fun v10 =>
    if ps_in x1 4 = true then
    ps_let (ps_rD σ 338 (vf_upd (σ.2.2 338) (x1).toNatClampNeg v10)) fun σ11 =>
    ps_let (x1 + 1) fun v12 =>
    qX9_stores_31 n v12 σ11
    else none
    else none
set_option maxRecDepth 100000 in
theorem L_X9_stores_31 {g : pm_G} (D : Nat) (hD : 1 ≤ D) {P : Unit → ps_S → Prop}  : ∀ (n : Nat) (x1 : Int32) (σ : ps_S), ps_ok (qX9_stores_31 n x1 σ) (fun res σ => match res with | x1 => pm_W g mX9_stores (ps_F g D (ps_qV P)) 0 0 54 [some (.ref (g.2.2.1 + 327)), some (.int x1)] [] 345 (ps_E g σ)) → pm_W g mX9_stores (ps_F g D (ps_qV P)) 0 0 31 [some (.ref (g.2.2.1 + 327)), some (.int x1)] [] 345 (ps_E g σ) := by
  intro n
  induction n with
  | zero => intro x1 σ hK; exact (ps_no hK).elim
  | succ n ih =>
    intro x1 σ hK
    rw [qX9_stores_31] at hK
    refine pm_ild d_X9_stores_31 rfl ?_
    refine pm_ki d_X9_stores_32 ?_
    refine pm_icmp_ge d_X9_stores_33 (fun c9 => ?_) (fun c9 => ?_)
    · replace hK := ps_ifT c9 hK
      exact ps_so hK
    · replace hK := ps_ifF c9 hK
      refine pm_ald d_X9_stores_36 rfl ?_
      refine ps_getR (q := 338) d_X9_stores_37 at_327 f_8_0_27 rfl ?_
      refine pm_ild d_X9_stores_40 rfl ?_
      refine pm_ald d_X9_stores_41 rfl ?_
      refine ps_getR (q := 329) d_X9_stores_42 at_327 f_8_0_2 rfl ?_
      refine pm_ild d_X9_stores_45 rfl ?_
      obtain ⟨b14, hT⟩ := ps_gd hK
      replace hK := hT
      clear hT
      refine ps_dald d_X9_stores_46 at_329 a_8_2 (ps_in_of b14) rfl ?_
      refine ps_topD (fun v10 ev10 => ?_)
      replace hK := ps_ltE ev10 hK
      obtain ⟨b13, hT⟩ := ps_gd hK
      replace hK := hT
      clear hT
      refine ps_dast d_X9_stores_47 at_338 a_8_11 (ps_in_of b13) ?_
      refine ps_nmS (fun σ11 eσ11 => ?_)
      replace hK := ps_ltE eσ11 hK
      refine pm_inc1 d_X9_stores_48 rfl ?_
      obtain ⟨v12, ev12⟩ : ∃ y : Int32, y = x1 + 1 := ⟨_, rfl⟩
      rw [← ev12]
      replace hK := ps_ltE ev12 hK
      refine pm_goto d_X9_stores_51 ?_
      exact ih _ _ hK
def qX9_stores  (σ : ps_S) : Option (Unit × ps_S) :=
  ps_bd (qX9_stores_2 ps_N 0 σ) (fun res σ7 => match res with
  | v8 =>
    ps_bd (qX9_stores_31 ps_N 0 σ7) (fun res σ15 => match res with
    | v16 =>
      some ((), σ15)))
set_option maxRecDepth 100000 in
theorem C_X9_stores {g : pm_G}  (σ : ps_S) (P : Unit → ps_S → Prop) (hK : ps_ok (qX9_stores  σ) P) : ps_C g mX9_stores 1 [.ref (g.2.2.1 + 327)] σ (ps_qV P) := by
  unfold qX9_stores at hK
  refine ps_C.of (ls := [some (.ref (g.2.2.1 + 327)), none]) 1 (by decide) rfl (Nat.le_of_ble_eq_true rfl) rfl ?_
  refine pm_ki d_X9_stores_0 ?_
  refine pm_ist1 d_X9_stores_1 rfl (by decide) ?_
  refine L_X9_stores_2 _ (by decide) _ _ _ (ps_ok.mono (ps_bdE hK) ?_)
  rintro v8 σ7 hT
  clear hK
  have hK := hT
  clear hT
  refine pm_ki d_X9_stores_29 ?_
  refine pm_ist1 d_X9_stores_30 rfl (by decide) ?_
  refine L_X9_stores_31 _ (by decide) _ _ _ (ps_ok.mono (ps_bdE hK) ?_)
  rintro v16 σ15 hT
  clear hK
  have hK := hT
  clear hT
  have hQ := ps_so hK
  exact ps_vret rfl d_X9_stores_54 ⟨rfl, hQ⟩
