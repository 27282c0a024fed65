def qX9_feed_24  (y1 : Int32) (y2 : Int32) (y3 : Int32) (y4 : Int32) (y5 : Int32) : Nat → Int32 → ps_S → Option (((Int32)) × ps_S)
  | 0, _, _ => none
  | n + 1, x6, σ =>
    if 20 ≤ x6 then
    some (x6, σ)
    else
    if 4 ≤ x6 then
    if 8 ≤ x6 then
    if 12 ≤ x6 then
    if 16 ≤ x6 then
    ps_let (σ.1 327 6) fun v9 =>
    if ps_in v9 900 = true then
    ps_let (ps_rI σ 331 (upd (σ.1 331) (v9).toNatClampNeg ((((y5 >>> (((24 - ((8 * ((x6 - x6 / 4 * 4)))))) &&& 31))) &&& 255)))) fun σ10 =>
    ps_let (σ10.1 327 6) fun v11 =>
    ps_let (ps_rI σ10 327 (upd (σ10.1 327) 6 ((v11 + 1)))) fun σ12 =>
    ps_let (x6 + 1) fun v13 =>
    qX9_feed_24 y1 y2 y3 y4 y5 n v13 σ12
    else none
    else
    ps_let (σ.1 327 6) fun v15 =>
    if ps_in v15 900 = true then
    ps_let (ps_rI σ 331 (upd (σ.1 331) (v15).toNatClampNeg ((((y4 >>> (((24 - ((8 * ((x6 - x6 / 4 * 4)))))) &&& 31))) &&& 255)))) fun σ16 =>
    ps_let (σ16.1 327 6) fun v17 =>
    ps_let (ps_rI σ16 327 (upd (σ16.1 327) 6 ((v17 + 1)))) fun σ18 =>
    ps_let (x6 + 1) fun v19 =>
    qX9_feed_24 y1 y2 y3 y4 y5 n v19 σ18
    else none
    else
    ps_let (σ.1 327 6) fun v21 =>
    if ps_in v21 900 = true then
    ps_let (ps_rI σ 331 (upd (σ.1 331) (v21).toNatClampNeg ((((y3 >>> (((24 - ((8 * ((x6 - x6 / 4 * 4)))))) &&& 31))) &&& 255)))) fun σ22 =>
    ps_let (σ22.1 327 6) fun v23 =>
    ps_let (ps_rI σ22 327 (upd (σ22.1 327) 6 ((v23 + 1)))) fun σ24 =>
    ps_let (x6 + 1) fun v25 =>
    qX9_feed_24 y1 y2 y3 y4 y5 n v25 σ24
    else none
    else
    ps_let (σ.1 327 6) fun v27 =>
    if ps_in v27 900 = true then
    ps_let (ps_rI σ 331 (upd (σ.1 331) (v27).toNatClampNeg ((((y2 >>> (((24 - ((8 * ((x6 - x6 / 4 * 4)))))) &&& 31))) &&& 255)))) fun σ28 =>
    ps_let (σ28.1 327 6) fun v29 =>
    ps_let (ps_rI σ28 327 (upd (σ28.1 327) 6 ((v29 + 1)))) fun σ30 =>
    ps_let (x6 + 1) fun v31 =>
    qX9_feed_24 y1 y2 y3 y4 y5 n v31 σ30
    else none
    else
    ps_let (σ.1 327 6) fun v33 =>
    if ps_in v33 900 = true then
    ps_let (ps_rI σ 331 (upd (σ.1 331) (v33).toNatClampNeg ((((y1 >>> (((24 - ((8 * ((x6 - x6 / 4 * 4)))))) &&& 31))) &&& 255)))) fun σ34 =>
    ps_let (σ34.1 327 6) fun v35 =>
    ps_let (ps_rI σ34 327 (upd (σ34.1 327) 6 ((v35 + 1)))) fun σ36 =>
    ps_let (x6 + 1) fun v37 =>
    qX9_feed_24 y1 y2 y3 y4 y5 n v37 σ36
    else none
set_option maxRecDepth 100000 in
theorem L_X9_feed_24 {g : pm_G} (D : Nat) (hD : 1 ≤ D) {P : Int32 → ps_S → Prop}  (y1 : Int32) (y2 : Int32) (y3 : Int32) (y4 : Int32) (y5 : Int32) : ∀ (n : Nat) (x6 : Int32) (σ : ps_S), ps_ok (qX9_feed_24 y1 y2 y3 y4 y5 n x6 σ) (fun res σ => match res with | x6 => pm_W g mX9_feed (ps_F g D (ps_qI P)) 0 0 121 [some (.ref (g.2.2.1 + 327)), some (.int y1), some (.int y2), some (.int y3), some (.int y4), some (.int y5), some (.int x6), none] [] 345 (ps_E g σ)) → pm_W g mX9_feed (ps_F g D (ps_qI P)) 0 0 24 [some (.ref (g.2.2.1 + 327)), some (.int y1), some (.int y2), some (.int y3), some (.int y4), some (.int y5), some (.int x6), none] [] 345 (ps_E g σ) := by
  intro n
  induction n with
  | zero => intro x6 σ hK; exact (ps_no hK).elim
  | succ n ih =>
    intro x6 σ hK
    rw [qX9_feed_24] at hK
    refine pm_ild d_X9_feed_24 rfl ?_
    refine pm_ki d_X9_feed_26 ?_
    refine pm_icmp_ge d_X9_feed_28 (fun c4 => ?_) (fun c4 => ?_)
    · replace hK := ps_ifT c4 hK
      exact ps_so hK
    · replace hK := ps_ifF c4 hK
      refine pm_ild d_X9_feed_31 rfl ?_
      refine pm_ki d_X9_feed_33 ?_
      refine pm_icmp_ge d_X9_feed_34 (fun c5 => ?_) (fun c5 => ?_)
      · replace hK := ps_ifT c5 hK
        refine pm_ild d_X9_feed_41 rfl ?_
        refine pm_ki d_X9_feed_43 ?_
        refine pm_icmp_ge d_X9_feed_45 (fun c6 => ?_) (fun c6 => ?_)
        · replace hK := ps_ifT c6 hK
          refine pm_ild d_X9_feed_52 rfl ?_
          refine pm_ki d_X9_feed_54 ?_
          refine pm_icmp_ge d_X9_feed_56 (fun c7 => ?_) (fun c7 => ?_)
          · replace hK := ps_ifT c7 hK
            refine pm_ild d_X9_feed_63 rfl ?_
            refine pm_ki d_X9_feed_65 ?_
            refine pm_icmp_ge d_X9_feed_67 (fun c8 => ?_) (fun c8 => ?_)
            · replace hK := ps_ifT c8 hK
              refine pm_ild d_X9_feed_75 rfl ?_
              refine pm_ist7 d_X9_feed_77 rfl (by decide) ?_
              refine pm_ald d_X9_feed_79 rfl ?_
              refine ps_getR (q := 331) d_X9_feed_80 at_327 f_8_0_4 rfl ?_
              refine pm_ald d_X9_feed_83 rfl ?_
              refine ps_getI d_X9_feed_84 at_327 f_8_0_6 rfl ?_
              refine ps_topI (fun v9 ev9 => ?_)
              replace hK := ps_ltE ev9 hK
              refine pm_ild d_X9_feed_87 rfl ?_
              refine pm_ki d_X9_feed_89 ?_
              refine pm_ki d_X9_feed_91 ?_
              refine pm_ild d_X9_feed_93 rfl ?_
              refine pm_ki d_X9_feed_95 ?_
              refine pm_irem d_X9_feed_96 (by decide) ?_
              refine pm_imul d_X9_feed_97 ?_
              refine pm_isub d_X9_feed_98 ?_
              refine pm_ishr d_X9_feed_99 ?_
              refine pm_ki d_X9_feed_100 ?_
              refine pm_iand d_X9_feed_103 ?_
              obtain ⟨b14, hT⟩ := ps_gd hK
              replace hK := hT
              clear hT
              refine ps_iast d_X9_feed_104 at_331 a_8_4 (ps_in_of b14) ?_
              refine ps_nmS (fun σ10 eσ10 => ?_)
              replace hK := ps_ltE eσ10 hK
              refine pm_ald d_X9_feed_105 rfl ?_
              refine pm_dup d_X9_feed_106 rfl ?_
              refine ps_getI d_X9_feed_107 at_327 f_8_0_6 rfl ?_
              refine ps_topI (fun v11 ev11 => ?_)
              replace hK := ps_ltE ev11 hK
              refine pm_ki d_X9_feed_110 ?_
              refine pm_iadd d_X9_feed_111 ?_
              refine ps_putI d_X9_feed_112 at_327 f_8_0_6 rfl rfl ?_
              refine ps_nmS (fun σ12 eσ12 => ?_)
              replace hK := ps_ltE eσ12 hK
              refine pm_inc6 d_X9_feed_115 rfl ?_
              obtain ⟨v13, ev13⟩ : ∃ y : Int32, y = x6 + 1 := ⟨_, rfl⟩
              rw [← ev13]
              replace hK := ps_ltE ev13 hK
              refine pm_goto d_X9_feed_118 ?_
              refine pm_wk (ls' := [some (.ref (g.2.2.1 + 327)), some (.int y1), some (.int y2), some (.int y3), some (.int y4), some (.int y5), some (.int v13), none]) ⟨rfl, ⟨rfl, ⟨rfl, ⟨rfl, ⟨rfl, ⟨rfl, ⟨rfl, trivial⟩⟩⟩⟩⟩⟩⟩ ?_
              exact ih _ _ hK
            · replace hK := ps_ifF c8 hK
              refine pm_ild d_X9_feed_70 rfl ?_
              refine pm_goto d_X9_feed_72 ?_
              refine pm_ist7 d_X9_feed_77 rfl (by decide) ?_
              refine pm_ald d_X9_feed_79 rfl ?_
              refine ps_getR (q := 331) d_X9_feed_80 at_327 f_8_0_4 rfl ?_
              refine pm_ald d_X9_feed_83 rfl ?_
              refine ps_getI d_X9_feed_84 at_327 f_8_0_6 rfl ?_
              refine ps_topI (fun v15 ev15 => ?_)
              replace hK := ps_ltE ev15 hK
              refine pm_ild d_X9_feed_87 rfl ?_
              refine pm_ki d_X9_feed_89 ?_
              refine pm_ki d_X9_feed_91 ?_
              refine pm_ild d_X9_feed_93 rfl ?_
              refine pm_ki d_X9_feed_95 ?_
              refine pm_irem d_X9_feed_96 (by decide) ?_
              refine pm_imul d_X9_feed_97 ?_
              refine pm_isub d_X9_feed_98 ?_
              refine pm_ishr d_X9_feed_99 ?_
              refine pm_ki d_X9_feed_100 ?_
              refine pm_iand d_X9_feed_103 ?_
              obtain ⟨b20, hT⟩ := ps_gd hK
              replace hK := hT
              clear hT
              refine ps_iast d_X9_feed_104 at_331 a_8_4 (ps_in_of b20) ?_
              refine ps_nmS (fun σ16 eσ16 => ?_)
              replace hK := ps_ltE eσ16 hK
              refine pm_ald d_X9_feed_105 rfl ?_
              refine pm_dup d_X9_feed_106 rfl ?_
              refine ps_getI d_X9_feed_107 at_327 f_8_0_6 rfl ?_
              refine ps_topI (fun v17 ev17 => ?_)
              replace hK := ps_ltE ev17 hK
              refine pm_ki d_X9_feed_110 ?_
              refine pm_iadd d_X9_feed_111 ?_
              refine ps_putI d_X9_feed_112 at_327 f_8_0_6 rfl rfl ?_
              refine ps_nmS (fun σ18 eσ18 => ?_)
              replace hK := ps_ltE eσ18 hK
              refine pm_inc6 d_X9_feed_115 rfl ?_
              obtain ⟨v19, ev19⟩ : ∃ y : Int32, y = x6 + 1 := ⟨_, rfl⟩
              rw [← ev19]
              replace hK := ps_ltE ev19 hK
              refine pm_goto d_X9_feed_118 ?_
              refine pm_wk (ls' := [some (.ref (g.2.2.1 + 327)), some (.int y1), some (.int y2), some (.int y3), some (.int y4), some (.int y5), some (.int v19), none]) ⟨rfl, ⟨rfl, ⟨rfl, ⟨rfl, ⟨rfl, ⟨rfl, ⟨rfl, trivial⟩⟩⟩⟩⟩⟩⟩ ?_
              exact ih _ _ hK
          · replace hK := ps_ifF c7 hK
            refine pm_ild d_X9_feed_59 rfl ?_
            refine pm_goto d_X9_feed_60 ?_
            refine pm_ist7 d_X9_feed_77 rfl (by decide) ?_
            refine pm_ald d_X9_feed_79 rfl ?_
            refine ps_getR (q := 331) d_X9_feed_80 at_327 f_8_0_4 rfl ?_
            refine pm_ald d_X9_feed_83 rfl ?_
            refine ps_getI d_X9_feed_84 at_327 f_8_0_6 rfl ?_
            refine ps_topI (fun v21 ev21 => ?_)
            replace hK := ps_ltE ev21 hK
            refine pm_ild d_X9_feed_87 rfl ?_
            refine pm_ki d_X9_feed_89 ?_
            refine pm_ki d_X9_feed_91 ?_
            refine pm_ild d_X9_feed_93 rfl ?_
            refine pm_ki d_X9_feed_95 ?_
            refine pm_irem d_X9_feed_96 (by decide) ?_
            refine pm_imul d_X9_feed_97 ?_
            refine pm_isub d_X9_feed_98 ?_
            refine pm_ishr d_X9_feed_99 ?_
            refine pm_ki d_X9_feed_100 ?_
            refine pm_iand d_X9_feed_103 ?_
            obtain ⟨b26, hT⟩ := ps_gd hK
            replace hK := hT
            clear hT
            refine ps_iast d_X9_feed_104 at_331 a_8_4 (ps_in_of b26) ?_
            refine ps_nmS (fun σ22 eσ22 => ?_)
            replace hK := ps_ltE eσ22 hK
            refine pm_ald d_X9_feed_105 rfl ?_
            refine pm_dup d_X9_feed_106 rfl ?_
            refine ps_getI d_X9_feed_107 at_327 f_8_0_6 rfl ?_
            refine ps_topI (fun v23 ev23 => ?_)
            replace hK := ps_ltE ev23 hK
            refine pm_ki d_X9_feed_110 ?_
            refine pm_iadd d_X9_feed_111 ?_
            refine ps_putI d_X9_feed_112 at_327 f_8_0_6 rfl rfl ?_
            refine ps_nmS (fun σ24 eσ24 => ?_)
            replace hK := ps_ltE eσ24 hK
            refine pm_inc6 d_X9_feed_115 rfl ?_
            obtain ⟨v25, ev25⟩ : ∃ y : Int32, y = x6 + 1 := ⟨_, rfl⟩
            rw [← ev25]
            replace hK := ps_ltE ev25 hK
            refine pm_goto d_X9_feed_118 ?_
            refine pm_wk (ls' := [some (.ref (g.2.2.1 + 327)), some (.int y1), some (.int y2), some (.int y3), some (.int y4), some (.int y5), some (.int v25), none]) ⟨rfl, ⟨rfl, ⟨rfl, ⟨rfl, ⟨rfl, ⟨rfl, ⟨rfl, trivial⟩⟩⟩⟩⟩⟩⟩ ?_
            exact ih _ _ hK
        · replace hK := ps_ifF c6 hK
          refine pm_ild d_X9_feed_48 rfl ?_
          refine pm_goto d_X9_feed_49 ?_
          refine pm_ist7 d_X9_feed_77 rfl (by decide) ?_
          refine pm_ald d_X9_feed_79 rfl ?_
          refine ps_getR (q := 331) d_X9_feed_80 at_327 f_8_0_4 rfl ?_
          refine pm_ald d_X9_feed_83 rfl ?_
          refine ps_getI d_X9_feed_84 at_327 f_8_0_6 rfl ?_
          refine ps_topI (fun v27 ev27 => ?_)
          replace hK := ps_ltE ev27 hK
          refine pm_ild d_X9_feed_87 rfl ?_
          refine pm_ki d_X9_feed_89 ?_
          refine pm_ki d_X9_feed_91 ?_
          refine pm_ild d_X9_feed_93 rfl ?_
          refine pm_ki d_X9_feed_95 ?_
          refine pm_irem d_X9_feed_96 (by decide) ?_
          refine pm_imul d_X9_feed_97 ?_
          refine pm_isub d_X9_feed_98 ?_
          refine pm_ishr d_X9_feed_99 ?_
          refine pm_ki d_X9_feed_100 ?_
          refine pm_iand d_X9_feed_103 ?_
          obtain ⟨b32, hT⟩ := ps_gd hK
          replace hK := hT
          clear hT
          refine ps_iast d_X9_feed_104 at_331 a_8_4 (ps_in_of b32) ?_
          refine ps_nmS (fun σ28 eσ28 => ?_)
          replace hK := ps_ltE eσ28 hK
          refine pm_ald d_X9_feed_105 rfl ?_
          refine pm_dup d_X9_feed_106 rfl ?_
          refine ps_getI d_X9_feed_107 at_327 f_8_0_6 rfl ?_
          refine ps_topI (fun v29 ev29 => ?_)
          replace hK := ps_ltE ev29 hK
          refine pm_ki d_X9_feed_110 ?_
          refine pm_iadd d_X9_feed_111 ?_
          refine ps_putI d_X9_feed_112 at_327 f_8_0_6 rfl rfl ?_
          refine ps_nmS (fun σ30 eσ30 => ?_)
          replace hK := ps_ltE eσ30 hK
          refine pm_inc6 d_X9_feed_115 rfl ?_
          obtain ⟨v31, ev31⟩ : ∃ y : Int32, y = x6 + 1 := ⟨_, rfl⟩
          rw [← ev31]
          replace hK := ps_ltE ev31 hK
          refine pm_goto d_X9_feed_118 ?_
          refine pm_wk (ls' := [some (.ref (g.2.2.1 + 327)), some (.int y1), some (.int y2), some (.int y3), some (.int y4), some (.int y5), some (.int v31), none]) ⟨rfl, ⟨rfl, ⟨rfl, ⟨rfl, ⟨rfl, ⟨rfl, ⟨rfl, trivial⟩⟩⟩⟩⟩⟩⟩ ?_
          exact ih _ _ hK
      · replace hK := ps_ifF c5 hK
        refine pm_ild d_X9_feed_37 rfl ?_
        refine pm_goto d_X9_feed_38 ?_
        refine pm_ist7 d_X9_feed_77 rfl (by decide) ?_
        refine pm_ald d_X9_feed_79 rfl ?_
        refine ps_getR (q := 331) d_X9_feed_80 at_327 f_8_0_4 rfl ?_
        refine pm_ald d_X9_feed_83 rfl ?_
        refine ps_getI d_X9_feed_84 at_327 f_8_0_6 rfl ?_
        refine ps_topI (fun v33 ev33 => ?_)
        replace hK := ps_ltE ev33 hK
        refine pm_ild d_X9_feed_87 rfl ?_
        refine pm_ki d_X9_feed_89 ?_
        refine pm_ki d_X9_feed_91 ?_
        refine pm_ild d_X9_feed_93 rfl ?_
        refine pm_ki d_X9_feed_95 ?_
        refine pm_irem d_X9_feed_96 (by decide) ?_
        refine pm_imul d_X9_feed_97 ?_
        refine pm_isub d_X9_feed_98 ?_
        refine pm_ishr d_X9_feed_99 ?_
        refine pm_ki d_X9_feed_100 ?_
        refine pm_iand d_X9_feed_103 ?_
        obtain ⟨b38, hT⟩ := ps_gd hK
        replace hK := hT
        clear hT
        refine ps_iast d_X9_feed_104 at_331 a_8_4 (ps_in_of b38) ?_
        refine ps_nmS (fun σ34 eσ34 => ?_)
        replace hK := ps_ltE eσ34 hK
        refine pm_ald d_X9_feed_105 rfl ?_
        refine pm_dup d_X9_feed_106 rfl ?_
        refine ps_getI d_X9_feed_107 at_327 f_8_0_6 rfl ?_
        refine ps_topI (fun v35 ev35 => ?_)
        replace hK := ps_ltE ev35 hK
        refine pm_ki d_X9_feed_110 ?_
        refine pm_iadd d_X9_feed_111 ?_
        refine ps_putI d_X9_feed_112 at_327 f_8_0_6 rfl rfl ?_
        refine ps_nmS (fun σ36 eσ36 => ?_)
        replace hK := ps_ltE eσ36 hK
        refine pm_inc6 d_X9_feed_115 rfl ?_
        obtain ⟨v37, ev37⟩ : ∃ y : Int32, y = x6 + 1 := ⟨_, rfl⟩
        rw [← ev37]
        replace hK := ps_ltE ev37 hK
        refine pm_goto d_X9_feed_118 ?_
        refine pm_wk (ls' := [some (.ref (g.2.2.1 + 327)), some (.int y1), some (.int y2), some (.int y3), some (.int y4), some (.int y5), some (.int v37), none]) ⟨rfl, ⟨rfl, ⟨rfl, ⟨rfl, ⟨rfl, ⟨rfl, ⟨rfl, trivial⟩⟩⟩⟩⟩⟩⟩ ?_
        exact ih _ _ hK
def qX9_feed (p1 : Int32) (p2 : Int32) (p3 : Int32) (p4 : Int32) (p5 : Int32) (σ : ps_S) : Option (Int32 × ps_S) :=
  ps_let (ps_rI σ 327 (upd (σ.1 327) 0 0)) fun σ1 =>
  ps_let (σ1.1 327 6) fun v2 =>
  if ((v2 + 20)) ≤ 900 then
  ps_bd (qX9_feed_24 p1 p2 p3 p4 p5 ps_N 0 σ1) (fun res σ39 => match res with
  | v40 =>
    ps_let (σ39.1 327 6) fun v41 =>
    some (v41, σ39))
  else
  some ((-5), σ1)
set_option maxRecDepth 100000 in
theorem C_X9_feed {g : pm_G} (p1 : Int32) (p2 : Int32) (p3 : Int32) (p4 : Int32) (p5 : Int32) (σ : ps_S) (P : Int32 → ps_S → Prop) (hK : ps_ok (qX9_feed p1 p2 p3 p4 p5 σ) P) : ps_C g mX9_feed 1 [.ref (g.2.2.1 + 327), .int p1, .int p2, .int p3, .int p4, .int p5] σ (ps_qI P) := by
  unfold qX9_feed at hK
  refine ps_C.of (ls := [some (.ref (g.2.2.1 + 327)), some (.int p1), some (.int p2), some (.int p3), some (.int p4), some (.int p5), none, none]) 2 (by decide) rfl (Nat.le_of_ble_eq_true rfl) rfl ?_
  refine pm_ald d_X9_feed_0 rfl ?_
  refine pm_ki d_X9_feed_1 ?_
  refine ps_putI d_X9_feed_2 at_327 f_8_0_0 rfl rfl ?_
  refine ps_nmS (fun σ1 eσ1 => ?_)
  replace hK := ps_ltE eσ1 hK
  refine pm_ald d_X9_feed_5 rfl ?_
  refine ps_getI d_X9_feed_6 at_327 f_8_0_6 rfl ?_
  refine ps_topI (fun v2 ev2 => ?_)
  replace hK := ps_ltE ev2 hK
  refine pm_ki d_X9_feed_9 ?_
  refine pm_iadd d_X9_feed_11 ?_
  refine pm_ki d_X9_feed_12 ?_
  refine pm_icmp_le d_X9_feed_15 (fun c3 => ?_) (fun c3 => ?_)
  · replace hK := ps_ifT c3 hK
    refine pm_ki d_X9_feed_21 ?_
    refine pm_ist6 d_X9_feed_22 rfl (by decide) ?_
    refine L_X9_feed_24 _ (by decide) p1 p2 p3 p4 p5 _ _ _ (ps_ok.mono (ps_bdE hK) ?_)
    rintro v40 σ39 hT
    clear hK
    have hK := hT
    clear hT
    refine pm_ald d_X9_feed_121 rfl ?_
    refine ps_getI d_X9_feed_122 at_327 f_8_0_6 rfl ?_
    refine ps_topI (fun v41 ev41 => ?_)
    replace hK := ps_ltE ev41 hK
    have hQ := ps_so hK
    exact ps_iret rfl d_X9_feed_125 ⟨_, rfl, hQ⟩
  · replace hK := ps_ifF c3 hK
    refine pm_ki d_X9_feed_18 ?_
    have hQ := ps_so hK
    exact ps_iret rfl d_X9_feed_20 ⟨_, rfl, hQ⟩
def qX9_isFile (p1 : Int32) (σ : ps_S) : Option (Int32 × ps_S) :=
  ps_let (σ.1 328 2) fun v1 =>
  ps_bd (qX9_within (((p1).toInt64)) 0 ((((v1 - 1)).toInt64)) σ) (fun v2 σ3 =>
  if ps_b01 v2 = true then some (v2, σ3) else none)
set_option maxRecDepth 100000 in
theorem C_X9_isFile {g : pm_G} (p1 : Int32) (σ : ps_S) (P : Int32 → ps_S → Prop) (hK : ps_ok (qX9_isFile p1 σ) P) : ps_C g mX9_isFile 2 [.ref (g.2.2.1 + 327), .int p1] σ (ps_qI P) := by
  unfold qX9_isFile at hK
  refine ps_C.of (ls := [some (.ref (g.2.2.1 + 327)), some (.int p1)]) 0 (by decide) rfl (Nat.le_of_ble_eq_true rfl) rfl ?_
  refine pm_ild d_X9_isFile_0 rfl ?_
  refine pm_i2l d_X9_isFile_1 ?_
  refine pm_kl d_X9_isFile_2 ?_
  refine pm_ald d_X9_isFile_3 rfl ?_
  refine ps_getR (q := 328) d_X9_isFile_4 at_327 f_8_0_1 rfl ?_
  refine pm_ki d_X9_isFile_7 ?_
  refine ps_iald (x := σ.1 328 2) d_X9_isFile_8 at_328 a_8_1 (ps_in_of rfl) rfl ?_
  refine ps_topI (fun v1 ev1 => ?_)
  replace hK := ps_ltE ev1 hK
  refine pm_ki d_X9_isFile_9 ?_
  refine pm_isub d_X9_isFile_10 ?_
  refine pm_i2l d_X9_isFile_11 ?_
  refine ps_cSI d_X9_isFile_12 ms_X9_within (As := [.long ((p1).toInt64), .long 0, .long (((v1 - 1)).toInt64)]) rfl rfl (ps_room.of (by omega) (by decide)) (Nat.le_of_ble_eq_true rfl) (C_X9_within (((p1).toInt64)) 0 ((((v1 - 1)).toInt64)) σ _ (ps_bdE hK)) ?_
  intro v2 σ3 hT
  clear hK
  have hK := hT
  clear hT
  obtain ⟨b4, hT⟩ := ps_gd hK
  have hQ := ps_so hT
  exact ps_zret rfl (ps_nb b4) d_X9_isFile_15 ⟨_, rfl, hQ⟩
def qX9_file (p1 : Int32) (p2 : Int32) (σ : ps_S) : Option (Int32 × ps_S) :=
  ps_let (ps_rI σ 327 (upd (σ.1 327) 0 0)) fun σ1 =>
  ps_bd (qX9_isFile p1 σ1) (fun v2 σ3 =>
  if v2 = 0 then
  some ((-2), σ3)
  else
  ps_bd (qX9_begins σ3) (fun _ σ6 =>
  if p2 = 0 then
  if ps_in ((17 + p1)) 5550 = true then
  ps_let (σ6.1 328 ((17 + p1)).toNatClampNeg) fun v8 =>
  some (v8, σ6)
  else none
  else
  if p2 = 1 then
  if ps_in ((1 + p1)) 83 = true then
  ps_let (σ6.1 335 ((1 + p1)).toNatClampNeg) fun v11 =>
  some (v11, σ6)
  else none
  else
  if p2 = 2 then
  if ps_in ((1 + p1)) 83 = true then
  ps_let (σ6.1 335 ((1 + p1)).toNatClampNeg) fun v14 =>
  if v14 = 0 then
  some ((-1), σ6)
  else
  ps_let (σ6.1 335 0) fun v16 =>
  if ps_in ((13 + p1)) 83 = true then
  ps_let (σ6.1 335 ((13 + p1)).toNatClampNeg) fun v17 =>
  some ((v16 - v17), σ6)
  else none
  else none
  else
  if p2 = 3 then
  ps_bd (qX9_isOld p1 σ6) (fun v21 σ22 =>
  if v21 = 0 then
  some (0, σ22)
  else
  some (1, σ22))
  else
  some ((-2), σ6)))
set_option maxRecDepth 100000 in
theorem C_X9_file {g : pm_G} (p1 : Int32) (p2 : Int32) (σ : ps_S) (P : Int32 → ps_S → Prop) (hK : ps_ok (qX9_file p1 p2 σ) P) : ps_C g mX9_file 3 [.ref (g.2.2.1 + 327), .int p1, .int p2] σ (ps_qI P) := by
  unfold qX9_file at hK
  refine ps_C.of (ls := [some (.ref (g.2.2.1 + 327)), some (.int p1), some (.int p2)]) 0 (by decide) rfl (Nat.le_of_ble_eq_true rfl) rfl ?_
  refine pm_ald d_X9_file_0 rfl ?_
  refine pm_ki d_X9_file_1 ?_
  refine ps_putI d_X9_file_2 at_327 f_8_0_0 rfl rfl ?_
  refine ps_nmS (fun σ1 eσ1 => ?_)
  replace hK := ps_ltE eσ1 hK
  refine pm_ald d_X9_file_5 rfl ?_
  refine pm_ild d_X9_file_6 rfl ?_
  refine ps_cVI d_X9_file_7 mv_X9_isFile at_327 ob_8_0 rfl (As := [.int p1]) rfl rfl (ps_room.of (by omega) (by decide)) (Nat.le_of_ble_eq_true rfl) (C_X9_isFile p1 σ1 _ (ps_bdE hK)) ?_
  intro v2 σ3 hT
  clear hK
  have hK := hT
  clear hT
  refine pm_if_ne d_X9_file_10 (fun c4 => ?_) (fun c4 => ?_)
  · replace hK := ps_ifF c4 hK
    refine pm_ald d_X9_file_16 rfl ?_
    refine ps_cVV d_X9_file_17 mv_X9_begins at_327 ob_8_0 rfl (As := []) rfl rfl (ps_room.of (by omega) (by decide)) (Nat.le_of_ble_eq_true rfl) (C_X9_begins σ3 _ (ps_bdE hK)) ?_
    intro σ6 hT
    clear hK
    have hK := hT
    clear hT
    refine pm_ild d_X9_file_20 rfl ?_
    by_cases c7 : p2 = 0
    · replace hK := ps_ifT c7 hK
      refine pm_tabIn (tgt := 52) (off := 31) d_X9_file_21 (by rw [c7]; decide) (by rw [c7]; decide) (by rw [c7]; rfl) (by decide) ?_
      refine pm_ald d_X9_file_52 rfl ?_
      refine ps_getR (q := 328) d_X9_file_53 at_327 f_8_0_1 rfl ?_
      refine pm_ki d_X9_file_56 ?_
      refine pm_ild d_X9_file_58 rfl ?_
      refine pm_iadd d_X9_file_59 ?_
      obtain ⟨b9, hT⟩ := ps_gd hK
      replace hK := hT
      clear hT
      refine ps_iald d_X9_file_60 at_328 a_8_1 (ps_in_of b9) rfl ?_
      refine ps_topI (fun v8 ev8 => ?_)
      replace hK := ps_ltE ev8 hK
      have hQ := ps_so hK
      exact ps_iret rfl d_X9_file_61 ⟨_, rfl, hQ⟩
    replace hK := ps_ifF c7 hK
    by_cases c10 : p2 = 1
    · replace hK := ps_ifT c10 hK
      refine pm_tabIn (tgt := 62) (off := 41) d_X9_file_21 (by rw [c10]; decide) (by rw [c10]; decide) (by rw [c10]; rfl) (by decide) ?_
      refine pm_ald d_X9_file_62 rfl ?_
      refine ps_getR (q := 335) d_X9_file_63 at_327 f_8_0_19 rfl ?_
      refine pm_ki d_X9_file_66 ?_
      refine pm_ild d_X9_file_67 rfl ?_
      refine pm_iadd d_X9_file_68 ?_
      obtain ⟨b12, hT⟩ := ps_gd hK
      replace hK := hT
      clear hT
      refine ps_iald d_X9_file_69 at_335 a_8_8 (ps_in_of b12) rfl ?_
      refine ps_topI (fun v11 ev11 => ?_)
      replace hK := ps_ltE ev11 hK
      have hQ := ps_so hK
      exact ps_iret rfl d_X9_file_70 ⟨_, rfl, hQ⟩
    replace hK := ps_ifF c10 hK
    by_cases c13 : p2 = 2
    · replace hK := ps_ifT c13 hK
      refine pm_tabIn (tgt := 71) (off := 50) d_X9_file_21 (by rw [c13]; decide) (by rw [c13]; decide) (by rw [c13]; rfl) (by decide) ?_
      refine pm_ald d_X9_file_71 rfl ?_
      refine ps_getR (q := 335) d_X9_file_72 at_327 f_8_0_19 rfl ?_
      refine pm_ki d_X9_file_75 ?_
      refine pm_ild d_X9_file_76 rfl ?_
      refine pm_iadd d_X9_file_77 ?_
      obtain ⟨b19, hT⟩ := ps_gd hK
      replace hK := hT
      clear hT
      refine ps_iald d_X9_file_78 at_335 a_8_8 (ps_in_of b19) rfl ?_
      refine ps_topI (fun v14 ev14 => ?_)
      replace hK := ps_ltE ev14 hK
      refine pm_if_ne d_X9_file_79 (fun c15 => ?_) (fun c15 => ?_)
      · replace hK := ps_ifF c15 hK
        refine pm_ald d_X9_file_86 rfl ?_
        refine ps_getR (q := 335) d_X9_file_87 at_327 f_8_0_19 rfl ?_
        refine pm_ki d_X9_file_90 ?_
        refine ps_iald (x := σ6.1 335 0) d_X9_file_91 at_335 a_8_8 (ps_in_of rfl) rfl ?_
        refine ps_topI (fun v16 ev16 => ?_)
        replace hK := ps_ltE ev16 hK
        refine pm_ald d_X9_file_92 rfl ?_
        refine ps_getR (q := 335) d_X9_file_93 at_327 f_8_0_19 rfl ?_
        refine pm_ki d_X9_file_96 ?_
        refine pm_ild d_X9_file_98 rfl ?_
        refine pm_iadd d_X9_file_99 ?_
        obtain ⟨b18, hT⟩ := ps_gd hK
        replace hK := hT
        clear hT
        refine ps_iald d_X9_file_100 at_335 a_8_8 (ps_in_of b18) rfl ?_
        refine ps_topI (fun v17 ev17 => ?_)
        replace hK := ps_ltE ev17 hK
        refine pm_isub d_X9_file_101 ?_
        have hQ := ps_so hK
        exact ps_iret rfl d_X9_file_102 ⟨_, rfl, hQ⟩
      · replace hK := ps_ifT c15 hK
        refine pm_ki d_X9_file_82 ?_
        refine pm_goto d_X9_file_83 ?_
        have hQ := ps_so hK
        exact ps_iret rfl d_X9_file_102 ⟨_, rfl, hQ⟩
    replace hK := ps_ifF c13 hK
    by_cases c20 : p2 = 3
    · replace hK := ps_ifT c20 hK
      refine pm_tabIn (tgt := 103) (off := 82) d_X9_file_21 (by rw [c20]; decide) (by rw [c20]; decide) (by rw [c20]; rfl) (by decide) ?_
      refine pm_ald d_X9_file_103 rfl ?_
      refine pm_ild d_X9_file_104 rfl ?_
      refine ps_cVI d_X9_file_105 mv_X9_isOld at_327 ob_8_0 rfl (As := [.int p1]) rfl rfl (ps_room.of (by omega) (by decide)) (Nat.le_of_ble_eq_true rfl) (C_X9_isOld p1 σ6 _ (ps_bdE hK)) ?_
      intro v21 σ22 hT
      clear hK
      have hK := hT
      clear hT
      refine pm_if_eq d_X9_file_108 (fun c23 => ?_) (fun c23 => ?_)
      · replace hK := ps_ifT c23 hK
        refine pm_ki d_X9_file_115 ?_
        have hQ := ps_so hK
        exact ps_iret rfl d_X9_file_116 ⟨_, rfl, hQ⟩
      · replace hK := ps_ifF c23 hK
        refine pm_ki d_X9_file_111 ?_
        refine pm_goto d_X9_file_112 ?_
        have hQ := ps_so hK
        exact ps_iret rfl d_X9_file_116 ⟨_, rfl, hQ⟩
    replace hK := ps_ifF c20 hK
    refine pm_tabOut (tgt := 117) d_X9_file_21 (by decide) (ps_swout (lo := 0) (n := 4) (by decide) (by decide) (fun k hk => match k, hk with | 0, _ => c7 | 1, _ => c10 | 2, _ => c13 | 3, _ => c20 | k + 4, hk => absurd hk (by omega))) ?_
    refine pm_ki d_X9_file_117 ?_
    have hQ := ps_so hK
    exact ps_iret rfl d_X9_file_119 ⟨_, rfl, hQ⟩
  · replace hK := ps_ifT c4 hK
    refine pm_ki d_X9_file_13 ?_
    have hQ := ps_so hK
    exact ps_iret rfl d_X9_file_15 ⟨_, rfl, hQ⟩
def qX9_held (p1 : Int32) (σ : ps_S) : Option (Int32 × ps_S) :=
  ps_let (ps_rI σ 327 (upd (σ.1 327) 0 0)) fun σ1 =>
  ps_bd (qX9_within (((p1).toInt64)) 1 999 σ1) (fun v2 σ3 =>
  if v2 = 0 then
  some ((-3), σ3)
  else
  ps_bd (qX9_begins σ3) (fun _ σ6 =>
  ps_bd (qX9_sumOf 77 6 σ6) (fun v7 σ8 =>
  ps_bd (qX9_ticksFor p1 σ8) (fun _ σ10 =>
  ps_bd (qX9_sumOf 77 6 σ10) (fun v11 σ12 =>
  some ((v11 - v7), σ12))))))
set_option maxRecDepth 100000 in
theorem C_X9_held {g : pm_G} (p1 : Int32) (σ : ps_S) (P : Int32 → ps_S → Prop) (hK : ps_ok (qX9_held p1 σ) P) : ps_C g mX9_held 7 [.ref (g.2.2.1 + 327), .int p1] σ (ps_qI P) := by
  unfold qX9_held at hK
  refine ps_C.of (ls := [some (.ref (g.2.2.1 + 327)), some (.int p1), none]) 1 (by decide) rfl (Nat.le_of_ble_eq_true rfl) rfl ?_
  refine pm_ald d_X9_held_0 rfl ?_
  refine pm_ki d_X9_held_1 ?_
  refine ps_putI d_X9_held_2 at_327 f_8_0_0 rfl rfl ?_
  refine ps_nmS (fun σ1 eσ1 => ?_)
  replace hK := ps_ltE eσ1 hK
  refine pm_ild d_X9_held_5 rfl ?_
  refine pm_i2l d_X9_held_6 ?_
  refine pm_kl d_X9_held_7 ?_
  refine pm_kl d_X9_held_8 ?_
  refine ps_cSI d_X9_held_11 ms_X9_within (As := [.long ((p1).toInt64), .long 1, .long 999]) rfl rfl (ps_room.of (by omega) (by decide)) (Nat.le_of_ble_eq_true rfl) (C_X9_within (((p1).toInt64)) 1 999 σ1 _ (ps_bdE hK)) ?_
  intro v2 σ3 hT
  clear hK
  have hK := hT
  clear hT
  refine pm_if_ne d_X9_held_14 (fun c4 => ?_) (fun c4 => ?_)
  · replace hK := ps_ifF c4 hK
    refine pm_ald d_X9_held_20 rfl ?_
    refine ps_cVV d_X9_held_21 mv_X9_begins at_327 ob_8_0 rfl (As := []) rfl rfl (ps_room.of (by omega) (by decide)) (Nat.le_of_ble_eq_true rfl) (C_X9_begins σ3 _ (ps_bdE hK)) ?_
    intro σ6 hT
    clear hK
    have hK := hT
    clear hT
    refine pm_ald d_X9_held_24 rfl ?_
    refine pm_ki d_X9_held_25 ?_
    refine pm_ki d_X9_held_27 ?_
    refine ps_cVI d_X9_held_29 mv_X9_sumOf at_327 ob_8_0 rfl (As := [.int 77, .int 6]) rfl rfl (ps_room.of (by omega) (by decide)) (Nat.le_of_ble_eq_true rfl) (C_X9_sumOf 77 6 σ6 _ (ps_bdE hK)) ?_
    intro v7 σ8 hT
    clear hK
    have hK := hT
    clear hT
    refine pm_ist2 d_X9_held_32 rfl (by decide) ?_
    refine pm_ald d_X9_held_33 rfl ?_
    refine pm_ild d_X9_held_34 rfl ?_
    refine ps_cVV d_X9_held_35 mv_X9_ticksFor at_327 ob_8_0 rfl (As := [.int p1]) rfl rfl (ps_room.of (by omega) (by decide)) (Nat.le_of_ble_eq_true rfl) (C_X9_ticksFor p1 σ8 _ (ps_bdE hK)) ?_
    intro σ10 hT
    clear hK
    have hK := hT
    clear hT
    refine pm_ald d_X9_held_38 rfl ?_
    refine pm_ki d_X9_held_39 ?_
    refine pm_ki d_X9_held_41 ?_
    refine ps_cVI d_X9_held_43 mv_X9_sumOf at_327 ob_8_0 rfl (As := [.int 77, .int 6]) rfl rfl (ps_room.of (by omega) (by decide)) (Nat.le_of_ble_eq_true rfl) (C_X9_sumOf 77 6 σ10 _ (ps_bdE hK)) ?_
    intro v11 σ12 hT
    clear hK
    have hK := hT
    clear hT
    refine pm_ild d_X9_held_46 rfl ?_
    refine pm_isub d_X9_held_47 ?_
    have hQ := ps_so hK
    exact ps_iret rfl d_X9_held_48 ⟨_, rfl, hQ⟩
  · replace hK := ps_ifT c4 hK
    refine pm_ki d_X9_held_17 ?_
    have hQ := ps_so hK
    exact ps_iret rfl d_X9_held_19 ⟨_, rfl, hQ⟩
def qX9_is (p1 : Int32) (σ : ps_S) : Option (Int32 × ps_S) :=
  ps_let (σ.1 327 12) fun v1 =>
  if v1 = 0 then
  ps_let (σ.1 327 10) fun v3 =>
  if v3 = p1 then
  some (1, σ)
  else
  some (0, σ)
  else
  some (0, σ)
set_option maxRecDepth 100000 in
theorem C_X9_is {g : pm_G} (p1 : Int32) (σ : ps_S) (P : Int32 → ps_S → Prop) (hK : ps_ok (qX9_is p1 σ) P) : ps_C g mX9_is 1 [.ref (g.2.2.1 + 327), .int p1] σ (ps_qI P) := by
  unfold qX9_is at hK
  refine ps_C.of (ls := [some (.ref (g.2.2.1 + 327)), some (.int p1)]) 0 (by decide) rfl (Nat.le_of_ble_eq_true rfl) rfl ?_
  refine pm_ald d_X9_is_0 rfl ?_
  refine ps_getI d_X9_is_1 at_327 f_8_0_12 rfl ?_
  refine ps_topI (fun v1 ev1 => ?_)
  replace hK := ps_ltE ev1 hK
  refine pm_if_ne d_X9_is_4 (fun c2 => ?_) (fun c2 => ?_)
  · replace hK := ps_ifF c2 hK
    refine pm_ki d_X9_is_19 ?_
    have hQ := ps_so hK
    exact ps_zret rfl rfl d_X9_is_20 ⟨_, rfl, hQ⟩
  · replace hK := ps_ifT c2 hK
    refine pm_ald d_X9_is_7 rfl ?_
    refine ps_getI d_X9_is_8 at_327 f_8_0_10 rfl ?_
    refine ps_topI (fun v3 ev3 => ?_)
    replace hK := ps_ltE ev3 hK
    refine pm_ild d_X9_is_11 rfl ?_
    refine pm_icmp_ne d_X9_is_12 (fun c4 => ?_) (fun c4 => ?_)
    · replace hK := ps_ifF c4 hK
      refine pm_ki d_X9_is_19 ?_
      have hQ := ps_so hK
      exact ps_zret rfl rfl d_X9_is_20 ⟨_, rfl, hQ⟩
    · replace hK := ps_ifT c4 hK
      refine pm_ki d_X9_is_15 ?_
      refine pm_goto d_X9_is_16 ?_
      have hQ := ps_so hK
      exact ps_zret rfl rfl d_X9_is_20 ⟨_, rfl, hQ⟩
def qX9_isDigit (p1 : Int32) (σ : ps_S) : Option (Int32 × ps_S) :=
  if p1 < 48 then
  some (0, σ)
  else
  if 57 < p1 then
  some (0, σ)
  else
  some (1, σ)
set_option maxRecDepth 100000 in
theorem C_X9_isDigit {g : pm_G} (p1 : Int32) (σ : ps_S) (P : Int32 → ps_S → Prop) (hK : ps_ok (qX9_isDigit p1 σ) P) : ps_C g mX9_isDigit 1 [.int p1] σ (ps_qI P) := by
  unfold qX9_isDigit at hK
  refine ps_C.of (ls := [some (.int p1)]) 0 (by decide) rfl (Nat.le_of_ble_eq_true rfl) rfl ?_
  refine pm_ild d_X9_isDigit_0 rfl ?_
  refine pm_ki d_X9_isDigit_1 ?_
  refine pm_icmp_lt d_X9_isDigit_3 (fun c1 => ?_) (fun c1 => ?_)
  · replace hK := ps_ifT c1 hK
    refine pm_ki d_X9_isDigit_16 ?_
    have hQ := ps_so hK
    exact ps_zret rfl rfl d_X9_isDigit_17 ⟨_, rfl, hQ⟩
  · replace hK := ps_ifF c1 hK
    refine pm_ild d_X9_isDigit_6 rfl ?_
    refine pm_ki d_X9_isDigit_7 ?_
    refine pm_icmp_gt d_X9_isDigit_9 (fun c2 => ?_) (fun c2 => ?_)
    · replace hK := ps_ifT c2 hK
      refine pm_ki d_X9_isDigit_16 ?_
      have hQ := ps_so hK
      exact ps_zret rfl rfl d_X9_isDigit_17 ⟨_, rfl, hQ⟩
    · replace hK := ps_ifF c2 hK
      refine pm_ki d_X9_isDigit_12 ?_
      refine pm_goto d_X9_isDigit_13 ?_
      have hQ := ps_so hK
      exact ps_zret rfl rfl d_X9_isDigit_17 ⟨_, rfl, hQ⟩
def qX9_isSmall (p1 : Int32) (σ : ps_S) : Option (Int32 × ps_S) :=
  if p1 < 97 then
  some (0, σ)
  else
  if 122 < p1 then
  some (0, σ)
  else
  some (1, σ)
set_option maxRecDepth 100000 in
theorem C_X9_isSmall {g : pm_G} (p1 : Int32) (σ : ps_S) (P : Int32 → ps_S → Prop) (hK : ps_ok (qX9_isSmall p1 σ) P) : ps_C g mX9_isSmall 1 [.int p1] σ (ps_qI P) := by
  unfold qX9_isSmall at hK
  refine ps_C.of (ls := [some (.int p1)]) 0 (by decide) rfl (Nat.le_of_ble_eq_true rfl) rfl ?_
  refine pm_ild d_X9_isSmall_0 rfl ?_
  refine pm_ki d_X9_isSmall_1 ?_
  refine pm_icmp_lt d_X9_isSmall_3 (fun c1 => ?_) (fun c1 => ?_)
  · replace hK := ps_ifT c1 hK
    refine pm_ki d_X9_isSmall_16 ?_
    have hQ := ps_so hK
    exact ps_zret rfl rfl d_X9_isSmall_17 ⟨_, rfl, hQ⟩
  · replace hK := ps_ifF c1 hK
    refine pm_ild d_X9_isSmall_6 rfl ?_
    refine pm_ki d_X9_isSmall_7 ?_
    refine pm_icmp_gt d_X9_isSmall_9 (fun c2 => ?_) (fun c2 => ?_)
    · replace hK := ps_ifT c2 hK
      refine pm_ki d_X9_isSmall_16 ?_
      have hQ := ps_so hK
      exact ps_zret rfl rfl d_X9_isSmall_17 ⟨_, rfl, hQ⟩
    · replace hK := ps_ifF c2 hK
      refine pm_ki d_X9_isSmall_12 ?_
      refine pm_goto d_X9_isSmall_13 ?_
      have hQ := ps_so hK
      exact ps_zret rfl rfl d_X9_isSmall_17 ⟨_, rfl, hQ⟩
def qX9_keyAt_15  (y1 : Int32) (y2 : Int32) : Nat → Int32 → ps_S → Option (((Int32)) × ps_S)
  | 0, _, _ => none
  | n + 1, x3, σ =>
    ps_bd (qJ0_charAt_5068e 25 ((y2 + x3)) σ) (fun v4 σ5 =>
    if v4 = 32 then
    some (x3, σ5)
    else
    ps_let (σ5.1 327 7) fun v7 =>
    ps_let (σ5.1 327 8) fun v8 =>
    if v8 ≤ ((v7 + x3)) then
    some (x3, σ5)
    else
    ps_let (σ5.1 327 7) fun v10 =>
    if ps_in ((v10 + x3)) 900 = true then
    ps_let (σ5.1 331 ((v10 + x3)).toNatClampNeg) fun v11 =>
    ps_bd (qJ0_charAt_5068e 25 ((y2 + x3)) σ5) (fun v12 σ13 =>
    if v11 = v12 then
    ps_let (x3 + 1) fun v15 =>
    qX9_keyAt_15 y1 y2 n v15 σ13
    else
    some (x3, σ13))
    else none)
set_option maxRecDepth 100000 in
theorem L_X9_keyAt_15 {g : pm_G} (D : Nat) (hD : 5 ≤ D) {P : Int32 → ps_S → Prop}  (y1 : Int32) (y2 : Int32) : ∀ (n : Nat) (x3 : Int32) (σ : ps_S), ps_ok (qX9_keyAt_15 y1 y2 n x3 σ) (fun res σ => match res with | x3 => pm_W g mX9_keyAt (ps_F g D (ps_qI P)) 0 0 69 [some (.ref (g.2.2.1 + 327)), some (.int y1), some (.int y2), some (.int x3)] [] 345 (ps_E g σ)) → pm_W g mX9_keyAt (ps_F g D (ps_qI P)) 0 0 15 [some (.ref (g.2.2.1 + 327)), some (.int y1), some (.int y2), some (.int x3)] [] 345 (ps_E g σ) := by
  intro n
  induction n with
  | zero => intro x3 σ hK; exact (ps_no hK).elim
  | succ n ih =>
    intro x3 σ hK
    rw [qX9_keyAt_15] at hK
    refine pm_ks d_X9_keyAt_15 ?_
    refine pm_ild d_X9_keyAt_17 rfl ?_
    refine pm_ild d_X9_keyAt_18 rfl ?_
    refine pm_iadd d_X9_keyAt_19 ?_
    refine ps_cTI (by decide) d_X9_keyAt_20 mv_J0_charAt_5068e rfl (As := [.int (y2 + x3)]) rfl rfl (ps_room.of (by omega) (by decide)) (Nat.le_of_ble_eq_true rfl) (C_J0_charAt_5068e 25 (by decide) ((y2 + x3)) σ _ (ps_bdE hK)) ?_
    intro v4 σ5 hT
    clear hK
    have hK := hT
    clear hT
    refine pm_ki d_X9_keyAt_23 ?_
    refine pm_icmp_eq d_X9_keyAt_25 (fun c6 => ?_) (fun c6 => ?_)
    · replace hK := ps_ifT c6 hK
      exact ps_so hK
    · replace hK := ps_ifF c6 hK
      refine pm_ald d_X9_keyAt_28 rfl ?_
      refine ps_getI d_X9_keyAt_29 at_327 f_8_0_7 rfl ?_
      refine ps_topI (fun v7 ev7 => ?_)
      replace hK := ps_ltE ev7 hK
      refine pm_ild d_X9_keyAt_32 rfl ?_
      refine pm_iadd d_X9_keyAt_33 ?_
      refine pm_ald d_X9_keyAt_34 rfl ?_
      refine ps_getI d_X9_keyAt_35 at_327 f_8_0_8 rfl ?_
      refine ps_topI (fun v8 ev8 => ?_)
      replace hK := ps_ltE ev8 hK
      refine pm_icmp_ge d_X9_keyAt_38 (fun c9 => ?_) (fun c9 => ?_)
      · replace hK := ps_ifT c9 hK
        exact ps_so hK
      · replace hK := ps_ifF c9 hK
        refine pm_ald d_X9_keyAt_41 rfl ?_
        refine ps_getR (q := 331) d_X9_keyAt_42 at_327 f_8_0_4 rfl ?_
        refine pm_ald d_X9_keyAt_45 rfl ?_
        refine ps_getI d_X9_keyAt_46 at_327 f_8_0_7 rfl ?_
        refine ps_topI (fun v10 ev10 => ?_)
        replace hK := ps_ltE ev10 hK
        refine pm_ild d_X9_keyAt_49 rfl ?_
        refine pm_iadd d_X9_keyAt_50 ?_
        obtain ⟨b16, hT⟩ := ps_gd hK
        replace hK := hT
        clear hT
        refine ps_iald d_X9_keyAt_51 at_331 a_8_4 (ps_in_of b16) rfl ?_
        refine ps_topI (fun v11 ev11 => ?_)
        replace hK := ps_ltE ev11 hK
        refine pm_ks d_X9_keyAt_52 ?_
        refine pm_ild d_X9_keyAt_54 rfl ?_
        refine pm_ild d_X9_keyAt_55 rfl ?_
        refine pm_iadd d_X9_keyAt_56 ?_
        refine ps_cTI (by decide) d_X9_keyAt_57 mv_J0_charAt_5068e rfl (As := [.int (y2 + x3)]) rfl rfl (ps_room.of (by omega) (by decide)) (Nat.le_of_ble_eq_true rfl) (C_J0_charAt_5068e 25 (by decide) ((y2 + x3)) σ5 _ (ps_bdE hK)) ?_
        intro v12 σ13 hT
        clear hK
        have hK := hT
        clear hT
        refine pm_icmp_ne d_X9_keyAt_60 (fun c14 => ?_) (fun c14 => ?_)
        · replace hK := ps_ifF c14 hK
          exact ps_so hK
        · replace hK := ps_ifT c14 hK
          refine pm_inc3 d_X9_keyAt_63 rfl ?_
          obtain ⟨v15, ev15⟩ : ∃ y : Int32, y = x3 + 1 := ⟨_, rfl⟩
          rw [← ev15]
          replace hK := ps_ltE ev15 hK
          refine pm_goto d_X9_keyAt_66 ?_
          exact ih _ _ hK
def qX9_keyAt_97  (y1 : Int32) (y3 : Int32) : Nat → Int32 → ps_S → Option (((Int32)) × ps_S)
  | 0, _, _ => none
  | n + 1, x2, σ =>
    ps_bd (qJ0_charAt_5068e 25 x2 σ) (fun v22 σ23 =>
    if v22 = 32 then
    some (x2, σ23)
    else
    ps_let (x2 + 1) fun v25 =>
    qX9_keyAt_97 y1 y3 n v25 σ23)
set_option maxRecDepth 100000 in
theorem L_X9_keyAt_97 {g : pm_G} (D : Nat) (hD : 5 ≤ D) {P : Int32 → ps_S → Prop}  (y1 : Int32) (y3 : Int32) : ∀ (n : Nat) (x2 : Int32) (σ : ps_S), ps_ok (qX9_keyAt_97 y1 y3 n x2 σ) (fun res σ => match res with | x2 => pm_W g mX9_keyAt (ps_F g D (ps_qI P)) 0 0 114 [some (.ref (g.2.2.1 + 327)), some (.int y1), some (.int x2), some (.int y3)] [] 345 (ps_E g σ)) → pm_W g mX9_keyAt (ps_F g D (ps_qI P)) 0 0 97 [some (.ref (g.2.2.1 + 327)), some (.int y1), some (.int x2), some (.int y3)] [] 345 (ps_E g σ) := by
  intro n
  induction n with
  | zero => intro x2 σ hK; exact (ps_no hK).elim
  | succ n ih =>
    intro x2 σ hK
    rw [qX9_keyAt_97] at hK
    refine pm_ks d_X9_keyAt_97 ?_
    refine pm_ild d_X9_keyAt_99 rfl ?_
    refine ps_cTI (by decide) d_X9_keyAt_100 mv_J0_charAt_5068e rfl (As := [.int x2]) rfl rfl (ps_room.of (by omega) (by decide)) (Nat.le_of_ble_eq_true rfl) (C_J0_charAt_5068e 25 (by decide) x2 σ _ (ps_bdE hK)) ?_
    intro v22 σ23 hT
    clear hK
    have hK := hT
    clear hT
    refine pm_ki d_X9_keyAt_103 ?_
    refine pm_icmp_eq d_X9_keyAt_105 (fun c24 => ?_) (fun c24 => ?_)
    · replace hK := ps_ifT c24 hK
      exact ps_so hK
    · replace hK := ps_ifF c24 hK
      refine pm_inc2 d_X9_keyAt_108 rfl ?_
      obtain ⟨v25, ev25⟩ : ∃ y : Int32, y = x2 + 1 := ⟨_, rfl⟩
      rw [← ev25]
      replace hK := ps_ltE ev25 hK
      refine pm_goto d_X9_keyAt_111 ?_
      exact ih _ _ hK
def qX9_keyAt_4  : Nat → Int32 → Int32 → ps_S → Option ((Int32 ⊕ (Int32 × Int32)) × ps_S)
  | 0, _, _, _ => none
  | n + 1, x1, x2, σ =>
    ps_bd (qJ0_length_8abf5 25 σ) (fun v1 σ2 =>
    if v1 ≤ x2 then
    some (.inr ((x1, x2)), σ2)
    else
    ps_bd (qX9_keyAt_15 x1 x2 ps_N 0 σ2) (fun res σ17 => match res with
    | v18 =>
      ps_bd (qJ0_charAt_5068e 25 ((x2 + v18)) σ17) (fun v19 σ20 =>
      if v19 = 32 then
      ps_let (σ20.1 327 7) fun v30 =>
      ps_let (σ20.1 327 8) fun v31 =>
      if ((v30 + v18)) = v31 then
      some (.inl x1, σ20)
      else
      ps_bd (qX9_keyAt_97 x1 v18 ps_N x2 σ20) (fun res σ33 => match res with
      | v34 =>
        ps_let (v34 + 1) fun v35 =>
        ps_let (x1 + 1) fun v36 =>
        qX9_keyAt_4 n v36 v35 σ33)
      else
      ps_bd (qX9_keyAt_97 x1 v18 ps_N x2 σ20) (fun res σ26 => match res with
      | v27 =>
        ps_let (v27 + 1) fun v28 =>
        ps_let (x1 + 1) fun v29 =>
        qX9_keyAt_4 n v29 v28 σ26))))
set_option maxRecDepth 100000 in
theorem L_X9_keyAt_4 {g : pm_G} (D : Nat) (hD : 5 ≤ D) {P : Int32 → ps_S → Prop}  : ∀ (n : Nat) (x1 : Int32) (x2 : Int32) (σ : ps_S), ps_ok (qX9_keyAt_4 n x1 x2 σ) (fun res σ => match res with | .inl r => P r σ | .inr (x1, x2) => pm_W g mX9_keyAt (ps_F g D (ps_qI P)) 0 0 123 [some (.ref (g.2.2.1 + 327)), some (.int x1), some (.int x2), none] [] 345 (ps_E g σ)) → pm_W g mX9_keyAt (ps_F g D (ps_qI P)) 0 0 4 [some (.ref (g.2.2.1 + 327)), some (.int x1), some (.int x2), none] [] 345 (ps_E g σ) := by
  intro n
  induction n with
  | zero => intro x1 x2 σ hK; exact (ps_no hK).elim
  | succ n ih =>
    intro x1 x2 σ hK
    rw [qX9_keyAt_4] at hK
    refine pm_ild d_X9_keyAt_4 rfl ?_
    refine pm_ks d_X9_keyAt_5 ?_
    refine ps_cTI (by decide) d_X9_keyAt_7 mv_J0_length_8abf5 rfl (As := []) rfl rfl (ps_room.of (by omega) (by decide)) (Nat.le_of_ble_eq_true rfl) (C_J0_length_8abf5 25 (by decide) σ _ (ps_bdE hK)) ?_
    intro v1 σ2 hT
    clear hK
    have hK := hT
    clear hT
    refine pm_icmp_ge d_X9_keyAt_10 (fun c3 => ?_) (fun c3 => ?_)
    · replace hK := ps_ifT c3 hK
      exact ps_so hK
    · replace hK := ps_ifF c3 hK
      refine pm_ki d_X9_keyAt_13 ?_
      refine pm_ist3 d_X9_keyAt_14 rfl (by decide) ?_
      refine L_X9_keyAt_15 D hD x1 x2 _ _ _ (ps_ok.mono (ps_bdE hK) ?_)
      rintro v18 σ17 hT
      clear hK
      have hK := hT
      clear hT
      refine pm_ks d_X9_keyAt_69 ?_
      refine pm_ild d_X9_keyAt_71 rfl ?_
      refine pm_ild d_X9_keyAt_72 rfl ?_
      refine pm_iadd d_X9_keyAt_73 ?_
      refine ps_cTI (by decide) d_X9_keyAt_74 mv_J0_charAt_5068e rfl (As := [.int (x2 + v18)]) rfl rfl (ps_room.of (by omega) (by decide)) (Nat.le_of_ble_eq_true rfl) (C_J0_charAt_5068e 25 (by decide) ((x2 + v18)) σ17 _ (ps_bdE hK)) ?_
      intro v19 σ20 hT
      clear hK
      have hK := hT
      clear hT
      refine pm_ki d_X9_keyAt_77 ?_
      refine pm_icmp_ne d_X9_keyAt_79 (fun c21 => ?_) (fun c21 => ?_)
      · replace hK := ps_ifF c21 hK
        refine L_X9_keyAt_97 D hD x1 v18 _ _ _ (ps_ok.mono (ps_bdE hK) ?_)
        rintro v27 σ26 hT
        clear hK
        have hK := hT
        clear hT
        refine pm_inc2 d_X9_keyAt_114 rfl ?_
        obtain ⟨v28, ev28⟩ : ∃ y : Int32, y = v27 + 1 := ⟨_, rfl⟩
        rw [← ev28]
        replace hK := ps_ltE ev28 hK
        refine pm_inc1 d_X9_keyAt_117 rfl ?_
        obtain ⟨v29, ev29⟩ : ∃ y : Int32, y = x1 + 1 := ⟨_, rfl⟩
        rw [← ev29]
        replace hK := ps_ltE ev29 hK
        refine pm_goto d_X9_keyAt_120 ?_
        refine pm_wk (ls' := [some (.ref (g.2.2.1 + 327)), some (.int v29), some (.int v28), none]) ⟨rfl, ⟨rfl, ⟨rfl, trivial⟩⟩⟩ ?_
        exact ih _ _ _ hK
      · replace hK := ps_ifT c21 hK
        refine pm_ald d_X9_keyAt_82 rfl ?_
        refine ps_getI d_X9_keyAt_83 at_327 f_8_0_7 rfl ?_
        refine ps_topI (fun v30 ev30 => ?_)
        replace hK := ps_ltE ev30 hK
        refine pm_ild d_X9_keyAt_86 rfl ?_
        refine pm_iadd d_X9_keyAt_87 ?_
        refine pm_ald d_X9_keyAt_88 rfl ?_
        refine ps_getI d_X9_keyAt_89 at_327 f_8_0_8 rfl ?_
        refine ps_topI (fun v31 ev31 => ?_)
        replace hK := ps_ltE ev31 hK
        refine pm_icmp_ne d_X9_keyAt_92 (fun c32 => ?_) (fun c32 => ?_)
        · replace hK := ps_ifF c32 hK
          refine L_X9_keyAt_97 D hD x1 v18 _ _ _ (ps_ok.mono (ps_bdE hK) ?_)
          rintro v34 σ33 hT
          clear hK
          have hK := hT
          clear hT
          refine pm_inc2 d_X9_keyAt_114 rfl ?_
          obtain ⟨v35, ev35⟩ : ∃ y : Int32, y = v34 + 1 := ⟨_, rfl⟩
          rw [← ev35]
          replace hK := ps_ltE ev35 hK
          refine pm_inc1 d_X9_keyAt_117 rfl ?_
          obtain ⟨v36, ev36⟩ : ∃ y : Int32, y = x1 + 1 := ⟨_, rfl⟩
          rw [← ev36]
          replace hK := ps_ltE ev36 hK
          refine pm_goto d_X9_keyAt_120 ?_
          refine pm_wk (ls' := [some (.ref (g.2.2.1 + 327)), some (.int v36), some (.int v35), none]) ⟨rfl, ⟨rfl, ⟨rfl, trivial⟩⟩⟩ ?_
          exact ih _ _ _ hK
        · replace hK := ps_ifT c32 hK
          refine pm_ild d_X9_keyAt_95 rfl ?_
          have hQ := ps_so hK
          exact ps_iret rfl d_X9_keyAt_96 ⟨_, rfl, hQ⟩
def qX9_keyAt  (σ : ps_S) : Option (Int32 × ps_S) :=
  ps_bd (qX9_keyAt_4 ps_N 0 1 σ) (fun res σ37 => match res with
  | .inl r => some (r, σ37)
  | .inr (v38, v39) =>
    some (24, σ37))
set_option maxRecDepth 100000 in
theorem C_X9_keyAt {g : pm_G}  (σ : ps_S) (P : Int32 → ps_S → Prop) (hK : ps_ok (qX9_keyAt  σ) P) : ps_C g mX9_keyAt 5 [.ref (g.2.2.1 + 327)] σ (ps_qI P) := by
  unfold qX9_keyAt at hK
  refine ps_C.of (ls := [some (.ref (g.2.2.1 + 327)), none, none, none]) 3 (by decide) rfl (Nat.le_of_ble_eq_true rfl) rfl ?_
  refine pm_ki d_X9_keyAt_0 ?_
  refine pm_ist1 d_X9_keyAt_1 rfl (by decide) ?_
  refine pm_ki d_X9_keyAt_2 ?_
  refine pm_ist2 d_X9_keyAt_3 rfl (by decide) ?_
  refine L_X9_keyAt_4 _ (by decide) _ _ _ _ (ps_ok.mono (ps_bdE hK) ?_)
  intro res σ37 hT
  clear hK
  match res, hT with
  | .inl r, hT => exact ps_so hT
  | .inr (v38, v39), hT =>
    have hK := hT
    clear hT
    refine pm_ki d_X9_keyAt_123 ?_
    have hQ := ps_so hK
    exact ps_iret rfl d_X9_keyAt_125 ⟨_, rfl, hQ⟩
def qX9_see (p1 : Int32) (σ : ps_S) : Option (Int32 × ps_S) :=
  ps_let (σ.1 327 9) fun v1 =>
  if v1 ≤ p1 then
  some ((-1), σ)
  else
  if ps_in p1 900 = true then
  ps_let (σ.1 331 (p1).toNatClampNeg) fun v3 =>
  some (v3, σ)
  else none
set_option maxRecDepth 100000 in
theorem C_X9_see {g : pm_G} (p1 : Int32) (σ : ps_S) (P : Int32 → ps_S → Prop) (hK : ps_ok (qX9_see p1 σ) P) : ps_C g mX9_see 1 [.ref (g.2.2.1 + 327), .int p1] σ (ps_qI P) := by
  unfold qX9_see at hK
  refine ps_C.of (ls := [some (.ref (g.2.2.1 + 327)), some (.int p1)]) 0 (by decide) rfl (Nat.le_of_ble_eq_true rfl) rfl ?_
  refine pm_ild d_X9_see_0 rfl ?_
  refine pm_ald d_X9_see_1 rfl ?_
  refine ps_getI d_X9_see_2 at_327 f_8_0_9 rfl ?_
  refine ps_topI (fun v1 ev1 => ?_)
  replace hK := ps_ltE ev1 hK
  refine pm_icmp_ge d_X9_see_5 (fun c2 => ?_) (fun c2 => ?_)
  · replace hK := ps_ifT c2 hK
    refine pm_ki d_X9_see_17 ?_
    have hQ := ps_so hK
    exact ps_iret rfl d_X9_see_18 ⟨_, rfl, hQ⟩
  · replace hK := ps_ifF c2 hK
    refine pm_ald d_X9_see_8 rfl ?_
    refine ps_getR (q := 331) d_X9_see_9 at_327 f_8_0_4 rfl ?_
    refine pm_ild d_X9_see_12 rfl ?_
    obtain ⟨b4, hT⟩ := ps_gd hK
    replace hK := hT
    clear hT
    refine ps_iald d_X9_see_13 at_331 a_8_4 (ps_in_of b4) rfl ?_
    refine ps_topI (fun v3 ev3 => ?_)
    replace hK := ps_ltE ev3 hK
    refine pm_goto d_X9_see_14 ?_
    have hQ := ps_so hK
    exact ps_iret rfl d_X9_see_18 ⟨_, rfl, hQ⟩
def qX9_steps_8  : Nat → ps_S → Option (((Unit)) × ps_S)
  | 0, _ => none
  | n + 1, σ =>
    ps_let (σ.1 327 7) fun v3 =>
    ps_bd (qX9_see v3 σ) (fun v4 σ5 =>
    if v4 = 10 then
    ps_let (σ5.1 327 7) fun v7 =>
    ps_let (ps_rI σ5 327 (upd (σ5.1 327) 7 ((v7 + 1)))) fun σ8 =>
    qX9_steps_8 n σ8
    else
    ps_let (σ5.1 327 7) fun v9 =>
    ps_bd (qX9_see v9 σ5) (fun v10 σ11 =>
    if v10 = 32 then
    ps_let (σ11.1 327 7) fun v13 =>
    ps_let (ps_rI σ11 327 (upd (σ11.1 327) 7 ((v13 + 1)))) fun σ14 =>
    qX9_steps_8 n σ14
    else
    some ((), σ11)))
set_option maxRecDepth 100000 in
theorem L_X9_steps_8 {g : pm_G} (D : Nat) (hD : 6 ≤ D) {P : Unit → ps_S → Prop}  : ∀ (n : Nat) (σ : ps_S), ps_ok (qX9_steps_8 n σ) (fun res σ => match res with | _ => pm_W g mX9_steps (ps_F g D (ps_qV P)) 0 0 47 [some (.ref (g.2.2.1 + 327)), none] [] 345 (ps_E g σ)) → pm_W g mX9_steps (ps_F g D (ps_qV P)) 0 0 8 [some (.ref (g.2.2.1 + 327)), none] [] 345 (ps_E g σ) := by
  intro n
  induction n with
  | zero => intro σ hK; exact (ps_no hK).elim
  | succ n ih =>
    intro σ hK
    rw [qX9_steps_8] at hK
    refine pm_ald d_X9_steps_8 rfl ?_
    refine pm_ald d_X9_steps_9 rfl ?_
    refine ps_getI d_X9_steps_10 at_327 f_8_0_7 rfl ?_
    refine ps_topI (fun v3 ev3 => ?_)
    replace hK := ps_ltE ev3 hK
    refine ps_cVI d_X9_steps_13 mv_X9_see at_327 ob_8_0 rfl (As := [.int v3]) rfl rfl (ps_room.of (by omega) (by decide)) (Nat.le_of_ble_eq_true rfl) (C_X9_see v3 σ _ (ps_bdE hK)) ?_
    intro v4 σ5 hT
    clear hK
    have hK := hT
    clear hT
    refine pm_ki d_X9_steps_16 ?_
    refine pm_icmp_eq d_X9_steps_18 (fun c6 => ?_) (fun c6 => ?_)
    · replace hK := ps_ifT c6 hK
      refine pm_ald d_X9_steps_34 rfl ?_
      refine pm_dup d_X9_steps_35 rfl ?_
      refine ps_getI d_X9_steps_36 at_327 f_8_0_7 rfl ?_
      refine ps_topI (fun v7 ev7 => ?_)
      replace hK := ps_ltE ev7 hK
      refine pm_ki d_X9_steps_39 ?_
      refine pm_iadd d_X9_steps_40 ?_
      refine ps_putI d_X9_steps_41 at_327 f_8_0_7 rfl rfl ?_
      refine ps_nmS (fun σ8 eσ8 => ?_)
      replace hK := ps_ltE eσ8 hK
      refine pm_goto d_X9_steps_44 ?_
      exact ih _ hK
    · replace hK := ps_ifF c6 hK
      refine pm_ald d_X9_steps_21 rfl ?_
      refine pm_ald d_X9_steps_22 rfl ?_
      refine ps_getI d_X9_steps_23 at_327 f_8_0_7 rfl ?_
      refine ps_topI (fun v9 ev9 => ?_)
      replace hK := ps_ltE ev9 hK
      refine ps_cVI d_X9_steps_26 mv_X9_see at_327 ob_8_0 rfl (As := [.int v9]) rfl rfl (ps_room.of (by omega) (by decide)) (Nat.le_of_ble_eq_true rfl) (C_X9_see v9 σ5 _ (ps_bdE hK)) ?_
      intro v10 σ11 hT
      clear hK
      have hK := hT
      clear hT
      refine pm_ki d_X9_steps_29 ?_
      refine pm_icmp_ne d_X9_steps_31 (fun c12 => ?_) (fun c12 => ?_)
      · replace hK := ps_ifF c12 hK
        exact ps_so hK
      · replace hK := ps_ifT c12 hK
        refine pm_ald d_X9_steps_34 rfl ?_
        refine pm_dup d_X9_steps_35 rfl ?_
        refine ps_getI d_X9_steps_36 at_327 f_8_0_7 rfl ?_
        refine ps_topI (fun v13 ev13 => ?_)
        replace hK := ps_ltE ev13 hK
        refine pm_ki d_X9_steps_39 ?_
        refine pm_iadd d_X9_steps_40 ?_
        refine ps_putI d_X9_steps_41 at_327 f_8_0_7 rfl rfl ?_
        refine ps_nmS (fun σ14 eσ14 => ?_)
        replace hK := ps_ltE eσ14 hK
        refine pm_goto d_X9_steps_44 ?_
        exact ih _ hK
def qX9_steps_254  : Nat → Int32 → ps_S → Option (((Int32)) × ps_S)
  | 0, _, _ => none
  | n + 1, x1, σ =>
    ps_bd (qJ0_length_8abf5 0 σ) (fun v36 σ37 =>
    if v36 ≤ x1 then
    some (x1, σ37)
    else
    ps_let (σ37.1 327 7) fun v39 =>
    ps_bd (qX9_see v39 σ37) (fun v40 σ41 =>
    ps_bd (qJ0_charAt_5068e 0 x1 σ41) (fun v42 σ43 =>
    if v40 = v42 then
    ps_let (ps_rI σ43 327 (upd (σ43.1 327) 10 ((30 + x1)))) fun σ46 =>
    ps_let (x1 + 1) fun v47 =>
    qX9_steps_254 n v47 σ46
    else
    ps_let (x1 + 1) fun v45 =>
    qX9_steps_254 n v45 σ43)))
set_option maxRecDepth 100000 in
theorem L_X9_steps_254 {g : pm_G} (D : Nat) (hD : 6 ≤ D) {P : Unit → ps_S → Prop}  : ∀ (n : Nat) (x1 : Int32) (σ : ps_S), ps_ok (qX9_steps_254 n x1 σ) (fun res σ => match res with | x1 => pm_W g mX9_steps (ps_F g D (ps_qV P)) 0 0 294 [some (.ref (g.2.2.1 + 327)), some (.int x1)] [] 345 (ps_E g σ)) → pm_W g mX9_steps (ps_F g D (ps_qV P)) 0 0 254 [some (.ref (g.2.2.1 + 327)), some (.int x1)] [] 345 (ps_E g σ) := by
  intro n
  induction n with
  | zero => intro x1 σ hK; exact (ps_no hK).elim
  | succ n ih =>
    intro x1 σ hK
    rw [qX9_steps_254] at hK
    refine pm_ild d_X9_steps_254 rfl ?_
    refine pm_ks d_X9_steps_255 ?_
    refine ps_cTI (by decide) d_X9_steps_257 mv_J0_length_8abf5 rfl (As := []) rfl rfl (ps_room.of (by omega) (by decide)) (Nat.le_of_ble_eq_true rfl) (C_J0_length_8abf5 0 (by decide) σ _ (ps_bdE hK)) ?_
    intro v36 σ37 hT
    clear hK
    have hK := hT
    clear hT
    refine pm_icmp_ge d_X9_steps_260 (fun c38 => ?_) (fun c38 => ?_)
    · replace hK := ps_ifT c38 hK
      exact ps_so hK
    · replace hK := ps_ifF c38 hK
      refine pm_ald d_X9_steps_263 rfl ?_
      refine pm_ald d_X9_steps_264 rfl ?_
      refine ps_getI d_X9_steps_265 at_327 f_8_0_7 rfl ?_
      refine ps_topI (fun v39 ev39 => ?_)
      replace hK := ps_ltE ev39 hK
      refine ps_cVI d_X9_steps_268 mv_X9_see at_327 ob_8_0 rfl (As := [.int v39]) rfl rfl (ps_room.of (by omega) (by decide)) (Nat.le_of_ble_eq_true rfl) (C_X9_see v39 σ37 _ (ps_bdE hK)) ?_
      intro v40 σ41 hT
      clear hK
      have hK := hT
      clear hT
      refine pm_ks d_X9_steps_271 ?_
      refine pm_ild d_X9_steps_273 rfl ?_
      refine ps_cTI (by decide) d_X9_steps_274 mv_J0_charAt_5068e rfl (As := [.int x1]) rfl rfl (ps_room.of (by omega) (by decide)) (Nat.le_of_ble_eq_true rfl) (C_J0_charAt_5068e 0 (by decide) x1 σ41 _ (ps_bdE hK)) ?_
      intro v42 σ43 hT
      clear hK
      have hK := hT
      clear hT
      refine pm_icmp_ne d_X9_steps_277 (fun c44 => ?_) (fun c44 => ?_)
      · replace hK := ps_ifF c44 hK
        refine pm_inc1 d_X9_steps_288 rfl ?_
        obtain ⟨v45, ev45⟩ : ∃ y : Int32, y = x1 + 1 := ⟨_, rfl⟩
        rw [← ev45]
        replace hK := ps_ltE ev45 hK
        refine pm_goto d_X9_steps_291 ?_
        exact ih _ _ hK
      · replace hK := ps_ifT c44 hK
        refine pm_ald d_X9_steps_280 rfl ?_
        refine pm_ki d_X9_steps_281 ?_
        refine pm_ild d_X9_steps_283 rfl ?_
        refine pm_iadd d_X9_steps_284 ?_
        refine ps_putI d_X9_steps_285 at_327 f_8_0_10 rfl rfl ?_
        refine ps_nmS (fun σ46 eσ46 => ?_)
        replace hK := ps_ltE eσ46 hK
        refine pm_inc1 d_X9_steps_288 rfl ?_
        obtain ⟨v47, ev47⟩ : ∃ y : Int32, y = x1 + 1 := ⟨_, rfl⟩
        rw [← ev47]
        replace hK := ps_ltE ev47 hK
        refine pm_goto d_X9_steps_291 ?_
        exact ih _ _ hK
def qX9_steps_146  : Nat → ps_S → Option (((Unit)) × ps_S)
  | 0, _ => none
  | n + 1, σ =>
    ps_let (σ.1 327 8) fun v51 =>
    ps_bd (qX9_see v51 σ) (fun v52 σ53 =>
    ps_bd (qX9_isDigit v52 σ53) (fun v54 σ55 =>
    if v54 = 0 then
    some ((), σ55)
    else
    ps_let (σ55.1 327 8) fun v57 =>
    ps_let (σ55.1 327 7) fun v58 =>
    if 3 ≤ ((v57 - v58)) then
    ps_let (σ55.1 327 8) fun v60 =>
    ps_let (ps_rI σ55 327 (upd (σ55.1 327) 8 ((v60 + 1)))) fun σ61 =>
    qX9_steps_146 n σ61
    else
    ps_let (σ55.1 327 11) fun v62 =>
    ps_let (σ55.1 327 8) fun v63 =>
    ps_bd (qX9_see v63 σ55) (fun v64 σ65 =>
    ps_let (ps_rI σ65 327 (upd (σ65.1 327) 11 ((((((10 * v62)) + v64)) - 48)))) fun σ66 =>
    ps_let (σ66.1 327 8) fun v67 =>
    ps_let (ps_rI σ66 327 (upd (σ66.1 327) 8 ((v67 + 1)))) fun σ68 =>
    qX9_steps_146 n σ68)))
set_option maxRecDepth 100000 in
theorem L_X9_steps_146 {g : pm_G} (D : Nat) (hD : 6 ≤ D) {P : Unit → ps_S → Prop}  : ∀ (n : Nat) (σ : ps_S), ps_ok (qX9_steps_146 n σ) (fun res σ => match res with | _ => pm_W g mX9_steps (ps_F g D (ps_qV P)) 0 0 209 [some (.ref (g.2.2.1 + 327)), none] [] 345 (ps_E g σ)) → pm_W g mX9_steps (ps_F g D (ps_qV P)) 0 0 146 [some (.ref (g.2.2.1 + 327)), none] [] 345 (ps_E g σ) := by
  intro n
  induction n with
  | zero => intro σ hK; exact (ps_no hK).elim
  | succ n ih =>
    intro σ hK
    rw [qX9_steps_146] at hK
    refine pm_ald d_X9_steps_146 rfl ?_
    refine pm_ald d_X9_steps_147 rfl ?_
    refine ps_getI d_X9_steps_148 at_327 f_8_0_8 rfl ?_
    refine ps_topI (fun v51 ev51 => ?_)
    replace hK := ps_ltE ev51 hK
    refine ps_cVI d_X9_steps_151 mv_X9_see at_327 ob_8_0 rfl (As := [.int v51]) rfl rfl (ps_room.of (by omega) (by decide)) (Nat.le_of_ble_eq_true rfl) (C_X9_see v51 σ _ (ps_bdE hK)) ?_
    intro v52 σ53 hT
    clear hK
    have hK := hT
    clear hT
    refine ps_cSI d_X9_steps_154 ms_X9_isDigit (As := [.int v52]) rfl rfl (ps_room.of (by omega) (by decide)) (Nat.le_of_ble_eq_true rfl) (C_X9_isDigit v52 σ53 _ (ps_bdE hK)) ?_
    intro v54 σ55 hT
    clear hK
    have hK := hT
    clear hT
    refine pm_if_eq d_X9_steps_157 (fun c56 => ?_) (fun c56 => ?_)
    · replace hK := ps_ifT c56 hK
      exact ps_so hK
    · replace hK := ps_ifF c56 hK
      refine pm_ald d_X9_steps_160 rfl ?_
      refine ps_getI d_X9_steps_161 at_327 f_8_0_8 rfl ?_
      refine ps_topI (fun v57 ev57 => ?_)
      replace hK := ps_ltE ev57 hK
      refine pm_ald d_X9_steps_164 rfl ?_
      refine ps_getI d_X9_steps_165 at_327 f_8_0_7 rfl ?_
      refine ps_topI (fun v58 ev58 => ?_)
      replace hK := ps_ltE ev58 hK
      refine pm_isub d_X9_steps_168 ?_
      refine pm_ki d_X9_steps_169 ?_
      refine pm_icmp_ge d_X9_steps_170 (fun c59 => ?_) (fun c59 => ?_)
      · replace hK := ps_ifT c59 hK
        refine pm_ald d_X9_steps_196 rfl ?_
        refine pm_dup d_X9_steps_197 rfl ?_
        refine ps_getI d_X9_steps_198 at_327 f_8_0_8 rfl ?_
        refine ps_topI (fun v60 ev60 => ?_)
        replace hK := ps_ltE ev60 hK
        refine pm_ki d_X9_steps_201 ?_
        refine pm_iadd d_X9_steps_202 ?_
        refine ps_putI d_X9_steps_203 at_327 f_8_0_8 rfl rfl ?_
        refine ps_nmS (fun σ61 eσ61 => ?_)
        replace hK := ps_ltE eσ61 hK
        refine pm_goto d_X9_steps_206 ?_
        exact ih _ hK
      · replace hK := ps_ifF c59 hK
        refine pm_ald d_X9_steps_173 rfl ?_
        refine pm_ki d_X9_steps_174 ?_
        refine pm_ald d_X9_steps_176 rfl ?_
        refine ps_getI d_X9_steps_177 at_327 f_8_0_11 rfl ?_
        refine ps_topI (fun v62 ev62 => ?_)
        replace hK := ps_ltE ev62 hK
        refine pm_imul d_X9_steps_180 ?_
        refine pm_ald d_X9_steps_181 rfl ?_
        refine pm_ald d_X9_steps_182 rfl ?_
        refine ps_getI d_X9_steps_183 at_327 f_8_0_8 rfl ?_
        refine ps_topI (fun v63 ev63 => ?_)
        replace hK := ps_ltE ev63 hK
        refine ps_cVI d_X9_steps_186 mv_X9_see at_327 ob_8_0 rfl (As := [.int v63]) rfl rfl (ps_room.of (by omega) (by decide)) (Nat.le_of_ble_eq_true rfl) (C_X9_see v63 σ55 _ (ps_bdE hK)) ?_
        intro v64 σ65 hT
        clear hK
        have hK := hT
        clear hT
        refine pm_iadd d_X9_steps_189 ?_
        refine pm_ki d_X9_steps_190 ?_
        refine pm_isub d_X9_steps_192 ?_
        refine ps_putI d_X9_steps_193 at_327 f_8_0_11 rfl rfl ?_
        refine ps_nmS (fun σ66 eσ66 => ?_)
        replace hK := ps_ltE eσ66 hK
        refine pm_ald d_X9_steps_196 rfl ?_
        refine pm_dup d_X9_steps_197 rfl ?_
        refine ps_getI d_X9_steps_198 at_327 f_8_0_8 rfl ?_
        refine ps_topI (fun v67 ev67 => ?_)
        replace hK := ps_ltE ev67 hK
        refine pm_ki d_X9_steps_201 ?_
        refine pm_iadd d_X9_steps_202 ?_
        refine ps_putI d_X9_steps_203 at_327 f_8_0_8 rfl rfl ?_
        refine ps_nmS (fun σ68 eσ68 => ?_)
        replace hK := ps_ltE eσ68 hK
        refine pm_goto d_X9_steps_206 ?_
        exact ih _ hK
def qX9_steps_89  : Nat → ps_S → Option (((Unit)) × ps_S)
  | 0, _ => none
  | n + 1, σ =>
    ps_let (σ.1 327 8) fun v75 =>
    ps_bd (qX9_see v75 σ) (fun v76 σ77 =>
    ps_bd (qX9_isSmall v76 σ77) (fun v78 σ79 =>
    if v78 = 0 then
    some ((), σ79)
    else
    ps_let (σ79.1 327 8) fun v81 =>
    ps_let (ps_rI σ79 327 (upd (σ79.1 327) 8 ((v81 + 1)))) fun σ82 =>
    qX9_steps_89 n σ82))
set_option maxRecDepth 100000 in
theorem L_X9_steps_89 {g : pm_G} (D : Nat) (hD : 6 ≤ D) {P : Unit → ps_S → Prop}  : ∀ (n : Nat) (σ : ps_S), ps_ok (qX9_steps_89 n σ) (fun res σ => match res with | _ => pm_W g mX9_steps (ps_F g D (ps_qV P)) 0 0 116 [some (.ref (g.2.2.1 + 327)), none] [] 345 (ps_E g σ)) → pm_W g mX9_steps (ps_F g D (ps_qV P)) 0 0 89 [some (.ref (g.2.2.1 + 327)), none] [] 345 (ps_E g σ) := by
  intro n
  induction n with
  | zero => intro σ hK; exact (ps_no hK).elim
  | succ n ih =>
    intro σ hK
    rw [qX9_steps_89] at hK
    refine pm_ald d_X9_steps_89 rfl ?_
    refine pm_ald d_X9_steps_90 rfl ?_
    refine ps_getI d_X9_steps_91 at_327 f_8_0_8 rfl ?_
    refine ps_topI (fun v75 ev75 => ?_)
    replace hK := ps_ltE ev75 hK
    refine ps_cVI d_X9_steps_94 mv_X9_see at_327 ob_8_0 rfl (As := [.int v75]) rfl rfl (ps_room.of (by omega) (by decide)) (Nat.le_of_ble_eq_true rfl) (C_X9_see v75 σ _ (ps_bdE hK)) ?_
    intro v76 σ77 hT
    clear hK
    have hK := hT
    clear hT
    refine ps_cSI d_X9_steps_97 ms_X9_isSmall (As := [.int v76]) rfl rfl (ps_room.of (by omega) (by decide)) (Nat.le_of_ble_eq_true rfl) (C_X9_isSmall v76 σ77 _ (ps_bdE hK)) ?_
    intro v78 σ79 hT
    clear hK
    have hK := hT
    clear hT
    refine pm_if_eq d_X9_steps_100 (fun c80 => ?_) (fun c80 => ?_)
    · replace hK := ps_ifT c80 hK
      exact ps_so hK
    · replace hK := ps_ifF c80 hK
      refine pm_ald d_X9_steps_103 rfl ?_
      refine pm_dup d_X9_steps_104 rfl ?_
      refine ps_getI d_X9_steps_105 at_327 f_8_0_8 rfl ?_
      refine ps_topI (fun v81 ev81 => ?_)
      replace hK := ps_ltE ev81 hK
      refine pm_ki d_X9_steps_108 ?_
      refine pm_iadd d_X9_steps_109 ?_
      refine ps_putI d_X9_steps_110 at_327 f_8_0_8 rfl rfl ?_
      refine ps_nmS (fun σ82 eσ82 => ?_)
      replace hK := ps_ltE eσ82 hK
      refine pm_goto d_X9_steps_113 ?_
      exact ih _ hK
def qX9_steps  (σ : ps_S) : Option (Unit × ps_S) :=
  ps_let (σ.1 327 8) fun v1 =>
  ps_let (ps_rI σ 327 (upd (σ.1 327) 7 v1)) fun σ2 =>
  ps_bd (qX9_steps_8 ps_N σ2) (fun res σ15 => match res with
  | _ =>
    ps_let (σ15.1 327 7) fun v16 =>
    ps_let (ps_rI σ15 327 (upd (σ15.1 327) 8 v16)) fun σ17 =>
    ps_let (σ17.1 327 7) fun v18 =>
    ps_let (σ17.1 327 9) fun v19 =>
    if v18 < v19 then
    ps_let (σ17.1 327 7) fun v21 =>
    ps_bd (qX9_see v21 σ17) (fun v22 σ23 =>
    ps_bd (qX9_isSmall v22 σ23) (fun v24 σ25 =>
    if v24 = 0 then
    ps_let (σ25.1 327 7) fun v27 =>
    ps_bd (qX9_see v27 σ25) (fun v28 σ29 =>
    ps_bd (qX9_isDigit v28 σ29) (fun v30 σ31 =>
    if v30 = 0 then
    ps_let (σ31.1 327 8) fun v33 =>
    ps_let (ps_rI σ31 327 (upd (σ31.1 327) 8 ((v33 + 1)))) fun σ34 =>
    ps_let (ps_rI σ34 327 (upd (σ34.1 327) 10 27)) fun σ35 =>
    ps_bd (qX9_steps_254 ps_N 0 σ35) (fun res σ48 => match res with
    | v49 =>
      some ((), σ48))
    else
    ps_let (ps_rI σ31 327 (upd (σ31.1 327) 11 0)) fun σ50 =>
    ps_bd (qX9_steps_146 ps_N σ50) (fun res σ69 => match res with
    | _ =>
      ps_let (σ69.1 327 8) fun v70 =>
      ps_let (σ69.1 327 7) fun v71 =>
      if ((v70 - v71)) ≤ 3 then
      ps_let (ps_rI σ69 327 (upd (σ69.1 327) 10 25)) fun σ73 =>
      some ((), σ73)
      else
      ps_let (ps_rI σ69 327 (upd (σ69.1 327) 10 27)) fun σ74 =>
      some ((), σ74))))
    else
    ps_bd (qX9_steps_89 ps_N σ25) (fun res σ83 => match res with
    | _ =>
      ps_bd (qX9_keyAt σ83) (fun v84 σ85 =>
      ps_let (ps_rI σ85 327 (upd (σ85.1 327) 10 v84)) fun σ86 =>
      some ((), σ86)))))
    else
    ps_let (ps_rI σ17 327 (upd (σ17.1 327) 10 26)) fun σ87 =>
    some ((), σ87))
set_option maxRecDepth 100000 in
theorem C_X9_steps {g : pm_G}  (σ : ps_S) (P : Unit → ps_S → Prop) (hK : ps_ok (qX9_steps  σ) P) : ps_C g mX9_steps 6 [.ref (g.2.2.1 + 327)] σ (ps_qV P) := by
  unfold qX9_steps at hK
  refine ps_C.of (ls := [some (.ref (g.2.2.1 + 327)), none]) 1 (by decide) rfl (Nat.le_of_ble_eq_true rfl) rfl ?_
  refine pm_ald d_X9_steps_0 rfl ?_
  refine pm_ald d_X9_steps_1 rfl ?_
  refine ps_getI d_X9_steps_2 at_327 f_8_0_8 rfl ?_
  refine ps_topI (fun v1 ev1 => ?_)
  replace hK := ps_ltE ev1 hK
  refine ps_putI d_X9_steps_5 at_327 f_8_0_7 rfl rfl ?_
  refine ps_nmS (fun σ2 eσ2 => ?_)
  replace hK := ps_ltE eσ2 hK
  refine L_X9_steps_8 _ (by decide) _ _ (ps_ok.mono (ps_bdE hK) ?_)
  rintro _ σ15 hT
  clear hK
  have hK := hT
  clear hT
  refine pm_ald d_X9_steps_47 rfl ?_
  refine pm_ald d_X9_steps_48 rfl ?_
  refine ps_getI d_X9_steps_49 at_327 f_8_0_7 rfl ?_
  refine ps_topI (fun v16 ev16 => ?_)
  replace hK := ps_ltE ev16 hK
  refine ps_putI d_X9_steps_52 at_327 f_8_0_8 rfl rfl ?_
  refine ps_nmS (fun σ17 eσ17 => ?_)
  replace hK := ps_ltE eσ17 hK
  refine pm_ald d_X9_steps_55 rfl ?_
  refine ps_getI d_X9_steps_56 at_327 f_8_0_7 rfl ?_
  refine ps_topI (fun v18 ev18 => ?_)
  replace hK := ps_ltE ev18 hK
  refine pm_ald d_X9_steps_59 rfl ?_
  refine ps_getI d_X9_steps_60 at_327 f_8_0_9 rfl ?_
  refine ps_topI (fun v19 ev19 => ?_)
  replace hK := ps_ltE ev19 hK
  refine pm_icmp_lt d_X9_steps_63 (fun c20 => ?_) (fun c20 => ?_)
  · replace hK := ps_ifT c20 hK
    refine pm_ald d_X9_steps_75 rfl ?_
    refine pm_ald d_X9_steps_76 rfl ?_
    refine ps_getI d_X9_steps_77 at_327 f_8_0_7 rfl ?_
    refine ps_topI (fun v21 ev21 => ?_)
    replace hK := ps_ltE ev21 hK
    refine ps_cVI d_X9_steps_80 mv_X9_see at_327 ob_8_0 rfl (As := [.int v21]) rfl rfl (ps_room.of (by omega) (by decide)) (Nat.le_of_ble_eq_true rfl) (C_X9_see v21 σ17 _ (ps_bdE hK)) ?_
    intro v22 σ23 hT
    clear hK
    have hK := hT
    clear hT
    refine ps_cSI d_X9_steps_83 ms_X9_isSmall (As := [.int v22]) rfl rfl (ps_room.of (by omega) (by decide)) (Nat.le_of_ble_eq_true rfl) (C_X9_isSmall v22 σ23 _ (ps_bdE hK)) ?_
    intro v24 σ25 hT
    clear hK
    have hK := hT
    clear hT
    refine pm_if_eq d_X9_steps_86 (fun c26 => ?_) (fun c26 => ?_)
    · replace hK := ps_ifT c26 hK
      refine pm_ald d_X9_steps_127 rfl ?_
      refine pm_ald d_X9_steps_128 rfl ?_
      refine ps_getI d_X9_steps_129 at_327 f_8_0_7 rfl ?_
      refine ps_topI (fun v27 ev27 => ?_)
      replace hK := ps_ltE ev27 hK
      refine ps_cVI d_X9_steps_132 mv_X9_see at_327 ob_8_0 rfl (As := [.int v27]) rfl rfl (ps_room.of (by omega) (by decide)) (Nat.le_of_ble_eq_true rfl) (C_X9_see v27 σ25 _ (ps_bdE hK)) ?_
      intro v28 σ29 hT
      clear hK
      have hK := hT
      clear hT
      refine ps_cSI d_X9_steps_135 ms_X9_isDigit (As := [.int v28]) rfl rfl (ps_room.of (by omega) (by decide)) (Nat.le_of_ble_eq_true rfl) (C_X9_isDigit v28 σ29 _ (ps_bdE hK)) ?_
      intro v30 σ31 hT
      clear hK
      have hK := hT
      clear hT
      refine pm_if_eq d_X9_steps_138 (fun c32 => ?_) (fun c32 => ?_)
      · replace hK := ps_ifT c32 hK
        refine pm_ald d_X9_steps_236 rfl ?_
        refine pm_dup d_X9_steps_237 rfl ?_
        refine ps_getI d_X9_steps_238 at_327 f_8_0_8 rfl ?_
        refine ps_topI (fun v33 ev33 => ?_)
        replace hK := ps_ltE ev33 hK
        refine pm_ki d_X9_steps_241 ?_
        refine pm_iadd d_X9_steps_242 ?_
        refine ps_putI d_X9_steps_243 at_327 f_8_0_8 rfl rfl ?_
        refine ps_nmS (fun σ34 eσ34 => ?_)
        replace hK := ps_ltE eσ34 hK
        refine pm_ald d_X9_steps_246 rfl ?_
        refine pm_ki d_X9_steps_247 ?_
        refine ps_putI d_X9_steps_249 at_327 f_8_0_10 rfl rfl ?_
        refine ps_nmS (fun σ35 eσ35 => ?_)
        replace hK := ps_ltE eσ35 hK
        refine pm_ki d_X9_steps_252 ?_
        refine pm_ist1 d_X9_steps_253 rfl (by decide) ?_
        refine L_X9_steps_254 _ (by decide) _ _ _ (ps_ok.mono (ps_bdE hK) ?_)
        rintro v49 σ48 hT
        clear hK
        have hK := hT
        clear hT
        have hQ := ps_so hK
        exact ps_vret rfl d_X9_steps_294 ⟨rfl, hQ⟩
      · replace hK := ps_ifF c32 hK
        refine pm_ald d_X9_steps_141 rfl ?_
        refine pm_ki d_X9_steps_142 ?_
        refine ps_putI d_X9_steps_143 at_327 f_8_0_11 rfl rfl ?_
        refine ps_nmS (fun σ50 eσ50 => ?_)
        replace hK := ps_ltE eσ50 hK
        refine L_X9_steps_146 _ (by decide) _ _ (ps_ok.mono (ps_bdE hK) ?_)
        rintro _ σ69 hT
        clear hK
        have hK := hT
        clear hT
        refine pm_ald d_X9_steps_209 rfl ?_
        refine pm_ald d_X9_steps_210 rfl ?_
        refine ps_getI d_X9_steps_211 at_327 f_8_0_8 rfl ?_
        refine ps_topI (fun v70 ev70 => ?_)
        replace hK := ps_ltE ev70 hK
        refine pm_ald d_X9_steps_214 rfl ?_
        refine ps_getI d_X9_steps_215 at_327 f_8_0_7 rfl ?_
        refine ps_topI (fun v71 ev71 => ?_)
        replace hK := ps_ltE ev71 hK
        refine pm_isub d_X9_steps_218 ?_
        refine pm_ki d_X9_steps_219 ?_
        refine pm_icmp_le d_X9_steps_220 (fun c72 => ?_) (fun c72 => ?_)
        · replace hK := ps_ifT c72 hK
          refine pm_ki d_X9_steps_228 ?_
          refine ps_putI d_X9_steps_230 at_327 f_8_0_10 rfl rfl ?_
          refine ps_nmS (fun σ73 eσ73 => ?_)
          replace hK := ps_ltE eσ73 hK
          refine pm_goto d_X9_steps_233 ?_
          have hQ := ps_so hK
          exact ps_vret rfl d_X9_steps_294 ⟨rfl, hQ⟩
        · replace hK := ps_ifF c72 hK
          refine pm_ki d_X9_steps_223 ?_
          refine pm_goto d_X9_steps_225 ?_
          refine ps_putI d_X9_steps_230 at_327 f_8_0_10 rfl rfl ?_
          refine ps_nmS (fun σ74 eσ74 => ?_)
          replace hK := ps_ltE eσ74 hK
          refine pm_goto d_X9_steps_233 ?_
          have hQ := ps_so hK
          exact ps_vret rfl d_X9_steps_294 ⟨rfl, hQ⟩
    · replace hK := ps_ifF c26 hK
      refine L_X9_steps_89 _ (by decide) _ _ (ps_ok.mono (ps_bdE hK) ?_)
      rintro _ σ83 hT
      clear hK
      have hK := hT
      clear hT
      refine pm_ald d_X9_steps_116 rfl ?_
      refine pm_ald d_X9_steps_117 rfl ?_
      refine ps_cVI d_X9_steps_118 mv_X9_keyAt at_327 ob_8_0 rfl (As := []) rfl rfl (ps_room.of (by omega) (by decide)) (Nat.le_of_ble_eq_true rfl) (C_X9_keyAt σ83 _ (ps_bdE hK)) ?_
      intro v84 σ85 hT
      clear hK
      have hK := hT
      clear hT
      refine ps_putI d_X9_steps_121 at_327 f_8_0_10 rfl rfl ?_
      refine ps_nmS (fun σ86 eσ86 => ?_)
      replace hK := ps_ltE eσ86 hK
      refine pm_goto d_X9_steps_124 ?_
      have hQ := ps_so hK
      exact ps_vret rfl d_X9_steps_294 ⟨rfl, hQ⟩
  · replace hK := ps_ifF c20 hK
    refine pm_ald d_X9_steps_66 rfl ?_
    refine pm_ki d_X9_steps_67 ?_
    refine ps_putI d_X9_steps_69 at_327 f_8_0_10 rfl rfl ?_
    refine ps_nmS (fun σ87 eσ87 => ?_)
    replace hK := ps_ltE eσ87 hK
    refine pm_goto d_X9_steps_72 ?_
    have hQ := ps_so hK
    exact ps_vret rfl d_X9_steps_294 ⟨rfl, hQ⟩
def qX9_eats (p1 : Int32) (σ : ps_S) : Option (Int32 × ps_S) :=
  ps_bd (qX9_is p1 σ) (fun v1 σ2 =>
  if v1 = 0 then
  some (0, σ2)
  else
  ps_bd (qX9_steps σ2) (fun _ σ5 =>
  some (1, σ5)))
set_option maxRecDepth 100000 in
theorem C_X9_eats {g : pm_G} (p1 : Int32) (σ : ps_S) (P : Int32 → ps_S → Prop) (hK : ps_ok (qX9_eats p1 σ) P) : ps_C g mX9_eats 7 [.ref (g.2.2.1 + 327), .int p1] σ (ps_qI P) := by
  unfold qX9_eats at hK
  refine ps_C.of (ls := [some (.ref (g.2.2.1 + 327)), some (.int p1)]) 0 (by decide) rfl (Nat.le_of_ble_eq_true rfl) rfl ?_
  refine pm_ald d_X9_eats_0 rfl ?_
  refine pm_ild d_X9_eats_1 rfl ?_
  refine ps_cVI d_X9_eats_2 mv_X9_is at_327 ob_8_0 rfl (As := [.int p1]) rfl rfl (ps_room.of (by omega) (by decide)) (Nat.le_of_ble_eq_true rfl) (C_X9_is p1 σ _ (ps_bdE hK)) ?_
  intro v1 σ2 hT
  clear hK
  have hK := hT
  clear hT
  refine pm_if_ne d_X9_eats_5 (fun c3 => ?_) (fun c3 => ?_)
  · replace hK := ps_ifF c3 hK
    refine pm_ald d_X9_eats_10 rfl ?_
    refine ps_cVV d_X9_eats_11 mv_X9_steps at_327 ob_8_0 rfl (As := []) rfl rfl (ps_room.of (by omega) (by decide)) (Nat.le_of_ble_eq_true rfl) (C_X9_steps σ2 _ (ps_bdE hK)) ?_
    intro σ5 hT
    clear hK
    have hK := hT
    clear hT
    refine pm_ki d_X9_eats_14 ?_
    have hQ := ps_so hK
    exact ps_zret rfl rfl d_X9_eats_15 ⟨_, rfl, hQ⟩
  · replace hK := ps_ifT c3 hK
    refine pm_ki d_X9_eats_8 ?_
    have hQ := ps_so hK
    exact ps_zret rfl rfl d_X9_eats_9 ⟨_, rfl, hQ⟩
def qX9_fails (p1 : Int32) (σ : ps_S) : Option (Unit × ps_S) :=
  ps_let (σ.1 327 12) fun v1 =>
  if v1 = 0 then
  ps_let (σ.1 327 10) fun v3 =>
  if v3 = 27 then
  ps_let (ps_rI σ 327 (upd (σ.1 327) 12 1)) fun σ8 =>
  ps_let (σ8.1 327 7) fun v9 =>
  ps_let (ps_rI σ8 327 (upd (σ8.1 327) 13 v9)) fun σ10 =>
  some ((), σ10)
  else
  ps_let (ps_rI σ 327 (upd (σ.1 327) 12 p1)) fun σ5 =>
  ps_let (σ5.1 327 7) fun v6 =>
  ps_let (ps_rI σ5 327 (upd (σ5.1 327) 13 v6)) fun σ7 =>
  some ((), σ7)
  else
  some ((), σ)
set_option maxRecDepth 100000 in
theorem C_X9_fails {g : pm_G} (p1 : Int32) (σ : ps_S) (P : Unit → ps_S → Prop) (hK : ps_ok (qX9_fails p1 σ) P) : ps_C g mX9_fails 1 [.ref (g.2.2.1 + 327), .int p1] σ (ps_qV P) := by
  unfold qX9_fails at hK
  refine ps_C.of (ls := [some (.ref (g.2.2.1 + 327)), some (.int p1)]) 0 (by decide) rfl (Nat.le_of_ble_eq_true rfl) rfl ?_
  refine pm_ald d_X9_fails_0 rfl ?_
  refine ps_getI d_X9_fails_1 at_327 f_8_0_12 rfl ?_
  refine ps_topI (fun v1 ev1 => ?_)
  replace hK := ps_ltE ev1 hK
  refine pm_if_eq d_X9_fails_4 (fun c2 => ?_) (fun c2 => ?_)
  · replace hK := ps_ifT c2 hK
    refine pm_ald d_X9_fails_8 rfl ?_
    refine pm_ald d_X9_fails_9 rfl ?_
    refine ps_getI d_X9_fails_10 at_327 f_8_0_10 rfl ?_
    refine ps_topI (fun v3 ev3 => ?_)
    replace hK := ps_ltE ev3 hK
    refine pm_ki d_X9_fails_13 ?_
    refine pm_icmp_ne d_X9_fails_15 (fun c4 => ?_) (fun c4 => ?_)
    · replace hK := ps_ifF c4 hK
      refine pm_ild d_X9_fails_22 rfl ?_
      refine ps_putI d_X9_fails_23 at_327 f_8_0_12 rfl rfl ?_
      refine ps_nmS (fun σ5 eσ5 => ?_)
      replace hK := ps_ltE eσ5 hK
      refine pm_ald d_X9_fails_26 rfl ?_
      refine pm_ald d_X9_fails_27 rfl ?_
      refine ps_getI d_X9_fails_28 at_327 f_8_0_7 rfl ?_
      refine ps_topI (fun v6 ev6 => ?_)
      replace hK := ps_ltE ev6 hK
      refine ps_putI d_X9_fails_31 at_327 f_8_0_13 rfl rfl ?_
      refine ps_nmS (fun σ7 eσ7 => ?_)
      replace hK := ps_ltE eσ7 hK
      have hQ := ps_so hK
      exact ps_vret rfl d_X9_fails_34 ⟨rfl, hQ⟩
    · replace hK := ps_ifT c4 hK
      refine pm_ki d_X9_fails_18 ?_
      refine pm_goto d_X9_fails_19 ?_
      refine ps_putI d_X9_fails_23 at_327 f_8_0_12 rfl rfl ?_
      refine ps_nmS (fun σ8 eσ8 => ?_)
      replace hK := ps_ltE eσ8 hK
      refine pm_ald d_X9_fails_26 rfl ?_
      refine pm_ald d_X9_fails_27 rfl ?_
      refine ps_getI d_X9_fails_28 at_327 f_8_0_7 rfl ?_
      refine ps_topI (fun v9 ev9 => ?_)
      replace hK := ps_ltE ev9 hK
      refine ps_putI d_X9_fails_31 at_327 f_8_0_13 rfl rfl ?_
      refine ps_nmS (fun σ10 eσ10 => ?_)
      replace hK := ps_ltE eσ10 hK
      have hQ := ps_so hK
      exact ps_vret rfl d_X9_fails_34 ⟨rfl, hQ⟩
  · replace hK := ps_ifF c2 hK
    have hQ := ps_so hK
    exact ps_vret rfl d_X9_fails_7 ⟨rfl, hQ⟩
def qX9_closes  (σ : ps_S) : Option (Unit × ps_S) :=
  ps_bd (qX9_eats 30 σ) (fun v1 σ2 =>
  if v1 = 0 then
  ps_bd (qX9_fails 2 σ2) (fun _ σ7 =>
  ps_let (σ7.1 332 0) fun v8 =>
  ps_let (ps_rI σ7 332 (upd (σ7.1 332) 0 ((v8 + 1)))) fun σ9 =>
  some ((), σ9))
  else
  ps_let (σ2.1 332 0) fun v4 =>
  ps_let (ps_rI σ2 332 (upd (σ2.1 332) 0 ((v4 + 1)))) fun σ5 =>
  some ((), σ5))
set_option maxRecDepth 100000 in
theorem C_X9_closes {g : pm_G}  (σ : ps_S) (P : Unit → ps_S → Prop) (hK : ps_ok (qX9_closes  σ) P) : ps_C g mX9_closes 8 [.ref (g.2.2.1 + 327)] σ (ps_qV P) := by
  unfold qX9_closes at hK
  refine ps_C.of (ls := [some (.ref (g.2.2.1 + 327))]) 0 (by decide) rfl (Nat.le_of_ble_eq_true rfl) rfl ?_
  refine pm_ald d_X9_closes_0 rfl ?_
  refine pm_ki d_X9_closes_1 ?_
  refine ps_cVI d_X9_closes_3 mv_X9_eats at_327 ob_8_0 rfl (As := [.int 30]) rfl rfl (ps_room.of (by omega) (by decide)) (Nat.le_of_ble_eq_true rfl) (C_X9_eats 30 σ _ (ps_bdE hK)) ?_
  intro v1 σ2 hT
  clear hK
  have hK := hT
  clear hT
  refine pm_if_ne d_X9_closes_6 (fun c3 => ?_) (fun c3 => ?_)
  · replace hK := ps_ifF c3 hK
    refine pm_ald d_X9_closes_14 rfl ?_
    refine ps_getR (q := 332) d_X9_closes_15 at_327 f_8_0_5 rfl ?_
    refine pm_ki d_X9_closes_18 ?_
    refine pm_dup2 d_X9_closes_19 rfl rfl ?_
    refine ps_iald (x := σ2.1 332 0) d_X9_closes_20 at_332 a_8_5 (ps_in_of rfl) rfl ?_
    refine ps_topI (fun v4 ev4 => ?_)
    replace hK := ps_ltE ev4 hK
    refine pm_ki d_X9_closes_21 ?_
    refine pm_iadd d_X9_closes_22 ?_
    refine ps_iast d_X9_closes_23 at_332 a_8_5 (ps_in_of rfl) ?_
    refine ps_nmS (fun σ5 eσ5 => ?_)
    replace hK := ps_ltE eσ5 hK
    have hQ := ps_so hK
    exact ps_vret rfl d_X9_closes_24 ⟨rfl, hQ⟩
  · replace hK := ps_ifT c3 hK
    refine pm_ald d_X9_closes_9 rfl ?_
    refine pm_ki d_X9_closes_10 ?_
    refine ps_cVV d_X9_closes_11 mv_X9_fails at_327 ob_8_0 rfl (As := [.int 2]) rfl rfl (ps_room.of (by omega) (by decide)) (Nat.le_of_ble_eq_true rfl) (C_X9_fails 2 σ2 _ (ps_bdE hK)) ?_
    intro σ7 hT
    clear hK
    have hK := hT
    clear hT
    refine pm_ald d_X9_closes_14 rfl ?_
    refine ps_getR (q := 332) d_X9_closes_15 at_327 f_8_0_5 rfl ?_
    refine pm_ki d_X9_closes_18 ?_
    refine pm_dup2 d_X9_closes_19 rfl rfl ?_
    refine ps_iald (x := σ7.1 332 0) d_X9_closes_20 at_332 a_8_5 (ps_in_of rfl) rfl ?_
    refine ps_topI (fun v8 ev8 => ?_)
    replace hK := ps_ltE ev8 hK
    refine pm_ki d_X9_closes_21 ?_
    refine pm_iadd d_X9_closes_22 ?_
    refine ps_iast d_X9_closes_23 at_332 a_8_5 (ps_in_of rfl) ?_
    refine ps_nmS (fun σ9 eσ9 => ?_)
    replace hK := ps_ltE eσ9 hK
    have hQ := ps_so hK
    exact ps_vret rfl d_X9_closes_24 ⟨rfl, hQ⟩
def qX9_plain_2 (k1 n1 : Nat) : Nat → Int32 → ps_S → Option (((Int32)) × ps_S)
  | 0, _, _ => none
  | n + 1, x1, σ =>
    if 1850 ≤ x1 then
    some (x1, σ)
    else
    if ps_in x1 n1 = true then
    ps_let (ps_rI σ k1 (upd (σ.1 k1) (x1).toNatClampNeg 0)) fun σ2 =>
    ps_let (x1 + 1) fun v3 =>
    qX9_plain_2 k1 n1 n v3 σ2
    else none
set_option maxRecDepth 100000 in
theorem L_X9_plain_2 {g : pm_G} (D : Nat) (hD : 1 ≤ D) {P : Unit → ps_S → Prop} (k1 n1 kd1 b1 o1 : Nat) (ha1 : ps_at k1 kd1 b1 o1) (hf1 : ps_aI kd1 o1 n1 0) : ∀ (n : Nat) (x1 : Int32) (σ : ps_S), ps_ok (qX9_plain_2 k1 n1 n x1 σ) (fun res σ => match res with | x1 => pm_W g mX9_plain (ps_F g D (ps_qV P)) 0 0 19 [some (.ref (g.2.2.1 + k1)), some (.int x1)] [] 345 (ps_E g σ)) → pm_W g mX9_plain (ps_F g D (ps_qV P)) 0 0 2 [some (.ref (g.2.2.1 + k1)), some (.int x1)] [] 345 (ps_E g σ) := by
  intro n
  induction n with
  | zero => intro x1 σ hK; exact (ps_no hK).elim
  | succ n ih =>
    intro x1 σ hK
    rw [qX9_plain_2] at hK
    refine pm_ild d_X9_plain_2 rfl ?_
    refine pm_ki d_X9_plain_3 ?_
    refine pm_icmp_ge d_X9_plain_6 (fun c1 => ?_) (fun c1 => ?_)
    · replace hK := ps_ifT c1 hK
      exact ps_so hK
    · replace hK := ps_ifF c1 hK
      refine pm_ald d_X9_plain_9 rfl ?_
      refine pm_ild d_X9_plain_10 rfl ?_
      refine pm_ki d_X9_plain_11 ?_
      obtain ⟨b4, hT⟩ := ps_gd hK
      replace hK := hT
      clear hT
      refine ps_iast d_X9_plain_12 ha1 hf1 (ps_in_of b4) ?_
      refine ps_nmS (fun σ2 eσ2 => ?_)
      replace hK := ps_ltE eσ2 hK
      refine pm_inc1 d_X9_plain_13 rfl ?_
      obtain ⟨v3, ev3⟩ : ∃ y : Int32, y = x1 + 1 := ⟨_, rfl⟩
      rw [← ev3]
      replace hK := ps_ltE ev3 hK
      refine pm_goto d_X9_plain_16 ?_
      exact ih _ _ hK
def qX9_plain (k1 n1 : Nat) (σ : ps_S) : Option (Unit × ps_S) :=
  ps_bd (qX9_plain_2 k1 n1 ps_N 0 σ) (fun res σ5 => match res with
  | v6 =>
    if ps_in 10 n1 = true then
    ps_let (ps_rI σ5 k1 (upd (σ5.1 k1) 10 100)) fun σ7 =>
    if ps_in 11 n1 = true then
    ps_let (ps_rI σ7 k1 (upd (σ7.1 k1) 11 10)) fun σ8 =>
    if ps_in 12 n1 = true then
    ps_let (ps_rI σ8 k1 (upd (σ8.1 k1) 12 30)) fun σ9 =>
    if ps_in 13 n1 = true then
    ps_let (ps_rI σ9 k1 (upd (σ9.1 k1) 13 20)) fun σ10 =>
    if ps_in 14 n1 = true then
    ps_let (ps_rI σ10 k1 (upd (σ10.1 k1) 14 10)) fun σ11 =>
    if ps_in 15 n1 = true then
    ps_let (ps_rI σ11 k1 (upd (σ11.1 k1) 15 4)) fun σ12 =>
    if ps_in 16 n1 = true then
    ps_let (ps_rI σ12 k1 (upd (σ12.1 k1) 16 8)) fun σ13 =>
    some ((), σ13)
    else none
    else none
    else none
    else none
    else none
    else none
    else none)
set_option maxRecDepth 100000 in
theorem C_X9_plain {g : pm_G} (k1 n1 kd1 b1 o1 : Nat) (ha1 : ps_at k1 kd1 b1 o1) (hf1 : ps_aI kd1 o1 n1 0) (σ : ps_S) (P : Unit → ps_S → Prop) (hK : ps_ok (qX9_plain k1 n1 σ) P) : ps_C g mX9_plain 1 [.ref (g.2.2.1 + k1)] σ (ps_qV P) := by
  unfold qX9_plain at hK
  refine ps_C.of (ls := [some (.ref (g.2.2.1 + k1)), none]) 1 (by decide) rfl (Nat.le_of_ble_eq_true rfl) rfl ?_
  refine pm_ki d_X9_plain_0 ?_
  refine pm_ist1 d_X9_plain_1 rfl (by decide) ?_
  refine L_X9_plain_2 _ (by decide) k1 n1 kd1 b1 o1 ha1 hf1 _ _ _ (ps_ok.mono (ps_bdE hK) ?_)
  rintro v6 σ5 hT
  clear hK
  have hK := hT
  clear hT
  refine pm_ald d_X9_plain_19 rfl ?_
  refine pm_ki d_X9_plain_20 ?_
  refine pm_ki d_X9_plain_22 ?_
  obtain ⟨b20, hT⟩ := ps_gd hK
  replace hK := hT
  clear hT
  refine ps_iast d_X9_plain_24 ha1 hf1 (ps_in_of b20) ?_
  refine ps_nmS (fun σ7 eσ7 => ?_)
  replace hK := ps_ltE eσ7 hK
  refine pm_ald d_X9_plain_25 rfl ?_
  refine pm_ki d_X9_plain_26 ?_
  refine pm_ki d_X9_plain_28 ?_
  obtain ⟨b19, hT⟩ := ps_gd hK
  replace hK := hT
  clear hT
  refine ps_iast d_X9_plain_30 ha1 hf1 (ps_in_of b19) ?_
  refine ps_nmS (fun σ8 eσ8 => ?_)
  replace hK := ps_ltE eσ8 hK
  refine pm_ald d_X9_plain_31 rfl ?_
  refine pm_ki d_X9_plain_32 ?_
  refine pm_ki d_X9_plain_34 ?_
  obtain ⟨b18, hT⟩ := ps_gd hK
  replace hK := hT
  clear hT
  refine ps_iast d_X9_plain_36 ha1 hf1 (ps_in_of b18) ?_
  refine ps_nmS (fun σ9 eσ9 => ?_)
  replace hK := ps_ltE eσ9 hK
  refine pm_ald d_X9_plain_37 rfl ?_
  refine pm_ki d_X9_plain_38 ?_
  refine pm_ki d_X9_plain_40 ?_
  obtain ⟨b17, hT⟩ := ps_gd hK
  replace hK := hT
  clear hT
  refine ps_iast d_X9_plain_42 ha1 hf1 (ps_in_of b17) ?_
  refine ps_nmS (fun σ10 eσ10 => ?_)
  replace hK := ps_ltE eσ10 hK
  refine pm_ald d_X9_plain_43 rfl ?_
  refine pm_ki d_X9_plain_44 ?_
  refine pm_ki d_X9_plain_46 ?_
  obtain ⟨b16, hT⟩ := ps_gd hK
  replace hK := hT
  clear hT
  refine ps_iast d_X9_plain_48 ha1 hf1 (ps_in_of b16) ?_
  refine ps_nmS (fun σ11 eσ11 => ?_)
  replace hK := ps_ltE eσ11 hK
  refine pm_ald d_X9_plain_49 rfl ?_
  refine pm_ki d_X9_plain_50 ?_
  refine pm_ki d_X9_plain_52 ?_
  obtain ⟨b15, hT⟩ := ps_gd hK
  replace hK := hT
  clear hT
  refine ps_iast d_X9_plain_53 ha1 hf1 (ps_in_of b15) ?_
  refine ps_nmS (fun σ12 eσ12 => ?_)
  replace hK := ps_ltE eσ12 hK
  refine pm_ald d_X9_plain_54 rfl ?_
  refine pm_ki d_X9_plain_55 ?_
  refine pm_ki d_X9_plain_57 ?_
  obtain ⟨b14, hT⟩ := ps_gd hK
  replace hK := hT
  clear hT
  refine ps_iast d_X9_plain_59 ha1 hf1 (ps_in_of b14) ?_
  refine ps_nmS (fun σ13 eσ13 => ?_)
  replace hK := ps_ltE eσ13 hK
  have hQ := ps_so hK
  exact ps_vret rfl d_X9_plain_60 ⟨rfl, hQ⟩
def qX9_takes (p1 : Int32) (p2 : Int32) (σ : ps_S) : Option (Int32 × ps_S) :=
  ps_bd (qX9_is 25 σ) (fun v1 σ2 =>
  if v1 = 0 then
  ps_bd (qX9_fails 2 σ2) (fun _ σ21 =>
  ps_let (σ21.1 327 11) fun v22 =>
  ps_let (σ21.1 327 12) fun v23 =>
  if v23 = 0 then
  ps_bd (qX9_steps σ21) (fun _ σ26 =>
  some (v22, σ26))
  else
  some (v22, σ21))
  else
  ps_let (σ2.1 327 11) fun v4 =>
  ps_bd (qX9_within (((v4).toInt64)) (((p1).toInt64)) (((p2).toInt64)) σ2) (fun v5 σ6 =>
  if v5 = 0 then
  ps_bd (qX9_fails 3 σ6) (fun _ σ14 =>
  ps_let (σ14.1 327 11) fun v15 =>
  ps_let (σ14.1 327 12) fun v16 =>
  if v16 = 0 then
  ps_bd (qX9_steps σ14) (fun _ σ19 =>
  some (v15, σ19))
  else
  some (v15, σ14))
  else
  ps_let (σ6.1 327 11) fun v8 =>
  ps_let (σ6.1 327 12) fun v9 =>
  if v9 = 0 then
  ps_bd (qX9_steps σ6) (fun _ σ12 =>
  some (v8, σ12))
  else
  some (v8, σ6)))
set_option maxRecDepth 100000 in
theorem C_X9_takes {g : pm_G} (p1 : Int32) (p2 : Int32) (σ : ps_S) (P : Int32 → ps_S → Prop) (hK : ps_ok (qX9_takes p1 p2 σ) P) : ps_C g mX9_takes 7 [.ref (g.2.2.1 + 327), .int p1, .int p2] σ (ps_qI P) := by
  unfold qX9_takes at hK
  refine ps_C.of (ls := [some (.ref (g.2.2.1 + 327)), some (.int p1), some (.int p2), none]) 1 (by decide) rfl (Nat.le_of_ble_eq_true rfl) rfl ?_
  refine pm_ald d_X9_takes_0 rfl ?_
  refine pm_ki d_X9_takes_1 ?_
  refine ps_cVI d_X9_takes_3 mv_X9_is at_327 ob_8_0 rfl (As := [.int 25]) rfl rfl (ps_room.of (by omega) (by decide)) (Nat.le_of_ble_eq_true rfl) (C_X9_is 25 σ _ (ps_bdE hK)) ?_
  intro v1 σ2 hT
  clear hK
  have hK := hT
  clear hT
  refine pm_if_ne d_X9_takes_6 (fun c3 => ?_) (fun c3 => ?_)
  · replace hK := ps_ifF c3 hK
    refine pm_ald d_X9_takes_17 rfl ?_
    refine ps_getI d_X9_takes_18 at_327 f_8_0_11 rfl ?_
    refine ps_topI (fun v4 ev4 => ?_)
    replace hK := ps_ltE ev4 hK
    refine pm_i2l d_X9_takes_21 ?_
    refine pm_ild d_X9_takes_22 rfl ?_
    refine pm_i2l d_X9_takes_23 ?_
    refine pm_ild d_X9_takes_24 rfl ?_
    refine pm_i2l d_X9_takes_25 ?_
    refine ps_cSI d_X9_takes_26 ms_X9_within (As := [.long ((v4).toInt64), .long ((p1).toInt64), .long ((p2).toInt64)]) rfl rfl (ps_room.of (by omega) (by decide)) (Nat.le_of_ble_eq_true rfl) (C_X9_within (((v4).toInt64)) (((p1).toInt64)) (((p2).toInt64)) σ2 _ (ps_bdE hK)) ?_
    intro v5 σ6 hT
    clear hK
    have hK := hT
    clear hT
    refine pm_if_ne d_X9_takes_29 (fun c7 => ?_) (fun c7 => ?_)
    · replace hK := ps_ifF c7 hK
      refine pm_ald d_X9_takes_37 rfl ?_
      refine ps_getI d_X9_takes_38 at_327 f_8_0_11 rfl ?_
      refine ps_topI (fun v8 ev8 => ?_)
      replace hK := ps_ltE ev8 hK
      refine pm_ist3 d_X9_takes_41 rfl (by decide) ?_
      refine pm_ald d_X9_takes_42 rfl ?_
      refine ps_getI d_X9_takes_43 at_327 f_8_0_12 rfl ?_
      refine ps_topI (fun v9 ev9 => ?_)
      replace hK := ps_ltE ev9 hK
      refine pm_if_ne d_X9_takes_46 (fun c10 => ?_) (fun c10 => ?_)
      · replace hK := ps_ifF c10 hK
        refine pm_ild d_X9_takes_53 rfl ?_
        have hQ := ps_so hK
        exact ps_iret rfl d_X9_takes_54 ⟨_, rfl, hQ⟩
      · replace hK := ps_ifT c10 hK
        refine pm_ald d_X9_takes_49 rfl ?_
        refine ps_cVV d_X9_takes_50 mv_X9_steps at_327 ob_8_0 rfl (As := []) rfl rfl (ps_room.of (by omega) (by decide)) (Nat.le_of_ble_eq_true rfl) (C_X9_steps σ6 _ (ps_bdE hK)) ?_
        intro σ12 hT
        clear hK
        have hK := hT
        clear hT
        refine pm_ild d_X9_takes_53 rfl ?_
        have hQ := ps_so hK
        exact ps_iret rfl d_X9_takes_54 ⟨_, rfl, hQ⟩
    · replace hK := ps_ifT c7 hK
      refine pm_ald d_X9_takes_32 rfl ?_
      refine pm_ki d_X9_takes_33 ?_
      refine ps_cVV d_X9_takes_34 mv_X9_fails at_327 ob_8_0 rfl (As := [.int 3]) rfl rfl (ps_room.of (by omega) (by decide)) (Nat.le_of_ble_eq_true rfl) (C_X9_fails 3 σ6 _ (ps_bdE hK)) ?_
      intro σ14 hT
      clear hK
      have hK := hT
      clear hT
      refine pm_ald d_X9_takes_37 rfl ?_
      refine ps_getI d_X9_takes_38 at_327 f_8_0_11 rfl ?_
      refine ps_topI (fun v15 ev15 => ?_)
      replace hK := ps_ltE ev15 hK
      refine pm_ist3 d_X9_takes_41 rfl (by decide) ?_
      refine pm_ald d_X9_takes_42 rfl ?_
      refine ps_getI d_X9_takes_43 at_327 f_8_0_12 rfl ?_
      refine ps_topI (fun v16 ev16 => ?_)
      replace hK := ps_ltE ev16 hK
      refine pm_if_ne d_X9_takes_46 (fun c17 => ?_) (fun c17 => ?_)
      · replace hK := ps_ifF c17 hK
        refine pm_ild d_X9_takes_53 rfl ?_
        have hQ := ps_so hK
        exact ps_iret rfl d_X9_takes_54 ⟨_, rfl, hQ⟩
      · replace hK := ps_ifT c17 hK
        refine pm_ald d_X9_takes_49 rfl ?_
        refine ps_cVV d_X9_takes_50 mv_X9_steps at_327 ob_8_0 rfl (As := []) rfl rfl (ps_room.of (by omega) (by decide)) (Nat.le_of_ble_eq_true rfl) (C_X9_steps σ14 _ (ps_bdE hK)) ?_
        intro σ19 hT
        clear hK
        have hK := hT
        clear hT
        refine pm_ild d_X9_takes_53 rfl ?_
        have hQ := ps_so hK
        exact ps_iret rfl d_X9_takes_54 ⟨_, rfl, hQ⟩
  · replace hK := ps_ifT c3 hK
    refine pm_ald d_X9_takes_9 rfl ?_
    refine pm_ki d_X9_takes_10 ?_
    refine ps_cVV d_X9_takes_11 mv_X9_fails at_327 ob_8_0 rfl (As := [.int 2]) rfl rfl (ps_room.of (by omega) (by decide)) (Nat.le_of_ble_eq_true rfl) (C_X9_fails 2 σ2 _ (ps_bdE hK)) ?_
    intro σ21 hT
    clear hK
    have hK := hT
    clear hT
    refine pm_goto d_X9_takes_14 ?_
    refine pm_ald d_X9_takes_37 rfl ?_
    refine ps_getI d_X9_takes_38 at_327 f_8_0_11 rfl ?_
    refine ps_topI (fun v22 ev22 => ?_)
    replace hK := ps_ltE ev22 hK
    refine pm_ist3 d_X9_takes_41 rfl (by decide) ?_
    refine pm_ald d_X9_takes_42 rfl ?_
    refine ps_getI d_X9_takes_43 at_327 f_8_0_12 rfl ?_
    refine ps_topI (fun v23 ev23 => ?_)
    replace hK := ps_ltE ev23 hK
    refine pm_if_ne d_X9_takes_46 (fun c24 => ?_) (fun c24 => ?_)
    · replace hK := ps_ifF c24 hK
      refine pm_ild d_X9_takes_53 rfl ?_
      have hQ := ps_so hK
      exact ps_iret rfl d_X9_takes_54 ⟨_, rfl, hQ⟩
    · replace hK := ps_ifT c24 hK
      refine pm_ald d_X9_takes_49 rfl ?_
      refine ps_cVV d_X9_takes_50 mv_X9_steps at_327 ob_8_0 rfl (As := []) rfl rfl (ps_room.of (by omega) (by decide)) (Nat.le_of_ble_eq_true rfl) (C_X9_steps σ21 _ (ps_bdE hK)) ?_
      intro σ26 hT
      clear hK
      have hK := hT
      clear hT
      refine pm_ild d_X9_takes_53 rfl ?_
      have hQ := ps_so hK
      exact ps_iret rfl d_X9_takes_54 ⟨_, rfl, hQ⟩
def qX9_named (p1 : Int32) (p2 : Int32) (p3 : Int32) (σ : ps_S) : Option (Int32 × ps_S) :=
  ps_bd (qX9_eats p1 σ) (fun v1 σ2 =>
  if v1 = 0 then
  ps_bd (qX9_fails 2 σ2) (fun _ σ7 =>
  ps_bd (qX9_takes p2 p3 σ7) (fun v8 σ9 =>
  some (v8, σ9)))
  else
  ps_bd (qX9_takes p2 p3 σ2) (fun v4 σ5 =>
  some (v4, σ5)))
set_option maxRecDepth 100000 in
theorem C_X9_named {g : pm_G} (p1 : Int32) (p2 : Int32) (p3 : Int32) (σ : ps_S) (P : Int32 → ps_S → Prop) (hK : ps_ok (qX9_named p1 p2 p3 σ) P) : ps_C g mX9_named 8 [.ref (g.2.2.1 + 327), .int p1, .int p2, .int p3] σ (ps_qI P) := by
  unfold qX9_named at hK
  refine ps_C.of (ls := [some (.ref (g.2.2.1 + 327)), some (.int p1), some (.int p2), some (.int p3)]) 0 (by decide) rfl (Nat.le_of_ble_eq_true rfl) rfl ?_
  refine pm_ald d_X9_named_0 rfl ?_
  refine pm_ild d_X9_named_1 rfl ?_
  refine ps_cVI d_X9_named_2 mv_X9_eats at_327 ob_8_0 rfl (As := [.int p1]) rfl rfl (ps_room.of (by omega) (by decide)) (Nat.le_of_ble_eq_true rfl) (C_X9_eats p1 σ _ (ps_bdE hK)) ?_
  intro v1 σ2 hT
  clear hK
  have hK := hT
  clear hT
  refine pm_if_ne d_X9_named_5 (fun c3 => ?_) (fun c3 => ?_)
  · replace hK := ps_ifF c3 hK
    refine pm_ald d_X9_named_13 rfl ?_
    refine pm_ild d_X9_named_14 rfl ?_
    refine pm_ild d_X9_named_15 rfl ?_
    refine ps_cVI d_X9_named_16 mv_X9_takes at_327 ob_8_0 rfl (As := [.int p2, .int p3]) rfl rfl (ps_room.of (by omega) (by decide)) (Nat.le_of_ble_eq_true rfl) (C_X9_takes p2 p3 σ2 _ (ps_bdE hK)) ?_
    intro v4 σ5 hT
    clear hK
    have hK := hT
    clear hT
    have hQ := ps_so hK
    exact ps_iret rfl d_X9_named_19 ⟨_, rfl, hQ⟩
  · replace hK := ps_ifT c3 hK
    refine pm_ald d_X9_named_8 rfl ?_
    refine pm_ki d_X9_named_9 ?_
    refine ps_cVV d_X9_named_10 mv_X9_fails at_327 ob_8_0 rfl (As := [.int 2]) rfl rfl (ps_room.of (by omega) (by decide)) (Nat.le_of_ble_eq_true rfl) (C_X9_fails 2 σ2 _ (ps_bdE hK)) ?_
    intro σ7 hT
    clear hK
    have hK := hT
    clear hT
    refine pm_ald d_X9_named_13 rfl ?_
    refine pm_ild d_X9_named_14 rfl ?_
    refine pm_ild d_X9_named_15 rfl ?_
    refine ps_cVI d_X9_named_16 mv_X9_takes at_327 ob_8_0 rfl (As := [.int p2, .int p3]) rfl rfl (ps_room.of (by omega) (by decide)) (Nat.le_of_ble_eq_true rfl) (C_X9_takes p2 p3 σ7 _ (ps_bdE hK)) ?_
    intro v8 σ9 hT
    clear hK
    have hK := hT
    clear hT
    have hQ := ps_so hK
    exact ps_iret rfl d_X9_named_19 ⟨_, rfl, hQ⟩
def qX9_readHost_15  : Nat → Int32 → ps_S → Option (((Int32)) × ps_S)
  | 0, _, _ => none
  | n + 1, x1, σ =>
    if 7 ≤ x1 then
    some (x1, σ)
    else
    if x1 = 1 then
    if x1 = 1 then
    ps_let (σ.1 332 10) fun v52 =>
    ps_let ((v52 - 1)) fun v53 =>
    ps_bd (qX9_named ((1 + x1)) 0 v53 σ) (fun v54 σ55 =>
    ps_let (σ55.1 327 12) fun v56 =>
    if v56 = 0 then
    if ps_in ((10 + x1)) 1850 = true then
    ps_let (ps_rI σ55 332 (upd (σ55.1 332) ((10 + x1)).toNatClampNeg v54)) fun σ59 =>
    ps_let (x1 + 1) fun v60 =>
    qX9_readHost_15 n v60 σ59
    else none
    else
    ps_let (x1 + 1) fun v58 =>
    qX9_readHost_15 n v58 σ55)
    else
    if x1 ≤ 4 then
    ps_bd (qX9_named ((1 + x1)) 0 999 σ) (fun v36 σ37 =>
    ps_let (σ37.1 327 12) fun v38 =>
    if v38 = 0 then
    if ps_in ((10 + x1)) 1850 = true then
    ps_let (ps_rI σ37 332 (upd (σ37.1 332) ((10 + x1)).toNatClampNeg v36)) fun σ41 =>
    ps_let (x1 + 1) fun v42 =>
    qX9_readHost_15 n v42 σ41
    else none
    else
    ps_let (x1 + 1) fun v40 =>
    qX9_readHost_15 n v40 σ37)
    else
    ps_bd (qX9_named ((1 + x1)) 0 99 σ) (fun v44 σ45 =>
    ps_let (σ45.1 327 12) fun v46 =>
    if v46 = 0 then
    if ps_in ((10 + x1)) 1850 = true then
    ps_let (ps_rI σ45 332 (upd (σ45.1 332) ((10 + x1)).toNatClampNeg v44)) fun σ49 =>
    ps_let (x1 + 1) fun v50 =>
    qX9_readHost_15 n v50 σ49
    else none
    else
    ps_let (x1 + 1) fun v48 =>
    qX9_readHost_15 n v48 σ45)
    else
    if x1 = 1 then
    ps_let (σ.1 332 10) fun v24 =>
    ps_let ((v24 - 1)) fun v25 =>
    ps_bd (qX9_named ((1 + x1)) 1 v25 σ) (fun v26 σ27 =>
    ps_let (σ27.1 327 12) fun v28 =>
    if v28 = 0 then
    if ps_in ((10 + x1)) 1850 = true then
    ps_let (ps_rI σ27 332 (upd (σ27.1 332) ((10 + x1)).toNatClampNeg v26)) fun σ31 =>
    ps_let (x1 + 1) fun v32 =>
    qX9_readHost_15 n v32 σ31
    else none
    else
    ps_let (x1 + 1) fun v30 =>
    qX9_readHost_15 n v30 σ27)
    else
    if x1 ≤ 4 then
    ps_bd (qX9_named ((1 + x1)) 1 999 σ) (fun v8 σ9 =>
    ps_let (σ9.1 327 12) fun v10 =>
    if v10 = 0 then
    if ps_in ((10 + x1)) 1850 = true then
    ps_let (ps_rI σ9 332 (upd (σ9.1 332) ((10 + x1)).toNatClampNeg v8)) fun σ13 =>
    ps_let (x1 + 1) fun v14 =>
    qX9_readHost_15 n v14 σ13
    else none
    else
    ps_let (x1 + 1) fun v12 =>
    qX9_readHost_15 n v12 σ9)
    else
    ps_bd (qX9_named ((1 + x1)) 1 99 σ) (fun v16 σ17 =>
    ps_let (σ17.1 327 12) fun v18 =>
    if v18 = 0 then
    if ps_in ((10 + x1)) 1850 = true then
    ps_let (ps_rI σ17 332 (upd (σ17.1 332) ((10 + x1)).toNatClampNeg v16)) fun σ21 =>
    ps_let (x1 + 1) fun v22 =>
    qX9_readHost_15 n v22 σ21
    else none
    else
    ps_let (x1 + 1) fun v20 =>
    qX9_readHost_15 n v20 σ17)
set_option maxRecDepth 100000 in
theorem L_X9_readHost_15 {g : pm_G} (D : Nat) (hD : 9 ≤ D) {P : Unit → ps_S → Prop}  : ∀ (n : Nat) (x1 : Int32) (σ : ps_S), ps_ok (qX9_readHost_15 n x1 σ) (fun res σ => match res with | x1 => pm_W g mX9_readHost (ps_F g D (ps_qV P)) 0 0 98 [some (.ref (g.2.2.1 + 327)), some (.int x1), none, none, none] [] 345 (ps_E g σ)) → pm_W g mX9_readHost (ps_F g D (ps_qV P)) 0 0 15 [some (.ref (g.2.2.1 + 327)), some (.int x1), none, none, none] [] 345 (ps_E g σ) := by
  intro n
  induction n with
  | zero => intro x1 σ hK; exact (ps_no hK).elim
  | succ n ih =>
    intro x1 σ hK
    rw [qX9_readHost_15] at hK
    refine pm_ild d_X9_readHost_15 rfl ?_
    refine pm_ki d_X9_readHost_16 ?_
    refine pm_icmp_ge d_X9_readHost_18 (fun c4 => ?_) (fun c4 => ?_)
    · replace hK := ps_ifT c4 hK
      exact ps_so hK
    · replace hK := ps_ifF c4 hK
      refine pm_ild d_X9_readHost_21 rfl ?_
      refine pm_ki d_X9_readHost_22 ?_
      refine pm_icmp_ne d_X9_readHost_23 (fun c5 => ?_) (fun c5 => ?_)
      · replace hK := ps_ifF c5 hK
        refine pm_ki d_X9_readHost_30 ?_
        refine pm_ist2 d_X9_readHost_31 rfl (by decide) ?_
        refine pm_ild d_X9_readHost_32 rfl ?_
        refine pm_ki d_X9_readHost_33 ?_
        refine pm_icmp_ne d_X9_readHost_34 (fun c6 => ?_) (fun c6 => ?_)
        · replace hK := ps_ifF c6 hK
          refine pm_ild d_X9_readHost_49 rfl ?_
          refine pm_ki d_X9_readHost_50 ?_
          refine pm_icmp_le d_X9_readHost_51 (fun c7 => ?_) (fun c7 => ?_)
          · replace hK := ps_ifT c7 hK
            refine pm_ki d_X9_readHost_59 ?_
            refine pm_ist3 d_X9_readHost_62 rfl (by decide) ?_
            refine pm_ald d_X9_readHost_63 rfl ?_
            refine pm_ki d_X9_readHost_64 ?_
            refine pm_ild d_X9_readHost_65 rfl ?_
            refine pm_iadd d_X9_readHost_66 ?_
            refine pm_ild d_X9_readHost_67 rfl ?_
            refine pm_ild d_X9_readHost_68 rfl ?_
            refine ps_cVI d_X9_readHost_69 mv_X9_named at_327 ob_8_0 rfl (As := [.int (1 + x1), .int 1, .int 999]) rfl rfl (ps_room.of (by omega) (by decide)) (Nat.le_of_ble_eq_true rfl) (C_X9_named ((1 + x1)) 1 999 σ _ (ps_bdE hK)) ?_
            intro v8 σ9 hT
            clear hK
            have hK := hT
            clear hT
            refine pm_ist4 d_X9_readHost_72 rfl (by decide) ?_
            refine pm_ald d_X9_readHost_74 rfl ?_
            refine ps_getI d_X9_readHost_75 at_327 f_8_0_12 rfl ?_
            refine ps_topI (fun v10 ev10 => ?_)
            replace hK := ps_ltE ev10 hK
            refine pm_if_ne d_X9_readHost_78 (fun c11 => ?_) (fun c11 => ?_)
            · replace hK := ps_ifF c11 hK
              refine pm_inc1 d_X9_readHost_92 rfl ?_
              obtain ⟨v12, ev12⟩ : ∃ y : Int32, y = x1 + 1 := ⟨_, rfl⟩
              rw [← ev12]
              replace hK := ps_ltE ev12 hK
              refine pm_goto d_X9_readHost_95 ?_
              refine pm_wk (ls' := [some (.ref (g.2.2.1 + 327)), some (.int v12), none, none, none]) ⟨rfl, ⟨rfl, trivial⟩⟩ ?_
              exact ih _ _ hK
            · replace hK := ps_ifT c11 hK
              refine pm_ald d_X9_readHost_81 rfl ?_
              refine ps_getR (q := 332) d_X9_readHost_82 at_327 f_8_0_5 rfl ?_
              refine pm_ki d_X9_readHost_85 ?_
              refine pm_ild d_X9_readHost_87 rfl ?_
              refine pm_iadd d_X9_readHost_88 ?_
              refine pm_ild d_X9_readHost_89 rfl ?_
              obtain ⟨b15, hT⟩ := ps_gd hK
              replace hK := hT
              clear hT
              refine ps_iast d_X9_readHost_91 at_332 a_8_5 (ps_in_of b15) ?_
              refine ps_nmS (fun σ13 eσ13 => ?_)
              replace hK := ps_ltE eσ13 hK
              refine pm_inc1 d_X9_readHost_92 rfl ?_
              obtain ⟨v14, ev14⟩ : ∃ y : Int32, y = x1 + 1 := ⟨_, rfl⟩
              rw [← ev14]
              replace hK := ps_ltE ev14 hK
              refine pm_goto d_X9_readHost_95 ?_
              refine pm_wk (ls' := [some (.ref (g.2.2.1 + 327)), some (.int v14), none, none, none]) ⟨rfl, ⟨rfl, trivial⟩⟩ ?_
              exact ih _ _ hK
          · replace hK := ps_ifF c7 hK
            refine pm_ki d_X9_readHost_54 ?_
            refine pm_goto d_X9_readHost_56 ?_
            refine pm_ist3 d_X9_readHost_62 rfl (by decide) ?_
            refine pm_ald d_X9_readHost_63 rfl ?_
            refine pm_ki d_X9_readHost_64 ?_
            refine pm_ild d_X9_readHost_65 rfl ?_
            refine pm_iadd d_X9_readHost_66 ?_
            refine pm_ild d_X9_readHost_67 rfl ?_
            refine pm_ild d_X9_readHost_68 rfl ?_
            refine ps_cVI d_X9_readHost_69 mv_X9_named at_327 ob_8_0 rfl (As := [.int (1 + x1), .int 1, .int 99]) rfl rfl (ps_room.of (by omega) (by decide)) (Nat.le_of_ble_eq_true rfl) (C_X9_named ((1 + x1)) 1 99 σ _ (ps_bdE hK)) ?_
            intro v16 σ17 hT
            clear hK
            have hK := hT
            clear hT
            refine pm_ist4 d_X9_readHost_72 rfl (by decide) ?_
            refine pm_ald d_X9_readHost_74 rfl ?_
            refine ps_getI d_X9_readHost_75 at_327 f_8_0_12 rfl ?_
            refine ps_topI (fun v18 ev18 => ?_)
            replace hK := ps_ltE ev18 hK
            refine pm_if_ne d_X9_readHost_78 (fun c19 => ?_) (fun c19 => ?_)
            · replace hK := ps_ifF c19 hK
              refine pm_inc1 d_X9_readHost_92 rfl ?_
              obtain ⟨v20, ev20⟩ : ∃ y : Int32, y = x1 + 1 := ⟨_, rfl⟩
              rw [← ev20]
              replace hK := ps_ltE ev20 hK
              refine pm_goto d_X9_readHost_95 ?_
              refine pm_wk (ls' := [some (.ref (g.2.2.1 + 327)), some (.int v20), none, none, none]) ⟨rfl, ⟨rfl, trivial⟩⟩ ?_
              exact ih _ _ hK
            · replace hK := ps_ifT c19 hK
              refine pm_ald d_X9_readHost_81 rfl ?_
              refine ps_getR (q := 332) d_X9_readHost_82 at_327 f_8_0_5 rfl ?_
              refine pm_ki d_X9_readHost_85 ?_
              refine pm_ild d_X9_readHost_87 rfl ?_
              refine pm_iadd d_X9_readHost_88 ?_
              refine pm_ild d_X9_readHost_89 rfl ?_
              obtain ⟨b23, hT⟩ := ps_gd hK
              replace hK := hT
              clear hT
              refine ps_iast d_X9_readHost_91 at_332 a_8_5 (ps_in_of b23) ?_
              refine ps_nmS (fun σ21 eσ21 => ?_)
              replace hK := ps_ltE eσ21 hK
              refine pm_inc1 d_X9_readHost_92 rfl ?_
              obtain ⟨v22, ev22⟩ : ∃ y : Int32, y = x1 + 1 := ⟨_, rfl⟩
              rw [← ev22]
              replace hK := ps_ltE ev22 hK
              refine pm_goto d_X9_readHost_95 ?_
              refine pm_wk (ls' := [some (.ref (g.2.2.1 + 327)), some (.int v22), none, none, none]) ⟨rfl, ⟨rfl, trivial⟩⟩ ?_
              exact ih _ _ hK
        · replace hK := ps_ifT c6 hK
          refine pm_ald d_X9_readHost_37 rfl ?_
          refine ps_getR (q := 332) d_X9_readHost_38 at_327 f_8_0_5 rfl ?_
          refine pm_ki d_X9_readHost_41 ?_
          refine ps_iald (x := σ.1 332 10) d_X9_readHost_43 at_332 a_8_5 (ps_in_of rfl) rfl ?_
          refine ps_topI (fun v24 ev24 => ?_)
          replace hK := ps_ltE ev24 hK
          refine pm_ki d_X9_readHost_44 ?_
          refine pm_isub d_X9_readHost_45 ?_
          refine pm_goto d_X9_readHost_46 ?_
          refine ps_topI (fun v25 ev25 => ?_)
          replace hK := ps_ltE ev25 hK
          refine pm_ist3 d_X9_readHost_62 rfl (by decide) ?_
          refine pm_ald d_X9_readHost_63 rfl ?_
          refine pm_ki d_X9_readHost_64 ?_
          refine pm_ild d_X9_readHost_65 rfl ?_
          refine pm_iadd d_X9_readHost_66 ?_
          refine pm_ild d_X9_readHost_67 rfl ?_
          refine pm_ild d_X9_readHost_68 rfl ?_
          refine ps_cVI d_X9_readHost_69 mv_X9_named at_327 ob_8_0 rfl (As := [.int (1 + x1), .int 1, .int v25]) rfl rfl (ps_room.of (by omega) (by decide)) (Nat.le_of_ble_eq_true rfl) (C_X9_named ((1 + x1)) 1 v25 σ _ (ps_bdE hK)) ?_
          intro v26 σ27 hT
          clear hK
          have hK := hT
          clear hT
          refine pm_ist4 d_X9_readHost_72 rfl (by decide) ?_
          refine pm_ald d_X9_readHost_74 rfl ?_
          refine ps_getI d_X9_readHost_75 at_327 f_8_0_12 rfl ?_
          refine ps_topI (fun v28 ev28 => ?_)
          replace hK := ps_ltE ev28 hK
          refine pm_if_ne d_X9_readHost_78 (fun c29 => ?_) (fun c29 => ?_)
          · replace hK := ps_ifF c29 hK
            refine pm_inc1 d_X9_readHost_92 rfl ?_
            obtain ⟨v30, ev30⟩ : ∃ y : Int32, y = x1 + 1 := ⟨_, rfl⟩
            rw [← ev30]
            replace hK := ps_ltE ev30 hK
            refine pm_goto d_X9_readHost_95 ?_
            refine pm_wk (ls' := [some (.ref (g.2.2.1 + 327)), some (.int v30), none, none, none]) ⟨rfl, ⟨rfl, trivial⟩⟩ ?_
            exact ih _ _ hK
          · replace hK := ps_ifT c29 hK
            refine pm_ald d_X9_readHost_81 rfl ?_
            refine ps_getR (q := 332) d_X9_readHost_82 at_327 f_8_0_5 rfl ?_
            refine pm_ki d_X9_readHost_85 ?_
            refine pm_ild d_X9_readHost_87 rfl ?_
            refine pm_iadd d_X9_readHost_88 ?_
            refine pm_ild d_X9_readHost_89 rfl ?_
            obtain ⟨b33, hT⟩ := ps_gd hK
            replace hK := hT
            clear hT
            refine ps_iast d_X9_readHost_91 at_332 a_8_5 (ps_in_of b33) ?_
            refine ps_nmS (fun σ31 eσ31 => ?_)
            replace hK := ps_ltE eσ31 hK
            refine pm_inc1 d_X9_readHost_92 rfl ?_
            obtain ⟨v32, ev32⟩ : ∃ y : Int32, y = x1 + 1 := ⟨_, rfl⟩
            rw [← ev32]
            replace hK := ps_ltE ev32 hK
            refine pm_goto d_X9_readHost_95 ?_
            refine pm_wk (ls' := [some (.ref (g.2.2.1 + 327)), some (.int v32), none, none, none]) ⟨rfl, ⟨rfl, trivial⟩⟩ ?_
            exact ih _ _ hK
      · replace hK := ps_ifT c5 hK
        refine pm_ki d_X9_readHost_26 ?_
        refine pm_goto d_X9_readHost_27 ?_
        refine pm_ist2 d_X9_readHost_31 rfl (by decide) ?_
        refine pm_ild d_X9_readHost_32 rfl ?_
        refine pm_ki d_X9_readHost_33 ?_
        refine pm_icmp_ne d_X9_readHost_34 (fun c34 => ?_) (fun c34 => ?_)
        · replace hK := ps_ifF c34 hK
          refine pm_ild d_X9_readHost_49 rfl ?_
          refine pm_ki d_X9_readHost_50 ?_
          refine pm_icmp_le d_X9_readHost_51 (fun c35 => ?_) (fun c35 => ?_)
          · replace hK := ps_ifT c35 hK
            refine pm_ki d_X9_readHost_59 ?_
            refine pm_ist3 d_X9_readHost_62 rfl (by decide) ?_
            refine pm_ald d_X9_readHost_63 rfl ?_
            refine pm_ki d_X9_readHost_64 ?_
            refine pm_ild d_X9_readHost_65 rfl ?_
            refine pm_iadd d_X9_readHost_66 ?_
            refine pm_ild d_X9_readHost_67 rfl ?_
            refine pm_ild d_X9_readHost_68 rfl ?_
            refine ps_cVI d_X9_readHost_69 mv_X9_named at_327 ob_8_0 rfl (As := [.int (1 + x1), .int 0, .int 999]) rfl rfl (ps_room.of (by omega) (by decide)) (Nat.le_of_ble_eq_true rfl) (C_X9_named ((1 + x1)) 0 999 σ _ (ps_bdE hK)) ?_
            intro v36 σ37 hT
            clear hK
            have hK := hT
            clear hT
            refine pm_ist4 d_X9_readHost_72 rfl (by decide) ?_
            refine pm_ald d_X9_readHost_74 rfl ?_
            refine ps_getI d_X9_readHost_75 at_327 f_8_0_12 rfl ?_
            refine ps_topI (fun v38 ev38 => ?_)
            replace hK := ps_ltE ev38 hK
            refine pm_if_ne d_X9_readHost_78 (fun c39 => ?_) (fun c39 => ?_)
            · replace hK := ps_ifF c39 hK
              refine pm_inc1 d_X9_readHost_92 rfl ?_
              obtain ⟨v40, ev40⟩ : ∃ y : Int32, y = x1 + 1 := ⟨_, rfl⟩
              rw [← ev40]
              replace hK := ps_ltE ev40 hK
              refine pm_goto d_X9_readHost_95 ?_
              refine pm_wk (ls' := [some (.ref (g.2.2.1 + 327)), some (.int v40), none, none, none]) ⟨rfl, ⟨rfl, trivial⟩⟩ ?_
              exact ih _ _ hK
            · replace hK := ps_ifT c39 hK
              refine pm_ald d_X9_readHost_81 rfl ?_
              refine ps_getR (q := 332) d_X9_readHost_82 at_327 f_8_0_5 rfl ?_
              refine pm_ki d_X9_readHost_85 ?_
              refine pm_ild d_X9_readHost_87 rfl ?_
              refine pm_iadd d_X9_readHost_88 ?_
              refine pm_ild d_X9_readHost_89 rfl ?_
              obtain ⟨b43, hT⟩ := ps_gd hK
              replace hK := hT
              clear hT
              refine ps_iast d_X9_readHost_91 at_332 a_8_5 (ps_in_of b43) ?_
              refine ps_nmS (fun σ41 eσ41 => ?_)
              replace hK := ps_ltE eσ41 hK
              refine pm_inc1 d_X9_readHost_92 rfl ?_
              obtain ⟨v42, ev42⟩ : ∃ y : Int32, y = x1 + 1 := ⟨_, rfl⟩
              rw [← ev42]
              replace hK := ps_ltE ev42 hK
              refine pm_goto d_X9_readHost_95 ?_
              refine pm_wk (ls' := [some (.ref (g.2.2.1 + 327)), some (.int v42), none, none, none]) ⟨rfl, ⟨rfl, trivial⟩⟩ ?_
              exact ih _ _ hK
          · replace hK := ps_ifF c35 hK
            refine pm_ki d_X9_readHost_54 ?_
            refine pm_goto d_X9_readHost_56 ?_
            refine pm_ist3 d_X9_readHost_62 rfl (by decide) ?_
            refine pm_ald d_X9_readHost_63 rfl ?_
            refine pm_ki d_X9_readHost_64 ?_
            refine pm_ild d_X9_readHost_65 rfl ?_
            refine pm_iadd d_X9_readHost_66 ?_
            refine pm_ild d_X9_readHost_67 rfl ?_
            refine pm_ild d_X9_readHost_68 rfl ?_
            refine ps_cVI d_X9_readHost_69 mv_X9_named at_327 ob_8_0 rfl (As := [.int (1 + x1), .int 0, .int 99]) rfl rfl (ps_room.of (by omega) (by decide)) (Nat.le_of_ble_eq_true rfl) (C_X9_named ((1 + x1)) 0 99 σ _ (ps_bdE hK)) ?_
            intro v44 σ45 hT
            clear hK
            have hK := hT
            clear hT
            refine pm_ist4 d_X9_readHost_72 rfl (by decide) ?_
            refine pm_ald d_X9_readHost_74 rfl ?_
            refine ps_getI d_X9_readHost_75 at_327 f_8_0_12 rfl ?_
            refine ps_topI (fun v46 ev46 => ?_)
            replace hK := ps_ltE ev46 hK
            refine pm_if_ne d_X9_readHost_78 (fun c47 => ?_) (fun c47 => ?_)
            · replace hK := ps_ifF c47 hK
              refine pm_inc1 d_X9_readHost_92 rfl ?_
              obtain ⟨v48, ev48⟩ : ∃ y : Int32, y = x1 + 1 := ⟨_, rfl⟩
              rw [← ev48]
              replace hK := ps_ltE ev48 hK
              refine pm_goto d_X9_readHost_95 ?_
              refine pm_wk (ls' := [some (.ref (g.2.2.1 + 327)), some (.int v48), none, none, none]) ⟨rfl, ⟨rfl, trivial⟩⟩ ?_
              exact ih _ _ hK
            · replace hK := ps_ifT c47 hK
              refine pm_ald d_X9_readHost_81 rfl ?_
              refine ps_getR (q := 332) d_X9_readHost_82 at_327 f_8_0_5 rfl ?_
              refine pm_ki d_X9_readHost_85 ?_
              refine pm_ild d_X9_readHost_87 rfl ?_
              refine pm_iadd d_X9_readHost_88 ?_
              refine pm_ild d_X9_readHost_89 rfl ?_
              obtain ⟨b51, hT⟩ := ps_gd hK
              replace hK := hT
              clear hT
              refine ps_iast d_X9_readHost_91 at_332 a_8_5 (ps_in_of b51) ?_
              refine ps_nmS (fun σ49 eσ49 => ?_)
              replace hK := ps_ltE eσ49 hK
              refine pm_inc1 d_X9_readHost_92 rfl ?_
              obtain ⟨v50, ev50⟩ : ∃ y : Int32, y = x1 + 1 := ⟨_, rfl⟩
              rw [← ev50]
              replace hK := ps_ltE ev50 hK
              refine pm_goto d_X9_readHost_95 ?_
              refine pm_wk (ls' := [some (.ref (g.2.2.1 + 327)), some (.int v50), none, none, none]) ⟨rfl, ⟨rfl, trivial⟩⟩ ?_
              exact ih _ _ hK
        · replace hK := ps_ifT c34 hK
          refine pm_ald d_X9_readHost_37 rfl ?_
          refine ps_getR (q := 332) d_X9_readHost_38 at_327 f_8_0_5 rfl ?_
          refine pm_ki d_X9_readHost_41 ?_
          refine ps_iald (x := σ.1 332 10) d_X9_readHost_43 at_332 a_8_5 (ps_in_of rfl) rfl ?_
          refine ps_topI (fun v52 ev52 => ?_)
          replace hK := ps_ltE ev52 hK
          refine pm_ki d_X9_readHost_44 ?_
          refine pm_isub d_X9_readHost_45 ?_
          refine pm_goto d_X9_readHost_46 ?_
          refine ps_topI (fun v53 ev53 => ?_)
          replace hK := ps_ltE ev53 hK
          refine pm_ist3 d_X9_readHost_62 rfl (by decide) ?_
          refine pm_ald d_X9_readHost_63 rfl ?_
          refine pm_ki d_X9_readHost_64 ?_
          refine pm_ild d_X9_readHost_65 rfl ?_
          refine pm_iadd d_X9_readHost_66 ?_
          refine pm_ild d_X9_readHost_67 rfl ?_
          refine pm_ild d_X9_readHost_68 rfl ?_
          refine ps_cVI d_X9_readHost_69 mv_X9_named at_327 ob_8_0 rfl (As := [.int (1 + x1), .int 0, .int v53]) rfl rfl (ps_room.of (by omega) (by decide)) (Nat.le_of_ble_eq_true rfl) (C_X9_named ((1 + x1)) 0 v53 σ _ (ps_bdE hK)) ?_
          intro v54 σ55 hT
          clear hK
          have hK := hT
          clear hT
          refine pm_ist4 d_X9_readHost_72 rfl (by decide) ?_
          refine pm_ald d_X9_readHost_74 rfl ?_
          refine ps_getI d_X9_readHost_75 at_327 f_8_0_12 rfl ?_
          refine ps_topI (fun v56 ev56 => ?_)
          replace hK := ps_ltE ev56 hK
          refine pm_if_ne d_X9_readHost_78 (fun c57 => ?_) (fun c57 => ?_)
          · replace hK := ps_ifF c57 hK
            refine pm_inc1 d_X9_readHost_92 rfl ?_
            obtain ⟨v58, ev58⟩ : ∃ y : Int32, y = x1 + 1 := ⟨_, rfl⟩
            rw [← ev58]
            replace hK := ps_ltE ev58 hK
            refine pm_goto d_X9_readHost_95 ?_
            refine pm_wk (ls' := [some (.ref (g.2.2.1 + 327)), some (.int v58), none, none, none]) ⟨rfl, ⟨rfl, trivial⟩⟩ ?_
            exact ih _ _ hK
          · replace hK := ps_ifT c57 hK
            refine pm_ald d_X9_readHost_81 rfl ?_
            refine ps_getR (q := 332) d_X9_readHost_82 at_327 f_8_0_5 rfl ?_
            refine pm_ki d_X9_readHost_85 ?_
            refine pm_ild d_X9_readHost_87 rfl ?_
            refine pm_iadd d_X9_readHost_88 ?_
            refine pm_ild d_X9_readHost_89 rfl ?_
            obtain ⟨b61, hT⟩ := ps_gd hK
            replace hK := hT
            clear hT
            refine ps_iast d_X9_readHost_91 at_332 a_8_5 (ps_in_of b61) ?_
            refine ps_nmS (fun σ59 eσ59 => ?_)
            replace hK := ps_ltE eσ59 hK
            refine pm_inc1 d_X9_readHost_92 rfl ?_
            obtain ⟨v60, ev60⟩ : ∃ y : Int32, y = x1 + 1 := ⟨_, rfl⟩
            rw [← ev60]
            replace hK := ps_ltE ev60 hK
            refine pm_goto d_X9_readHost_95 ?_
            refine pm_wk (ls' := [some (.ref (g.2.2.1 + 327)), some (.int v60), none, none, none]) ⟨rfl, ⟨rfl, trivial⟩⟩ ?_
            exact ih _ _ hK
def qX9_readHost  (σ : ps_S) : Option (Unit × ps_S) :=
  ps_bd (qX9_eats 0 σ) (fun v1 σ2 =>
  if v1 = 0 then
  ps_bd (qX9_fails 2 σ2) (fun _ σ65 =>
  ps_bd (qX9_readHost_15 ps_N 0 σ65) (fun res σ66 => match res with
  | v67 =>
    some ((), σ66)))
  else
  ps_bd (qX9_readHost_15 ps_N 0 σ2) (fun res σ62 => match res with
  | v63 =>
    some ((), σ62)))
set_option maxRecDepth 100000 in
theorem C_X9_readHost {g : pm_G}  (σ : ps_S) (P : Unit → ps_S → Prop) (hK : ps_ok (qX9_readHost  σ) P) : ps_C g mX9_readHost 9 [.ref (g.2.2.1 + 327)] σ (ps_qV P) := by
  unfold qX9_readHost at hK
  refine ps_C.of (ls := [some (.ref (g.2.2.1 + 327)), none, none, none, none]) 4 (by decide) rfl (Nat.le_of_ble_eq_true rfl) rfl ?_
  refine pm_ald d_X9_readHost_0 rfl ?_
  refine pm_ki d_X9_readHost_1 ?_
  refine ps_cVI d_X9_readHost_2 mv_X9_eats at_327 ob_8_0 rfl (As := [.int 0]) rfl rfl (ps_room.of (by omega) (by decide)) (Nat.le_of_ble_eq_true rfl) (C_X9_eats 0 σ _ (ps_bdE hK)) ?_
  intro v1 σ2 hT
  clear hK
  have hK := hT
  clear hT
  refine pm_if_ne d_X9_readHost_5 (fun c3 => ?_) (fun c3 => ?_)
  · replace hK := ps_ifF c3 hK
    refine pm_ki d_X9_readHost_13 ?_
    refine pm_ist1 d_X9_readHost_14 rfl (by decide) ?_
    refine L_X9_readHost_15 _ (by decide) _ _ _ (ps_ok.mono (ps_bdE hK) ?_)
    rintro v63 σ62 hT
    clear hK
    have hK := hT
    clear hT
    have hQ := ps_so hK
    exact ps_vret rfl d_X9_readHost_98 ⟨rfl, hQ⟩
  · replace hK := ps_ifT c3 hK
    refine pm_ald d_X9_readHost_8 rfl ?_
    refine pm_ki d_X9_readHost_9 ?_
    refine ps_cVV d_X9_readHost_10 mv_X9_fails at_327 ob_8_0 rfl (As := [.int 2]) rfl rfl (ps_room.of (by omega) (by decide)) (Nat.le_of_ble_eq_true rfl) (C_X9_fails 2 σ2 _ (ps_bdE hK)) ?_
    intro σ65 hT
    clear hK
    have hK := hT
    clear hT
    refine pm_ki d_X9_readHost_13 ?_
    refine pm_ist1 d_X9_readHost_14 rfl (by decide) ?_
    refine L_X9_readHost_15 _ (by decide) _ _ _ (ps_ok.mono (ps_bdE hK) ?_)
    rintro v67 σ66 hT
    clear hK
    have hK := hT
    clear hT
    have hQ := ps_so hK
    exact ps_vret rfl d_X9_readHost_98 ⟨rfl, hQ⟩
def qX9_readDevice  (σ : ps_S) : Option (Unit × ps_S) :=
  ps_let (σ.1 332 1) fun v1 =>
  if v1 = 4 then
  ps_bd (qX9_fails 4 σ) (fun _ σ16 =>
  ps_let (σ16.1 327 12) fun v17 =>
  if v17 = 0 then
  ps_bd (qX9_steps σ16) (fun _ σ20 =>
  ps_bd (qX9_named 9 0 999 σ20) (fun v21 σ22 =>
  if ps_in ((60 + v1)) 1850 = true then
  ps_let (ps_rI σ22 332 (upd (σ22.1 332) ((60 + v1)).toNatClampNeg v21)) fun σ23 =>
  ps_let (σ23.1 327 12) fun v24 =>
  if v24 = 0 then
  ps_let (σ23.1 332 1) fun v26 =>
  ps_let (ps_rI σ23 332 (upd (σ23.1 332) 1 ((v26 + 1)))) fun σ27 =>
  some ((), σ27)
  else
  some ((), σ23)
  else none))
  else
  some ((), σ16))
  else
  ps_let (σ.1 327 12) fun v3 =>
  if v3 = 0 then
  ps_bd (qX9_steps σ) (fun _ σ6 =>
  ps_bd (qX9_named 9 0 999 σ6) (fun v7 σ8 =>
  if ps_in ((60 + v1)) 1850 = true then
  ps_let (ps_rI σ8 332 (upd (σ8.1 332) ((60 + v1)).toNatClampNeg v7)) fun σ9 =>
  ps_let (σ9.1 327 12) fun v10 =>
  if v10 = 0 then
  ps_let (σ9.1 332 1) fun v12 =>
  ps_let (ps_rI σ9 332 (upd (σ9.1 332) 1 ((v12 + 1)))) fun σ13 =>
  some ((), σ13)
  else
  some ((), σ9)
  else none))
  else
  some ((), σ)
set_option maxRecDepth 100000 in
theorem C_X9_readDevice {g : pm_G}  (σ : ps_S) (P : Unit → ps_S → Prop) (hK : ps_ok (qX9_readDevice  σ) P) : ps_C g mX9_readDevice 9 [.ref (g.2.2.1 + 327)] σ (ps_qV P) := by
  unfold qX9_readDevice at hK
  refine ps_C.of (ls := [some (.ref (g.2.2.1 + 327)), none]) 1 (by decide) rfl (Nat.le_of_ble_eq_true rfl) rfl ?_
  refine pm_ald d_X9_readDevice_0 rfl ?_
  refine ps_getR (q := 332) d_X9_readDevice_1 at_327 f_8_0_5 rfl ?_
  refine pm_ki d_X9_readDevice_4 ?_
  refine ps_iald (x := σ.1 332 1) d_X9_readDevice_5 at_332 a_8_5 (ps_in_of rfl) rfl ?_
  refine ps_topI (fun v1 ev1 => ?_)
  replace hK := ps_ltE ev1 hK
  refine pm_ist1 d_X9_readDevice_6 rfl (by decide) ?_
  refine pm_ild d_X9_readDevice_7 rfl ?_
  refine pm_ki d_X9_readDevice_8 ?_
  refine pm_icmp_ne d_X9_readDevice_9 (fun c2 => ?_) (fun c2 => ?_)
  · replace hK := ps_ifF c2 hK
    refine pm_ald d_X9_readDevice_17 rfl ?_
    refine ps_getI d_X9_readDevice_18 at_327 f_8_0_12 rfl ?_
    refine ps_topI (fun v3 ev3 => ?_)
    replace hK := ps_ltE ev3 hK
    refine pm_if_eq d_X9_readDevice_21 (fun c4 => ?_) (fun c4 => ?_)
    · replace hK := ps_ifT c4 hK
      refine pm_ald d_X9_readDevice_25 rfl ?_
      refine ps_cVV d_X9_readDevice_26 mv_X9_steps at_327 ob_8_0 rfl (As := []) rfl rfl (ps_room.of (by omega) (by decide)) (Nat.le_of_ble_eq_true rfl) (C_X9_steps σ _ (ps_bdE hK)) ?_
      intro σ6 hT
      clear hK
      have hK := hT
      clear hT
      refine pm_ald d_X9_readDevice_29 rfl ?_
      refine ps_getR (q := 332) d_X9_readDevice_30 at_327 f_8_0_5 rfl ?_
      refine pm_ki d_X9_readDevice_33 ?_
      refine pm_ild d_X9_readDevice_35 rfl ?_
      refine pm_iadd d_X9_readDevice_36 ?_
      refine pm_ald d_X9_readDevice_37 rfl ?_
      refine pm_ki d_X9_readDevice_38 ?_
      refine pm_ki d_X9_readDevice_40 ?_
      refine pm_ki d_X9_readDevice_41 ?_
      refine ps_cVI d_X9_readDevice_44 mv_X9_named at_327 ob_8_0 rfl (As := [.int 9, .int 0, .int 999]) rfl rfl (ps_room.of (by omega) (by decide)) (Nat.le_of_ble_eq_true rfl) (C_X9_named 9 0 999 σ6 _ (ps_bdE hK)) ?_
      intro v7 σ8 hT
      clear hK
      have hK := hT
      clear hT
      obtain ⟨b14, hT⟩ := ps_gd hK
      replace hK := hT
      clear hT
      refine ps_iast d_X9_readDevice_47 at_332 a_8_5 (ps_in_of b14) ?_
      refine ps_nmS (fun σ9 eσ9 => ?_)
      replace hK := ps_ltE eσ9 hK
      refine pm_ald d_X9_readDevice_48 rfl ?_
      refine ps_getI d_X9_readDevice_49 at_327 f_8_0_12 rfl ?_
      refine ps_topI (fun v10 ev10 => ?_)
      replace hK := ps_ltE ev10 hK
      refine pm_if_ne d_X9_readDevice_52 (fun c11 => ?_) (fun c11 => ?_)
      · replace hK := ps_ifF c11 hK
        have hQ := ps_so hK
        exact ps_vret rfl d_X9_readDevice_65 ⟨rfl, hQ⟩
      · replace hK := ps_ifT c11 hK
        refine pm_ald d_X9_readDevice_55 rfl ?_
        refine ps_getR (q := 332) d_X9_readDevice_56 at_327 f_8_0_5 rfl ?_
        refine pm_ki d_X9_readDevice_59 ?_
        refine pm_dup2 d_X9_readDevice_60 rfl rfl ?_
        refine ps_iald (x := σ9.1 332 1) d_X9_readDevice_61 at_332 a_8_5 (ps_in_of rfl) rfl ?_
        refine ps_topI (fun v12 ev12 => ?_)
        replace hK := ps_ltE ev12 hK
        refine pm_ki d_X9_readDevice_62 ?_
        refine pm_iadd d_X9_readDevice_63 ?_
        refine ps_iast d_X9_readDevice_64 at_332 a_8_5 (ps_in_of rfl) ?_
        refine ps_nmS (fun σ13 eσ13 => ?_)
        replace hK := ps_ltE eσ13 hK
        have hQ := ps_so hK
        exact ps_vret rfl d_X9_readDevice_65 ⟨rfl, hQ⟩
    · replace hK := ps_ifF c4 hK
      have hQ := ps_so hK
      exact ps_vret rfl d_X9_readDevice_24 ⟨rfl, hQ⟩
  · replace hK := ps_ifT c2 hK
    refine pm_ald d_X9_readDevice_12 rfl ?_
    refine pm_ki d_X9_readDevice_13 ?_
    refine ps_cVV d_X9_readDevice_14 mv_X9_fails at_327 ob_8_0 rfl (As := [.int 4]) rfl rfl (ps_room.of (by omega) (by decide)) (Nat.le_of_ble_eq_true rfl) (C_X9_fails 4 σ _ (ps_bdE hK)) ?_
    intro σ16 hT
    clear hK
    have hK := hT
    clear hT
    refine pm_ald d_X9_readDevice_17 rfl ?_
    refine ps_getI d_X9_readDevice_18 at_327 f_8_0_12 rfl ?_
    refine ps_topI (fun v17 ev17 => ?_)
    replace hK := ps_ltE ev17 hK
    refine pm_if_eq d_X9_readDevice_21 (fun c18 => ?_) (fun c18 => ?_)
    · replace hK := ps_ifT c18 hK
      refine pm_ald d_X9_readDevice_25 rfl ?_
      refine ps_cVV d_X9_readDevice_26 mv_X9_steps at_327 ob_8_0 rfl (As := []) rfl rfl (ps_room.of (by omega) (by decide)) (Nat.le_of_ble_eq_true rfl) (C_X9_steps σ16 _ (ps_bdE hK)) ?_
      intro σ20 hT
      clear hK
      have hK := hT
      clear hT
      refine pm_ald d_X9_readDevice_29 rfl ?_
      refine ps_getR (q := 332) d_X9_readDevice_30 at_327 f_8_0_5 rfl ?_
      refine pm_ki d_X9_readDevice_33 ?_
      refine pm_ild d_X9_readDevice_35 rfl ?_
      refine pm_iadd d_X9_readDevice_36 ?_
      refine pm_ald d_X9_readDevice_37 rfl ?_
      refine pm_ki d_X9_readDevice_38 ?_
      refine pm_ki d_X9_readDevice_40 ?_
      refine pm_ki d_X9_readDevice_41 ?_
      refine ps_cVI d_X9_readDevice_44 mv_X9_named at_327 ob_8_0 rfl (As := [.int 9, .int 0, .int 999]) rfl rfl (ps_room.of (by omega) (by decide)) (Nat.le_of_ble_eq_true rfl) (C_X9_named 9 0 999 σ20 _ (ps_bdE hK)) ?_
      intro v21 σ22 hT
      clear hK
      have hK := hT
      clear hT
      obtain ⟨b28, hT⟩ := ps_gd hK
      replace hK := hT
      clear hT
      refine ps_iast d_X9_readDevice_47 at_332 a_8_5 (ps_in_of b28) ?_
      refine ps_nmS (fun σ23 eσ23 => ?_)
      replace hK := ps_ltE eσ23 hK
      refine pm_ald d_X9_readDevice_48 rfl ?_
      refine ps_getI d_X9_readDevice_49 at_327 f_8_0_12 rfl ?_
      refine ps_topI (fun v24 ev24 => ?_)
      replace hK := ps_ltE ev24 hK
      refine pm_if_ne d_X9_readDevice_52 (fun c25 => ?_) (fun c25 => ?_)
      · replace hK := ps_ifF c25 hK
        have hQ := ps_so hK
        exact ps_vret rfl d_X9_readDevice_65 ⟨rfl, hQ⟩
      · replace hK := ps_ifT c25 hK
        refine pm_ald d_X9_readDevice_55 rfl ?_
        refine ps_getR (q := 332) d_X9_readDevice_56 at_327 f_8_0_5 rfl ?_
        refine pm_ki d_X9_readDevice_59 ?_
        refine pm_dup2 d_X9_readDevice_60 rfl rfl ?_
        refine ps_iald (x := σ23.1 332 1) d_X9_readDevice_61 at_332 a_8_5 (ps_in_of rfl) rfl ?_
        refine ps_topI (fun v26 ev26 => ?_)
        replace hK := ps_ltE ev26 hK
        refine pm_ki d_X9_readDevice_62 ?_
        refine pm_iadd d_X9_readDevice_63 ?_
        refine ps_iast d_X9_readDevice_64 at_332 a_8_5 (ps_in_of rfl) ?_
        refine ps_nmS (fun σ27 eσ27 => ?_)
        replace hK := ps_ltE eσ27 hK
        have hQ := ps_so hK
        exact ps_vret rfl d_X9_readDevice_65 ⟨rfl, hQ⟩
    · replace hK := ps_ifF c18 hK
      have hQ := ps_so hK
      exact ps_vret rfl d_X9_readDevice_24 ⟨rfl, hQ⟩
def qX9_readFile  (σ : ps_S) : Option (Unit × ps_S) :=
  ps_let (σ.1 332 2) fun v1 =>
  if v1 = 12 then
  ps_bd (qX9_fails 4 σ) (fun _ σ17 =>
  ps_let (σ17.1 327 12) fun v18 =>
  if v18 = 0 then
  ps_bd (qX9_steps σ17) (fun _ σ21 =>
  ps_let (σ21.1 332 1) fun v22 =>
  ps_bd (qX9_named 11 0 ((v22 - 1)) σ21) (fun v23 σ24 =>
  if ps_in ((17 + v1)) 1850 = true then
  ps_let (ps_rI σ24 332 (upd (σ24.1 332) ((17 + v1)).toNatClampNeg v23)) fun σ25 =>
  ps_let (σ25.1 327 12) fun v26 =>
  if v26 = 0 then
  ps_let (σ25.1 332 2) fun v28 =>
  ps_let (ps_rI σ25 332 (upd (σ25.1 332) 2 ((v28 + 1)))) fun σ29 =>
  some ((), σ29)
  else
  some ((), σ25)
  else none))
  else
  some ((), σ17))
  else
  ps_let (σ.1 327 12) fun v3 =>
  if v3 = 0 then
  ps_bd (qX9_steps σ) (fun _ σ6 =>
  ps_let (σ6.1 332 1) fun v7 =>
  ps_bd (qX9_named 11 0 ((v7 - 1)) σ6) (fun v8 σ9 =>
  if ps_in ((17 + v1)) 1850 = true then
  ps_let (ps_rI σ9 332 (upd (σ9.1 332) ((17 + v1)).toNatClampNeg v8)) fun σ10 =>
  ps_let (σ10.1 327 12) fun v11 =>
  if v11 = 0 then
  ps_let (σ10.1 332 2) fun v13 =>
  ps_let (ps_rI σ10 332 (upd (σ10.1 332) 2 ((v13 + 1)))) fun σ14 =>
  some ((), σ14)
  else
  some ((), σ10)
  else none))
  else
  some ((), σ)
set_option maxRecDepth 100000 in
theorem C_X9_readFile {g : pm_G}  (σ : ps_S) (P : Unit → ps_S → Prop) (hK : ps_ok (qX9_readFile  σ) P) : ps_C g mX9_readFile 9 [.ref (g.2.2.1 + 327)] σ (ps_qV P) := by
  unfold qX9_readFile at hK
  refine ps_C.of (ls := [some (.ref (g.2.2.1 + 327)), none]) 1 (by decide) rfl (Nat.le_of_ble_eq_true rfl) rfl ?_
  refine pm_ald d_X9_readFile_0 rfl ?_
  refine ps_getR (q := 332) d_X9_readFile_1 at_327 f_8_0_5 rfl ?_
  refine pm_ki d_X9_readFile_4 ?_
  refine ps_iald (x := σ.1 332 2) d_X9_readFile_5 at_332 a_8_5 (ps_in_of rfl) rfl ?_
  refine ps_topI (fun v1 ev1 => ?_)
  replace hK := ps_ltE ev1 hK
  refine pm_ist1 d_X9_readFile_6 rfl (by decide) ?_
  refine pm_ild d_X9_readFile_7 rfl ?_
  refine pm_ki d_X9_readFile_8 ?_
  refine pm_icmp_ne d_X9_readFile_10 (fun c2 => ?_) (fun c2 => ?_)
  · replace hK := ps_ifF c2 hK
    refine pm_ald d_X9_readFile_18 rfl ?_
    refine ps_getI d_X9_readFile_19 at_327 f_8_0_12 rfl ?_
    refine ps_topI (fun v3 ev3 => ?_)
    replace hK := ps_ltE ev3 hK
    refine pm_if_eq d_X9_readFile_22 (fun c4 => ?_) (fun c4 => ?_)
    · replace hK := ps_ifT c4 hK
      refine pm_ald d_X9_readFile_26 rfl ?_
      refine ps_cVV d_X9_readFile_27 mv_X9_steps at_327 ob_8_0 rfl (As := []) rfl rfl (ps_room.of (by omega) (by decide)) (Nat.le_of_ble_eq_true rfl) (C_X9_steps σ _ (ps_bdE hK)) ?_
      intro σ6 hT
      clear hK
      have hK := hT
      clear hT
      refine pm_ald d_X9_readFile_30 rfl ?_
      refine ps_getR (q := 332) d_X9_readFile_31 at_327 f_8_0_5 rfl ?_
      refine pm_ki d_X9_readFile_34 ?_
      refine pm_ild d_X9_readFile_36 rfl ?_
      refine pm_iadd d_X9_readFile_37 ?_
      refine pm_ald d_X9_readFile_38 rfl ?_
      refine pm_ki d_X9_readFile_39 ?_
      refine pm_ki d_X9_readFile_41 ?_
      refine pm_ald d_X9_readFile_42 rfl ?_
      refine ps_getR (q := 332) d_X9_readFile_43 at_327 f_8_0_5 rfl ?_
      refine pm_ki d_X9_readFile_46 ?_
      refine ps_iald (x := σ6.1 332 1) d_X9_readFile_47 at_332 a_8_5 (ps_in_of rfl) rfl ?_
      refine ps_topI (fun v7 ev7 => ?_)
      replace hK := ps_ltE ev7 hK
      refine pm_ki d_X9_readFile_48 ?_
      refine pm_isub d_X9_readFile_49 ?_
      refine ps_cVI d_X9_readFile_50 mv_X9_named at_327 ob_8_0 rfl (As := [.int 11, .int 0, .int (v7 - 1)]) rfl rfl (ps_room.of (by omega) (by decide)) (Nat.le_of_ble_eq_true rfl) (C_X9_named 11 0 ((v7 - 1)) σ6 _ (ps_bdE hK)) ?_
      intro v8 σ9 hT
      clear hK
      have hK := hT
      clear hT
      obtain ⟨b15, hT⟩ := ps_gd hK
      replace hK := hT
      clear hT
      refine ps_iast d_X9_readFile_53 at_332 a_8_5 (ps_in_of b15) ?_
      refine ps_nmS (fun σ10 eσ10 => ?_)
      replace hK := ps_ltE eσ10 hK
      refine pm_ald d_X9_readFile_54 rfl ?_
      refine ps_getI d_X9_readFile_55 at_327 f_8_0_12 rfl ?_
      refine ps_topI (fun v11 ev11 => ?_)
      replace hK := ps_ltE ev11 hK
      refine pm_if_ne d_X9_readFile_58 (fun c12 => ?_) (fun c12 => ?_)
      · replace hK := ps_ifF c12 hK
        have hQ := ps_so hK
        exact ps_vret rfl d_X9_readFile_71 ⟨rfl, hQ⟩
      · replace hK := ps_ifT c12 hK
        refine pm_ald d_X9_readFile_61 rfl ?_
        refine ps_getR (q := 332) d_X9_readFile_62 at_327 f_8_0_5 rfl ?_
        refine pm_ki d_X9_readFile_65 ?_
        refine pm_dup2 d_X9_readFile_66 rfl rfl ?_
        refine ps_iald (x := σ10.1 332 2) d_X9_readFile_67 at_332 a_8_5 (ps_in_of rfl) rfl ?_
        refine ps_topI (fun v13 ev13 => ?_)
        replace hK := ps_ltE ev13 hK
        refine pm_ki d_X9_readFile_68 ?_
        refine pm_iadd d_X9_readFile_69 ?_
        refine ps_iast d_X9_readFile_70 at_332 a_8_5 (ps_in_of rfl) ?_
        refine ps_nmS (fun σ14 eσ14 => ?_)
        replace hK := ps_ltE eσ14 hK
        have hQ := ps_so hK
        exact ps_vret rfl d_X9_readFile_71 ⟨rfl, hQ⟩
    · replace hK := ps_ifF c4 hK
      have hQ := ps_so hK
      exact ps_vret rfl d_X9_readFile_25 ⟨rfl, hQ⟩
  · replace hK := ps_ifT c2 hK
    refine pm_ald d_X9_readFile_13 rfl ?_
    refine pm_ki d_X9_readFile_14 ?_
    refine ps_cVV d_X9_readFile_15 mv_X9_fails at_327 ob_8_0 rfl (As := [.int 4]) rfl rfl (ps_room.of (by omega) (by decide)) (Nat.le_of_ble_eq_true rfl) (C_X9_fails 4 σ _ (ps_bdE hK)) ?_
    intro σ17 hT
    clear hK
    have hK := hT
    clear hT
    refine pm_ald d_X9_readFile_18 rfl ?_
    refine ps_getI d_X9_readFile_19 at_327 f_8_0_12 rfl ?_
    refine ps_topI (fun v18 ev18 => ?_)
    replace hK := ps_ltE ev18 hK
    refine pm_if_eq d_X9_readFile_22 (fun c19 => ?_) (fun c19 => ?_)
    · replace hK := ps_ifT c19 hK
      refine pm_ald d_X9_readFile_26 rfl ?_
      refine ps_cVV d_X9_readFile_27 mv_X9_steps at_327 ob_8_0 rfl (As := []) rfl rfl (ps_room.of (by omega) (by decide)) (Nat.le_of_ble_eq_true rfl) (C_X9_steps σ17 _ (ps_bdE hK)) ?_
      intro σ21 hT
      clear hK
      have hK := hT
      clear hT
      refine pm_ald d_X9_readFile_30 rfl ?_
      refine ps_getR (q := 332) d_X9_readFile_31 at_327 f_8_0_5 rfl ?_
      refine pm_ki d_X9_readFile_34 ?_
      refine pm_ild d_X9_readFile_36 rfl ?_
      refine pm_iadd d_X9_readFile_37 ?_
      refine pm_ald d_X9_readFile_38 rfl ?_
      refine pm_ki d_X9_readFile_39 ?_
      refine pm_ki d_X9_readFile_41 ?_
      refine pm_ald d_X9_readFile_42 rfl ?_
      refine ps_getR (q := 332) d_X9_readFile_43 at_327 f_8_0_5 rfl ?_
      refine pm_ki d_X9_readFile_46 ?_
      refine ps_iald (x := σ21.1 332 1) d_X9_readFile_47 at_332 a_8_5 (ps_in_of rfl) rfl ?_
      refine ps_topI (fun v22 ev22 => ?_)
      replace hK := ps_ltE ev22 hK
      refine pm_ki d_X9_readFile_48 ?_
      refine pm_isub d_X9_readFile_49 ?_
      refine ps_cVI d_X9_readFile_50 mv_X9_named at_327 ob_8_0 rfl (As := [.int 11, .int 0, .int (v22 - 1)]) rfl rfl (ps_room.of (by omega) (by decide)) (Nat.le_of_ble_eq_true rfl) (C_X9_named 11 0 ((v22 - 1)) σ21 _ (ps_bdE hK)) ?_
      intro v23 σ24 hT
      clear hK
      have hK := hT
      clear hT
      obtain ⟨b30, hT⟩ := ps_gd hK
      replace hK := hT
      clear hT
      refine ps_iast d_X9_readFile_53 at_332 a_8_5 (ps_in_of b30) ?_
      refine ps_nmS (fun σ25 eσ25 => ?_)
      replace hK := ps_ltE eσ25 hK
      refine pm_ald d_X9_readFile_54 rfl ?_
      refine ps_getI d_X9_readFile_55 at_327 f_8_0_12 rfl ?_
      refine ps_topI (fun v26 ev26 => ?_)
      replace hK := ps_ltE ev26 hK
      refine pm_if_ne d_X9_readFile_58 (fun c27 => ?_) (fun c27 => ?_)
      · replace hK := ps_ifF c27 hK
        have hQ := ps_so hK
        exact ps_vret rfl d_X9_readFile_71 ⟨rfl, hQ⟩
      · replace hK := ps_ifT c27 hK
        refine pm_ald d_X9_readFile_61 rfl ?_
        refine ps_getR (q := 332) d_X9_readFile_62 at_327 f_8_0_5 rfl ?_
        refine pm_ki d_X9_readFile_65 ?_
        refine pm_dup2 d_X9_readFile_66 rfl rfl ?_
        refine ps_iald (x := σ25.1 332 2) d_X9_readFile_67 at_332 a_8_5 (ps_in_of rfl) rfl ?_
        refine ps_topI (fun v28 ev28 => ?_)
        replace hK := ps_ltE ev28 hK
        refine pm_ki d_X9_readFile_68 ?_
        refine pm_iadd d_X9_readFile_69 ?_
        refine ps_iast d_X9_readFile_70 at_332 a_8_5 (ps_in_of rfl) ?_
        refine ps_nmS (fun σ29 eσ29 => ?_)
        replace hK := ps_ltE eσ29 hK
        have hQ := ps_so hK
        exact ps_vret rfl d_X9_readFile_71 ⟨rfl, hQ⟩
    · replace hK := ps_ifF c19 hK
      have hQ := ps_so hK
      exact ps_vret rfl d_X9_readFile_25 ⟨rfl, hQ⟩
def qX9_codes (p1 : Int32) (σ : ps_S) : Option (Unit × ps_S) :=
  ps_let (σ.1 327 12) fun v1 =>
  if v1 = 0 then
  ps_let (σ.1 332 949) fun v3 =>
  if ps_in ((950 + v3)) 1850 = true then
  ps_let (ps_rI σ 332 (upd (σ.1 332) ((950 + v3)).toNatClampNeg p1)) fun σ4 =>
  ps_let (σ4.1 332 949) fun v5 =>
  ps_let (ps_rI σ4 332 (upd (σ4.1 332) 949 ((v5 + 1)))) fun σ6 =>
  some ((), σ6)
  else none
  else
  some ((), σ)
set_option maxRecDepth 100000 in
theorem C_X9_codes {g : pm_G} (p1 : Int32) (σ : ps_S) (P : Unit → ps_S → Prop) (hK : ps_ok (qX9_codes p1 σ) P) : ps_C g mX9_codes 1 [.ref (g.2.2.1 + 327), .int p1] σ (ps_qV P) := by
  unfold qX9_codes at hK
  refine ps_C.of (ls := [some (.ref (g.2.2.1 + 327)), some (.int p1)]) 0 (by decide) rfl (Nat.le_of_ble_eq_true rfl) rfl ?_
  refine pm_ald d_X9_codes_0 rfl ?_
  refine ps_getI d_X9_codes_1 at_327 f_8_0_12 rfl ?_
  refine ps_topI (fun v1 ev1 => ?_)
  replace hK := ps_ltE ev1 hK
  refine pm_if_eq d_X9_codes_4 (fun c2 => ?_) (fun c2 => ?_)
  · replace hK := ps_ifT c2 hK
    refine pm_ald d_X9_codes_8 rfl ?_
    refine ps_getR (q := 332) d_X9_codes_9 at_327 f_8_0_5 rfl ?_
    refine pm_ki d_X9_codes_12 ?_
    refine pm_ald d_X9_codes_15 rfl ?_
    refine ps_getR (q := 332) d_X9_codes_16 at_327 f_8_0_5 rfl ?_
    refine pm_ki d_X9_codes_19 ?_
    refine ps_iald (x := σ.1 332 949) d_X9_codes_22 at_332 a_8_5 (ps_in_of rfl) rfl ?_
    refine ps_topI (fun v3 ev3 => ?_)
    replace hK := ps_ltE ev3 hK
    refine pm_iadd d_X9_codes_23 ?_
    refine pm_ild d_X9_codes_24 rfl ?_
    obtain ⟨b7, hT⟩ := ps_gd hK
    replace hK := hT
    clear hT
    refine ps_iast d_X9_codes_25 at_332 a_8_5 (ps_in_of b7) ?_
    refine ps_nmS (fun σ4 eσ4 => ?_)
    replace hK := ps_ltE eσ4 hK
    refine pm_ald d_X9_codes_26 rfl ?_
    refine ps_getR (q := 332) d_X9_codes_27 at_327 f_8_0_5 rfl ?_
    refine pm_ki d_X9_codes_30 ?_
    refine pm_dup2 d_X9_codes_33 rfl rfl ?_
    refine ps_iald (x := σ4.1 332 949) d_X9_codes_34 at_332 a_8_5 (ps_in_of rfl) rfl ?_
    refine ps_topI (fun v5 ev5 => ?_)
    replace hK := ps_ltE ev5 hK
    refine pm_ki d_X9_codes_35 ?_
    refine pm_iadd d_X9_codes_36 ?_
    refine ps_iast d_X9_codes_37 at_332 a_8_5 (ps_in_of rfl) ?_
    refine ps_nmS (fun σ6 eσ6 => ?_)
    replace hK := ps_ltE eσ6 hK
    have hQ := ps_so hK
    exact ps_vret rfl d_X9_codes_38 ⟨rfl, hQ⟩
  · replace hK := ps_ifF c2 hK
    have hQ := ps_so hK
    exact ps_vret rfl d_X9_codes_7 ⟨rfl, hQ⟩
def qX9_goesIn (p1 : Int32) (σ : ps_S) : Option (Int32 × ps_S) :=
  if p1 = 6 then
  ps_bd (qX9_fails 4 σ) (fun _ σ11 =>
  ps_let (σ11.1 327 12) fun v12 =>
  if v12 = 0 then
  ps_bd (qX9_steps σ11) (fun _ σ17 =>
  ps_let (σ17.1 327 12) fun v18 =>
  if v18 = 0 then
  some (1, σ17)
  else
  some (0, σ17))
  else
  ps_let (σ11.1 327 12) fun v14 =>
  if v14 = 0 then
  some (1, σ11)
  else
  some (0, σ11))
  else
  ps_let (σ.1 327 12) fun v2 =>
  if v2 = 0 then
  ps_bd (qX9_steps σ) (fun _ σ7 =>
  ps_let (σ7.1 327 12) fun v8 =>
  if v8 = 0 then
  some (1, σ7)
  else
  some (0, σ7))
  else
  ps_let (σ.1 327 12) fun v4 =>
  if v4 = 0 then
  some (1, σ)
  else
  some (0, σ)
set_option maxRecDepth 100000 in
theorem C_X9_goesIn {g : pm_G} (p1 : Int32) (σ : ps_S) (P : Int32 → ps_S → Prop) (hK : ps_ok (qX9_goesIn p1 σ) P) : ps_C g mX9_goesIn 7 [.ref (g.2.2.1 + 327), .int p1] σ (ps_qI P) := by
  unfold qX9_goesIn at hK
  refine ps_C.of (ls := [some (.ref (g.2.2.1 + 327)), some (.int p1)]) 0 (by decide) rfl (Nat.le_of_ble_eq_true rfl) rfl ?_
  refine pm_ild d_X9_goesIn_0 rfl ?_
  refine pm_ki d_X9_goesIn_1 ?_
  refine pm_icmp_ne d_X9_goesIn_3 (fun c1 => ?_) (fun c1 => ?_)
  · replace hK := ps_ifF c1 hK
    refine pm_ald d_X9_goesIn_11 rfl ?_
    refine ps_getI d_X9_goesIn_12 at_327 f_8_0_12 rfl ?_
    refine ps_topI (fun v2 ev2 => ?_)
    replace hK := ps_ltE ev2 hK
    refine pm_if_ne d_X9_goesIn_15 (fun c3 => ?_) (fun c3 => ?_)
    · replace hK := ps_ifF c3 hK
      refine pm_ald d_X9_goesIn_22 rfl ?_
      refine ps_getI d_X9_goesIn_23 at_327 f_8_0_12 rfl ?_
      refine ps_topI (fun v4 ev4 => ?_)
      replace hK := ps_ltE ev4 hK
      refine pm_if_ne d_X9_goesIn_26 (fun c5 => ?_) (fun c5 => ?_)
      · replace hK := ps_ifF c5 hK
        refine pm_ki d_X9_goesIn_33 ?_
        have hQ := ps_so hK
        exact ps_zret rfl rfl d_X9_goesIn_34 ⟨_, rfl, hQ⟩
      · replace hK := ps_ifT c5 hK
        refine pm_ki d_X9_goesIn_29 ?_
        refine pm_goto d_X9_goesIn_30 ?_
        have hQ := ps_so hK
        exact ps_zret rfl rfl d_X9_goesIn_34 ⟨_, rfl, hQ⟩
    · replace hK := ps_ifT c3 hK
      refine pm_ald d_X9_goesIn_18 rfl ?_
      refine ps_cVV d_X9_goesIn_19 mv_X9_steps at_327 ob_8_0 rfl (As := []) rfl rfl (ps_room.of (by omega) (by decide)) (Nat.le_of_ble_eq_true rfl) (C_X9_steps σ _ (ps_bdE hK)) ?_
      intro σ7 hT
      clear hK
      have hK := hT
      clear hT
      refine pm_ald d_X9_goesIn_22 rfl ?_
      refine ps_getI d_X9_goesIn_23 at_327 f_8_0_12 rfl ?_
      refine ps_topI (fun v8 ev8 => ?_)
      replace hK := ps_ltE ev8 hK
      refine pm_if_ne d_X9_goesIn_26 (fun c9 => ?_) (fun c9 => ?_)
      · replace hK := ps_ifF c9 hK
        refine pm_ki d_X9_goesIn_33 ?_
        have hQ := ps_so hK
        exact ps_zret rfl rfl d_X9_goesIn_34 ⟨_, rfl, hQ⟩
      · replace hK := ps_ifT c9 hK
        refine pm_ki d_X9_goesIn_29 ?_
        refine pm_goto d_X9_goesIn_30 ?_
        have hQ := ps_so hK
        exact ps_zret rfl rfl d_X9_goesIn_34 ⟨_, rfl, hQ⟩
  · replace hK := ps_ifT c1 hK
    refine pm_ald d_X9_goesIn_6 rfl ?_
    refine pm_ki d_X9_goesIn_7 ?_
    refine ps_cVV d_X9_goesIn_8 mv_X9_fails at_327 ob_8_0 rfl (As := [.int 4]) rfl rfl (ps_room.of (by omega) (by decide)) (Nat.le_of_ble_eq_true rfl) (C_X9_fails 4 σ _ (ps_bdE hK)) ?_
    intro σ11 hT
    clear hK
    have hK := hT
    clear hT
    refine pm_ald d_X9_goesIn_11 rfl ?_
    refine ps_getI d_X9_goesIn_12 at_327 f_8_0_12 rfl ?_
    refine ps_topI (fun v12 ev12 => ?_)
    replace hK := ps_ltE ev12 hK
    refine pm_if_ne d_X9_goesIn_15 (fun c13 => ?_) (fun c13 => ?_)
    · replace hK := ps_ifF c13 hK
      refine pm_ald d_X9_goesIn_22 rfl ?_
      refine ps_getI d_X9_goesIn_23 at_327 f_8_0_12 rfl ?_
      refine ps_topI (fun v14 ev14 => ?_)
      replace hK := ps_ltE ev14 hK
      refine pm_if_ne d_X9_goesIn_26 (fun c15 => ?_) (fun c15 => ?_)
      · replace hK := ps_ifF c15 hK
        refine pm_ki d_X9_goesIn_33 ?_
        have hQ := ps_so hK
        exact ps_zret rfl rfl d_X9_goesIn_34 ⟨_, rfl, hQ⟩
      · replace hK := ps_ifT c15 hK
        refine pm_ki d_X9_goesIn_29 ?_
        refine pm_goto d_X9_goesIn_30 ?_
        have hQ := ps_so hK
        exact ps_zret rfl rfl d_X9_goesIn_34 ⟨_, rfl, hQ⟩
    · replace hK := ps_ifT c13 hK
      refine pm_ald d_X9_goesIn_18 rfl ?_
      refine ps_cVV d_X9_goesIn_19 mv_X9_steps at_327 ob_8_0 rfl (As := []) rfl rfl (ps_room.of (by omega) (by decide)) (Nat.le_of_ble_eq_true rfl) (C_X9_steps σ11 _ (ps_bdE hK)) ?_
      intro σ17 hT
      clear hK
      have hK := hT
      clear hT
      refine pm_ald d_X9_goesIn_22 rfl ?_
      refine ps_getI d_X9_goesIn_23 at_327 f_8_0_12 rfl ?_
      refine ps_topI (fun v18 ev18 => ?_)
      replace hK := ps_ltE ev18 hK
      refine pm_if_ne d_X9_goesIn_26 (fun c19 => ?_) (fun c19 => ?_)
      · replace hK := ps_ifF c19 hK
        refine pm_ki d_X9_goesIn_33 ?_
        have hQ := ps_so hK
        exact ps_zret rfl rfl d_X9_goesIn_34 ⟨_, rfl, hQ⟩
      · replace hK := ps_ifT c19 hK
        refine pm_ki d_X9_goesIn_29 ?_
        refine pm_goto d_X9_goesIn_30 ?_
        have hQ := ps_so hK
        exact ps_zret rfl rfl d_X9_goesIn_34 ⟨_, rfl, hQ⟩
def qX9_wordOf (p1 : Int32) (σ : ps_S) : Option (Int32 × ps_S) :=
  if p1 = 8 then
  some (2, σ)
  else
  if p1 = 12 then
  ps_let (σ.1 327 16) fun v3 =>
  if v3 = 0 then
  some (3, σ)
  else
  some ((-1), σ)
  else
  if p1 = 19 then
  some (0, σ)
  else
  if p1 = 20 then
  some (1, σ)
  else
  some ((-1), σ)
set_option maxRecDepth 100000 in
theorem C_X9_wordOf {g : pm_G} (p1 : Int32) (σ : ps_S) (P : Int32 → ps_S → Prop) (hK : ps_ok (qX9_wordOf p1 σ) P) : ps_C g mX9_wordOf 1 [.ref (g.2.2.1 + 327), .int p1] σ (ps_qI P) := by
  unfold qX9_wordOf at hK
  refine ps_C.of (ls := [some (.ref (g.2.2.1 + 327)), some (.int p1)]) 0 (by decide) rfl (Nat.le_of_ble_eq_true rfl) rfl ?_
  refine pm_ild d_X9_wordOf_0 rfl ?_
  by_cases c1 : p1 = 8
  · replace hK := ps_ifT c1 hK
    refine pm_look (tgt := 48) (off := 47) d_X9_wordOf_1 (by decide) (by rw [c1]; rfl) (by decide) ?_
    refine pm_ki d_X9_wordOf_48 ?_
    have hQ := ps_so hK
    exact ps_iret rfl d_X9_wordOf_49 ⟨_, rfl, hQ⟩
  replace hK := ps_ifF c1 hK
  by_cases c2 : p1 = 12
  · replace hK := ps_ifT c2 hK
    refine pm_look (tgt := 50) (off := 49) d_X9_wordOf_1 (by decide) (by rw [c2]; rfl) (by decide) ?_
    refine pm_ald d_X9_wordOf_50 rfl ?_
    refine ps_getI d_X9_wordOf_51 at_327 f_8_0_16 rfl ?_
    refine ps_topI (fun v3 ev3 => ?_)
    replace hK := ps_ltE ev3 hK
    refine pm_if_ne d_X9_wordOf_54 (fun c4 => ?_) (fun c4 => ?_)
    · replace hK := ps_ifF c4 hK
      refine pm_ki d_X9_wordOf_61 ?_
      have hQ := ps_so hK
      exact ps_iret rfl d_X9_wordOf_62 ⟨_, rfl, hQ⟩
    · replace hK := ps_ifT c4 hK
      refine pm_ki d_X9_wordOf_57 ?_
      refine pm_goto d_X9_wordOf_58 ?_
      have hQ := ps_so hK
      exact ps_iret rfl d_X9_wordOf_62 ⟨_, rfl, hQ⟩
  replace hK := ps_ifF c2 hK
  by_cases c5 : p1 = 19
  · replace hK := ps_ifT c5 hK
    refine pm_look (tgt := 44) (off := 43) d_X9_wordOf_1 (by decide) (by rw [c5]; rfl) (by decide) ?_
    refine pm_ki d_X9_wordOf_44 ?_
    have hQ := ps_so hK
    exact ps_iret rfl d_X9_wordOf_45 ⟨_, rfl, hQ⟩
  replace hK := ps_ifF c5 hK
  by_cases c6 : p1 = 20
  · replace hK := ps_ifT c6 hK
    refine pm_look (tgt := 46) (off := 45) d_X9_wordOf_1 (by decide) (by rw [c6]; rfl) (by decide) ?_
    refine pm_ki d_X9_wordOf_46 ?_
    have hQ := ps_so hK
    exact ps_iret rfl d_X9_wordOf_47 ⟨_, rfl, hQ⟩
  replace hK := ps_ifF c6 hK
  refine pm_look (tgt := 63) (off := 62) d_X9_wordOf_1 (by decide) ((lv_osw (k := 8) c1 (by decide)).trans ((lv_osw (k := 12) c2 (by decide)).trans ((lv_osw (k := 19) c5 (by decide)).trans ((lv_osw (k := 20) c6 (by decide)).trans (rfl))))) (by decide) ?_
  refine pm_ki d_X9_wordOf_63 ?_
  have hQ := ps_so hK
  exact ps_iret rfl d_X9_wordOf_64 ⟨_, rfl, hQ⟩
