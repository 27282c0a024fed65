/-! once more over 327 cells: begin() is called while the constructor runs -/
def pt_at (k kd B off : Nat) : Prop := ps_kind k = (kd, B) ∧ k = B + off ∧ k < 327
theorem pt_at.E {k kd B off : Nat} (h : pt_at k kd B off) (g : pm_G) (σ : ps_S) : ps_E g σ k = ps_cell g (σ.1 k) (σ.2.1 k) (σ.2.2 k) kd B off := by
  obtain ⟨h1, h2, -⟩ := h
  unfold ps_E
  rw [h1]
  show ps_cell g _ _ _ kd B (k - B) = _
  rw [show k - B = off by omega]
theorem pt_upI {g : pm_G} {σ : ps_S} {k kd B off : Nat} {f : Nat → Int32} {e : va_E} (h : pt_at k kd B off) (he : ps_cell g f (σ.2.1 k) (σ.2.2 k) kd B off = e) : pm_up (ps_E g σ) k e = ps_E g (ps_rI σ k f) := by
  funext j
  by_cases hj : j = k
  · subst hj
    rw [h.E g (ps_rI σ j f)]
    simp only [pm_up, ps_rI, if_true]
    exact he.symm
  · simp only [pm_up, ps_rI, ps_E, hj, if_false]
theorem pt_upD {g : pm_G} {σ : ps_S} {k kd B off : Nat} {f : Nat → UInt64} {e : va_E} (h : pt_at k kd B off) (he : ps_cell g (σ.1 k) (σ.2.1 k) f kd B off = e) : pm_up (ps_E g σ) k e = ps_E g (ps_rD σ k f) := by
  funext j
  by_cases hj : j = k
  · subst hj
    rw [h.E g (ps_rD σ j f)]
    simp only [pm_up, ps_rD, if_true]
    exact he.symm
  · simp only [pm_up, ps_rD, ps_E, hj, if_false]
def pt_St (B : Nat) : Prop := ∀ off, off < 18 → ps_kind (B + off) = (5, B) ∧ B + off < 327
def pt_Ho (B : Nat) : Prop := ∀ off, off < 9 → ps_kind (B + off) = (2, B) ∧ B + off < 327
theorem pt_St.at {B : Nat} (h : pt_St B) (off : Nat) (ho : off < 18) : pt_at (B + off) 5 B off := ⟨(h off ho).1, rfl, (h off ho).2⟩
theorem pt_Ho.at {B : Nat} (h : pt_Ho B) (off : Nat) (ho : off < 9) : pt_at (B + off) 2 B off := ⟨(h off ho).1, rfl, (h off ho).2⟩
theorem pt_St.at0 {B : Nat} (h : pt_St B) : pt_at B 5 B 0 := ⟨(h 0 (by decide)).1, rfl, (h 0 (by decide)).2⟩
theorem pt_Ho.at0 {B : Nat} (h : pt_Ho B) : pt_at B 2 B 0 := ⟨(h 0 (by decide)).1, rfl, (h 0 (by decide)).2⟩
theorem pt_St26 : pt_St 26 := by unfold pt_St; decide +kernel
theorem pt_Ho12 : pt_Ho 12 := by unfold pt_Ho; decide +kernel
def pt_C (g : pm_G) (M : pm_M) (d : Nat) (av : List Value) (σ : ps_S) (Q : Option Value → ps_S → Prop) : Prop := pm_C g M d 0 0 av 327 (ps_E g σ) (fun r E => ∃ σ' : ps_S, E = ps_E g σ' ∧ Q r σ')
def pt_F (g : pm_G) (d : Nat) (Q : Option Value → ps_S → Prop) : pm_F := pm_Fm g d 0 0 327 (fun r E => ∃ σ' : ps_S, E = ps_E g σ' ∧ Q r σ')
def pt_room (F : pm_F) (cn sn d' nL : Nat) : Prop := d' + 1 ≤ F.1.frames ∧ 8 + (nL + 11) + 48 * d' ≤ F.1.locals ∧ cn ≤ F.1.cells ∧ sn ≤ F.1.slots
section PTR
variable {g : pm_G} {M : pm_M} {F : pm_F} {cn sn pc pc' : Nat} {ls : List (Option Value)} {st : List Value} {σ : ps_S} {k kd B off : Nat}
theorem pt_getI {ci j : Nat} {x : Int32} (hd : pm_GF M pc ci j pc') (ha : pt_at k kd B off) (hf : ps_fI kd off ci j) (hv : σ.1 k j = x) (K : pm_W g M F cn sn pc' ls (.int x :: st) 327 (ps_E g σ)) : pm_W g M F cn sn pc ls (.ref (g.2.2.1 + k) :: st) 327 (ps_E g σ) := by
  obtain ⟨fs, h1, h2, -⟩ := hf g (σ.1 k) (σ.2.1 k) (σ.2.2 k) B
  exact pm_get k hd ha.2.2 ((ha.E g σ).trans h1) (by rw [h2, hv]) K
theorem pt_getR {ci j : Nat} {r : Nat → Nat} {q : Nat} (hd : pm_GF M pc ci j pc') (ha : pt_at k kd B off) (hf : ps_fR kd off ci j r) (hq : r B = q) (K : pm_W g M F cn sn pc' ls (.ref (g.2.2.1 + q) :: st) 327 (ps_E g σ)) : pm_W g M F cn sn pc ls (.ref (g.2.2.1 + k) :: st) 327 (ps_E g σ) := by
  subst hq
  obtain ⟨fs, h1, h2⟩ := hf g (σ.1 k) (σ.2.1 k) (σ.2.2 k) B
  exact pm_get k hd ha.2.2 ((ha.E g σ).trans h1) h2 K
theorem pt_putI {ci j : Nat} {ty : FieldType} {v : Int32} (hd : pm_PF M pc ci j ty pc') (ha : pt_at k kd B off) (hf : ps_fI kd off ci j) (hn : narrow ty (.int v) = .int v) (ht : fits ty (.int v) = true) (K : pm_W g M F cn sn pc' ls st 327 (ps_E g (ps_rI σ k (upd (σ.1 k) j v)))) : pm_W g M F cn sn pc ls (.int v :: .ref (g.2.2.1 + k) :: st) 327 (ps_E g σ) := by
  obtain ⟨fs, h1, h2, h3, h4⟩ := hf g (σ.1 k) (σ.2.1 k) (σ.2.2 k) B
  refine pm_put k hd ha.2.2 ((ha.E g σ).trans h1) h3 hn ht ?_
  rw [pt_upI ha (h4 v)]
  exact K
theorem pt_iald {n : Nat} {i : Int32} {x : Int32} (hd : pm_D M.2.2.1 pc .iaload 1 pc') (ha : pt_at k kd B off) (hf : ps_aI kd off n 0) (hin : vp_in i n) (hv : σ.1 k i.toNatClampNeg = x) (K : pm_W g M F cn sn pc' ls (.int x :: st) 327 (ps_E g σ)) : pm_W g M F cn sn pc ls (.int i :: .ref (g.2.2.1 + k) :: st) 327 (ps_E g σ) := by
  subst hv
  exact pm_iald k hd ha.2.2 ((ha.E g σ).trans (hf g _ _ _ B)) hin K
theorem pt_iast {n : Nat} {i : Int32} {v : Int32} (hd : pm_D M.2.2.1 pc .iastore 1 pc') (ha : pt_at k kd B off) (hf : ps_aI kd off n 0) (hin : vp_in i n) (K : pm_W g M F cn sn pc' ls st 327 (ps_E g (ps_rI σ k (upd (σ.1 k) i.toNatClampNeg v)))) : pm_W g M F cn sn pc ls (.int v :: .int i :: .ref (g.2.2.1 + k) :: st) 327 (ps_E g σ) := by
  refine pm_iast k hd ha.2.2 ((ha.E g σ).trans (hf g _ _ _ B)) hin ?_
  rw [pt_upI ha (hf g _ _ _ B)]
  exact K
theorem pt_dast {n : Nat} {i : Int32} {v : UInt64} (hd : pm_D M.2.2.1 pc .dastore 1 pc') (ha : pt_at k kd B off) (hf : ps_aD kd off n) (hin : vp_in i n) (K : pm_W g M F cn sn pc' ls st 327 (ps_E g (ps_rD σ k (vf_upd (σ.2.2 k) i.toNatClampNeg v)))) : pm_W g M F cn sn pc ls (.double v :: .int i :: .ref (g.2.2.1 + k) :: st) 327 (ps_E g σ) := by
  refine pm_dast k hd ha.2.2 ((ha.E g σ).trans (hf g _ _ _ B)) hin ?_
  rw [pt_upD ha (hf g _ _ _ B)]
  exact K
theorem pt_alenI {n t : Nat} {v : Int32} (hd : pm_D M.2.2.1 pc .arraylength 1 pc') (ha : pt_at k kd B off) (hf : ps_aI kd off n t) (ht : t < 3) (hv : Int32.ofNat n = v) (K : pm_W g M F cn sn pc' ls (.int v :: st) 327 (ps_E g σ)) : pm_W g M F cn sn pc ls (.ref (g.2.2.1 + k) :: st) 327 (ps_E g σ) := by
  have h3 : ∃ ty, (pm_tys g)[t]? = some (g.2.1 t, ty) := by
    rcases (show t = 0 ∨ t = 1 ∨ t = 2 by omega) with rfl | rfl | rfl
    · exact ⟨_, rfl⟩
    · exact ⟨_, rfl⟩
    · exact ⟨_, rfl⟩
  obtain ⟨ty, h3⟩ := h3
  exact pm_alen k t hd ha.2.2 ((ha.E g σ).trans (hf g _ _ _ B)) h3 hv K
theorem pt_copyi {k2 kd2 B2 off2 n0 n1 : Nat} {sp dp n : Int32} (hd : pm_AC M pc pc') (ha : pt_at k kd B off) (ha2 : pt_at k2 kd2 B2 off2) (hf : ps_aI kd off n0 0) (hf2 : ps_aI kd2 off2 n1 0) (h1 : ¬ sp < 0) (h2 : ¬ dp < 0) (h3 : ¬ n < 0) (h4 : sp.toNatClampNeg + n.toNatClampNeg ≤ n0) (h5 : dp.toNatClampNeg + n.toNatClampNeg ≤ n1) (hR : 1 ≤ F.1.frames ∧ 26 ≤ F.1.locals) (hs : (st.map fun v => v.category).sum ≤ 8) (K : pm_W g M F cn sn pc' ls st 327 (ps_E g (ps_rI σ k2 (va_cpy (σ.1 k) (σ.1 k2) sp.toNatClampNeg dp.toNatClampNeg n.toNatClampNeg)))) : pm_W g M F cn sn pc ls (.int n :: .int dp :: .ref (g.2.2.1 + k2) :: .int sp :: .ref (g.2.2.1 + k) :: st) 327 (ps_E g σ) := by
  refine pm_copyi k k2 hd ha.2.2 ha2.2.2 ((ha.E g σ).trans (hf g _ _ _ B)) ((ha2.E g σ).trans (hf2 g _ _ _ B2)) h1 h2 h3 h4 h5 hR hs ?_
  rw [pt_upI ha2 (hf2 g _ _ _ B2)]
  exact K
theorem pt_C.of {d : Nat} {av : List Value} {Q : Option Value → ps_S → Prop} (kk : Nat) (hy : plainName M.2.1.cls = true) (ho : M.1 = M.2.1.cls) (hn : (lg_sl av).length ≤ M.2.2.2.1) (hl : pm_fl av ++ List.replicate kk none = ls) (k : pm_W g M (pt_F g d Q) 0 0 0 ls [] 327 (ps_E g σ)) : pt_C g M d av σ Q := pm_C.of kk hy ho hn hl k
theorem pt_vret {d : Nat} {Q : Option Value → ps_S → Prop} (hr : M.2.2.2.2 = none) (hd : pm_D M.2.2.1 pc .return_ 1 pc') (hQ : Q none σ) : pm_W g M (pt_F g d Q) 0 0 pc ls [] 327 (ps_E g σ) := pm_vret hr hd rfl (Nat.le_refl _) ⟨σ, rfl, hQ⟩
theorem pt_room.of {d d' nL : Nat} {Q : Option Value → ps_S → Prop} (h : d' < d) (hn : nL ≤ 29) : pt_room (pt_F g d Q) 0 0 d' nL := ⟨h, by show _ ≤ 48 * d; omega, Nat.le_refl 0, Nat.le_refl 0⟩
theorem pt_callV {M' : pm_M} {d' n ci nn : Nat} {As st0 : List Value} {T : u_T} {Q' : Option Value → ps_S → Prop} (hd : pm_CV M pc M' pc') (hm : pm_MV M' n) (ha : pt_at k kd B off) (hb : ps_ob kd off ci) (hc : vwCl[ci]? = some (M'.2.1.cls, T, nn)) (hn : As.length = n) (hst : st0 = As.reverse ++ .ref (g.2.2.1 + k) :: st) (hR : pt_room F cn sn d' M'.2.2.2.1) (hs : (st.map fun v => v.category).sum ≤ 8) (hcon : pt_C g M' d' (.ref (g.2.2.1 + k) :: As) σ Q')
    (K : ∀ (r : Option Value) (σ' : ps_S), Q' r σ' → pm_W g M F cn sn pc' ls (r.toList ++ st) 327 (ps_E g σ')) : pm_W g M F cn sn pc ls st0 327 (ps_E g σ) := by
  obtain ⟨fs, h1⟩ := hb g (σ.1 k) (σ.2.1 k) (σ.2.2 k) B
  exact pm_callV hd hm hn hst ha.2.2 ((ha.E g σ).trans h1) hc ⟨hR.1, hR.2.1⟩ ⟨hR.2.2.1, hR.2.2.2⟩ hs hcon (fun r E1 ⟨σ', e1, e2⟩ => by subst e1; exact K r σ' e2)
theorem pt_callS {M' : pm_M} {d' n : Nat} {As st0 : List Value} {Q' : Option Value → ps_S → Prop} (hd : pm_CS M pc M' pc') (hm : pm_MS M' n) (hn : As.length = n) (hst : st0 = As.reverse ++ st) (hR : pt_room F cn sn d' M'.2.2.2.1) (hs : (st.map fun v => v.category).sum ≤ 8) (hcon : pt_C g M' d' As σ Q')
    (K : ∀ (r : Option Value) (σ' : ps_S), Q' r σ' → pm_W g M F cn sn pc' ls (r.toList ++ st) 327 (ps_E g σ')) : pm_W g M F cn sn pc ls st0 327 (ps_E g σ) :=
  pm_callS hd hm hn hst ⟨hR.1, hR.2.1⟩ ⟨hR.2.2.1, hR.2.2.2⟩ hs hcon (fun r E1 ⟨σ', e1, e2⟩ => by subst e1; exact K r σ' e2)
theorem pt_topI {x : Int32} (K : ∀ y : Int32, y = x → pm_W g M F cn sn pc ls (.int y :: st) 327 (ps_E g σ)) : pm_W g M F cn sn pc ls (.int x :: st) 327 (ps_E g σ) := K x rfl
theorem pt_nmS (K : ∀ τ : ps_S, τ = σ → pm_W g M F cn sn pc ls st 327 (ps_E g τ)) : pm_W g M F cn sn pc ls st 327 (ps_E g σ) := K σ rfl
end PTR
section PTM
variable {g : pm_G} {M : pm_M} {F : pm_F} {cn sn pc pc' : Nat} {ls : List (Option Value)} {st : List Value} {σ : ps_S} {k kd B off : Nat}
theorem pt_roomC {d : Nat} {Q : Option Value → ps_S → Prop} (h : 1 ≤ d) : 1 ≤ (pt_F g d Q).1.frames ∧ 26 ≤ (pt_F g d Q).1.locals := ⟨h, by show 26 ≤ 48 * d; omega⟩
theorem pt_cSV {M' : pm_M} {d' n : Nat} {As st0 : List Value} {P' : Unit → ps_S → Prop} (hd : pm_CS M pc M' pc') (hm : pm_MS M' n) (hn : As.length = n) (hst : st0 = As.reverse ++ st) (hR : pt_room F cn sn d' M'.2.2.2.1) (hs : (st.map fun v => v.category).sum ≤ 8) (hcon : pt_C g M' d' As σ (ps_qV P')) (K : ∀ (σ' : ps_S), P' () σ' → pm_W g M F cn sn pc' ls st 327 (ps_E g σ')) : pm_W g M F cn sn pc ls st0 327 (ps_E g σ) := pt_callS hd hm hn hst hR hs hcon (fun r σ' ⟨e, h⟩ => by subst e; exact K σ' h)
theorem pt_cVV {M' : pm_M} {d' n ci nn : Nat} {As st0 : List Value} {T : u_T} {P' : Unit → ps_S → Prop} (hd : pm_CV M pc M' pc') (hm : pm_MV M' n) (ha : pt_at k kd B off) (hb : ps_ob kd off ci) (hc : vwCl[ci]? = some (M'.2.1.cls, T, nn)) (hn : As.length = n) (hst : st0 = As.reverse ++ .ref (g.2.2.1 + k) :: st) (hR : pt_room F cn sn d' M'.2.2.2.1) (hs : (st.map fun v => v.category).sum ≤ 8) (hcon : pt_C g M' d' (.ref (g.2.2.1 + k) :: As) σ (ps_qV P')) (K : ∀ (σ' : ps_S), P' () σ' → pm_W g M F cn sn pc' ls st 327 (ps_E g σ')) : pm_W g M F cn sn pc ls st0 327 (ps_E g σ) := pt_callV hd hm ha hb hc hn hst hR hs hcon (fun r σ' ⟨e, h⟩ => by subst e; exact K σ' h)
end PTM
set_option maxRecDepth 100000 in
theorem DL_J7_fill_53178_5 {g : pm_G} (D : Nat) (hD : 1 ≤ D) {P : Unit → ps_S → Prop} (k1 n1 kd1 b1 o1 : Nat) (ha1 : pt_at k1 kd1 b1 o1) (hf1 : ps_aI kd1 o1 n1 0) (y1 : Int32) (y3 : Int32) : ∀ (n : Nat) (x2 : Int32) (σ : ps_S), ps_ok (qJ7_fill_53178_5 k1 n1 y1 y3 n x2 σ) (fun res σ => match res with | x2 => pm_W g mJ7_fill_53178 (pt_F g D (ps_qV P)) 0 0 20 [some (.ref (g.2.2.1 + k1)), some (.int y1), some (.int x2), some (.int y3)] [] 327 (ps_E g σ)) → pm_W g mJ7_fill_53178 (pt_F g D (ps_qV P)) 0 0 5 [some (.ref (g.2.2.1 + k1)), some (.int y1), some (.int x2), some (.int y3)] [] 327 (ps_E g σ) := by
  intro n
  induction n with
  | zero => intro x2 σ hK; exact (ps_no hK).elim
  | succ n ih =>
    intro x2 σ hK
    rw [qJ7_fill_53178_5] at hK
    refine pm_ild d_J7_fill_53178_5 rfl ?_
    refine pm_ild d_J7_fill_53178_6 rfl ?_
    refine pm_icmp_ge d_J7_fill_53178_7 (fun c2 => ?_) (fun c2 => ?_)
    · replace hK := ps_ifT c2 hK
      exact ps_so hK
    · replace hK := ps_ifF c2 hK
      refine pm_ald d_J7_fill_53178_10 rfl ?_
      refine pm_ild d_J7_fill_53178_11 rfl ?_
      refine pm_ild d_J7_fill_53178_12 rfl ?_
      obtain ⟨b5, hT⟩ := ps_gd hK
      replace hK := hT
      clear hT
      refine pt_iast d_J7_fill_53178_13 ha1 hf1 (ps_in_of b5) ?_
      refine pt_nmS (fun σ3 eσ3 => ?_)
      replace hK := ps_ltE eσ3 hK
      refine pm_inc2 d_J7_fill_53178_14 rfl ?_
      obtain ⟨v4, ev4⟩ : ∃ y : Int32, y = x2 + 1 := ⟨_, rfl⟩
      rw [← ev4]
      replace hK := ps_ltE ev4 hK
      refine pm_goto d_J7_fill_53178_17 ?_
      exact ih _ _ hK
set_option maxRecDepth 100000 in
theorem DC_J7_fill_53178 {g : pm_G} (k1 n1 kd1 b1 o1 : Nat) (ha1 : pt_at k1 kd1 b1 o1) (hf1 : ps_aI kd1 o1 n1 0) (p2 : Int32) (σ : ps_S) (P : Unit → ps_S → Prop) (hK : ps_ok (qJ7_fill_53178 k1 n1 p2 σ) P) : pt_C g mJ7_fill_53178 1 [.ref (g.2.2.1 + k1), .int p2] σ (ps_qV P) := by
  unfold qJ7_fill_53178 at hK
  refine pt_C.of (ls := [some (.ref (g.2.2.1 + k1)), some (.int p2), none, none]) 2 (by decide) rfl (Nat.le_of_ble_eq_true rfl) rfl ?_
  refine pm_ki d_J7_fill_53178_0 ?_
  refine pm_ist2 d_J7_fill_53178_1 rfl (by decide) ?_
  refine pm_ald d_J7_fill_53178_2 rfl ?_
  refine pt_alenI d_J7_fill_53178_3 ha1 hf1 (by decide) rfl ?_
  refine pt_topI (fun v1 ev1 => ?_)
  replace hK := ps_ltE ev1 hK
  refine pm_ist3 d_J7_fill_53178_4 rfl (by decide) ?_
  refine DL_J7_fill_53178_5 _ (by decide) k1 n1 kd1 b1 o1 ha1 hf1 p2 v1 _ _ _ (ps_ok.mono (ps_bdE hK) ?_)
  rintro v7 σ6 hT
  clear hK
  have hK := hT
  clear hT
  have hQ := ps_so hK
  exact pt_vret rfl d_J7_fill_53178_20 ⟨rfl, hQ⟩
set_option maxRecDepth 100000 in
theorem DL_X1_begin_58 {g : pm_G} (D : Nat) (hD : 2 ≤ D) {P : Unit → ps_S → Prop} (B : Nat) (hB : pt_St B) (B1 : Nat) (hB1 : pt_Ho B1) : ∀ (n : Nat) (x2 : Int32) (σ : ps_S), ps_ok (qX1_begin_58 B B1 n x2 σ) (fun res σ => match res with | x2 => pm_W g mX1_begin (pt_F g D (ps_qV P)) 0 0 94 [some (.ref (g.2.2.1 + (B + 1))), some (.ref (g.2.2.1 + B1)), some (.int x2)] [] 327 (ps_E g σ)) → pm_W g mX1_begin (pt_F g D (ps_qV P)) 0 0 58 [some (.ref (g.2.2.1 + (B + 1))), some (.ref (g.2.2.1 + B1)), some (.int x2)] [] 327 (ps_E g σ) := by
  intro n
  induction n with
  | zero => intro x2 σ hK; exact (ps_no hK).elim
  | succ n ih =>
    intro x2 σ hK
    rw [qX1_begin_58] at hK
    refine pm_ild d_X1_begin_58 rfl ?_
    refine pm_ki d_X1_begin_59 ?_
    refine pm_icmp_ge d_X1_begin_60 (fun c15 => ?_) (fun c15 => ?_)
    · replace hK := ps_ifT c15 hK
      exact ps_so hK
    · replace hK := ps_ifF c15 hK
      refine pm_ald d_X1_begin_63 rfl ?_
      refine pt_getR (q := (B + 2)) d_X1_begin_64 (hB.at 1 (by decide)) f_5_1_0 rfl ?_
      refine pm_ild d_X1_begin_67 rfl ?_
      refine pm_ald d_X1_begin_68 rfl ?_
      refine pt_getR (q := (B1 + 1)) d_X1_begin_69 hB1.at0 f_2_0_11 rfl ?_
      refine pm_ild d_X1_begin_72 rfl ?_
      obtain ⟨b24, hT⟩ := ps_gd hK
      replace hK := hT
      clear hT
      refine pt_iald d_X1_begin_73 (hB1.at 1 (by decide)) a_2_1 (ps_in_of b24) rfl ?_
      refine pt_topI (fun v16 ev16 => ?_)
      replace hK := ps_ltE ev16 hK
      obtain ⟨b23, hT⟩ := ps_gd hK
      replace hK := hT
      clear hT
      refine pt_iast d_X1_begin_74 (hB.at 2 (by decide)) a_5_2 (ps_in_of b23) ?_
      refine pt_nmS (fun σ17 eσ17 => ?_)
      replace hK := ps_ltE eσ17 hK
      refine pm_ald d_X1_begin_75 rfl ?_
      refine pt_getR (q := (B + 6)) d_X1_begin_76 (hB.at 1 (by decide)) f_5_1_4 rfl ?_
      refine pm_ild d_X1_begin_79 rfl ?_
      refine pm_ald d_X1_begin_80 rfl ?_
      refine pt_getR (q := (B1 + 1)) d_X1_begin_81 hB1.at0 f_2_0_11 rfl ?_
      refine pm_ild d_X1_begin_84 rfl ?_
      obtain ⟨b22, hT⟩ := ps_gd hK
      replace hK := hT
      clear hT
      refine pt_iald d_X1_begin_85 (hB1.at 1 (by decide)) a_2_1 (ps_in_of b22) rfl ?_
      refine pt_topI (fun v18 ev18 => ?_)
      replace hK := ps_ltE ev18 hK
      refine pm_i2d d_X1_begin_86 ?_
      obtain ⟨b21, hT⟩ := ps_gd hK
      replace hK := hT
      clear hT
      refine pt_dast d_X1_begin_87 (hB.at 6 (by decide)) a_5_6 (ps_in_of b21) ?_
      refine pt_nmS (fun σ19 eσ19 => ?_)
      replace hK := ps_ltE eσ19 hK
      refine pm_inc2 d_X1_begin_88 rfl ?_
      obtain ⟨v20, ev20⟩ : ∃ y : Int32, y = x2 + 1 := ⟨_, rfl⟩
      rw [← ev20]
      replace hK := ps_ltE ev20 hK
      refine pm_goto d_X1_begin_91 ?_
      exact ih _ _ hK
set_option maxRecDepth 100000 in
theorem DC_X1_begin {g : pm_G} (B : Nat) (hB : pt_St B) (B1 : Nat) (hB1 : pt_Ho B1) (σ : ps_S) (P : Unit → ps_S → Prop) (hK : ps_ok (qX1_begin B B1 σ) P) : pt_C g mX1_begin 2 [.ref (g.2.2.1 + (B + 1)), .ref (g.2.2.1 + B1)] σ (ps_qV P) := by
  unfold qX1_begin at hK
  refine pt_C.of (ls := [some (.ref (g.2.2.1 + (B + 1))), some (.ref (g.2.2.1 + B1)), none]) 1 (by decide) rfl (Nat.le_of_ble_eq_true rfl) rfl ?_
  refine pm_ald d_X1_begin_0 rfl ?_
  refine pt_getR (q := (B + 3)) d_X1_begin_1 (hB.at 1 (by decide)) f_5_1_1 rfl ?_
  refine pm_ki d_X1_begin_4 ?_
  refine pt_cSV d_X1_begin_5 ms_J7_fill_53178 (As := [.ref (g.2.2.1 + (B + 3)), .int 0]) rfl rfl (pt_room.of (by omega) (by decide)) (Nat.le_of_ble_eq_true rfl) (DC_J7_fill_53178 (B + 3) 4 5 B 3 (hB.at 3 (by decide)) a_5_3 0 σ _ (ps_bdE hK)) ?_
  intro σ2 hT
  clear hK
  have hK := hT
  clear hT
  refine pm_ald d_X1_begin_8 rfl ?_
  refine pt_getR (q := (B + 4)) d_X1_begin_9 (hB.at 1 (by decide)) f_5_1_2 rfl ?_
  refine pm_ki d_X1_begin_12 ?_
  refine pt_cSV d_X1_begin_13 ms_J7_fill_53178 (As := [.ref (g.2.2.1 + (B + 4)), .int 0]) rfl rfl (pt_room.of (by omega) (by decide)) (Nat.le_of_ble_eq_true rfl) (DC_J7_fill_53178 (B + 4) 4 5 B 4 (hB.at 4 (by decide)) a_5_4 0 σ2 _ (ps_bdE hK)) ?_
  intro σ4 hT
  clear hK
  have hK := hT
  clear hT
  refine pm_ald d_X1_begin_16 rfl ?_
  refine pt_getR (q := (B + 5)) d_X1_begin_17 (hB.at 1 (by decide)) f_5_1_3 rfl ?_
  refine pm_ki d_X1_begin_20 ?_
  refine pt_cSV d_X1_begin_21 ms_J7_fill_53178 (As := [.ref (g.2.2.1 + (B + 5)), .int 0]) rfl rfl (pt_room.of (by omega) (by decide)) (Nat.le_of_ble_eq_true rfl) (DC_J7_fill_53178 (B + 5) 4 5 B 5 (hB.at 5 (by decide)) a_5_5 0 σ4 _ (ps_bdE hK)) ?_
  intro σ6 hT
  clear hK
  have hK := hT
  clear hT
  refine pm_ald d_X1_begin_24 rfl ?_
  refine pt_getR (q := (B + 7)) d_X1_begin_25 (hB.at 1 (by decide)) f_5_1_5 rfl ?_
  refine pm_ki d_X1_begin_28 ?_
  refine pt_cSV d_X1_begin_29 ms_J7_fill_53178 (As := [.ref (g.2.2.1 + (B + 7)), .int 0]) rfl rfl (pt_room.of (by omega) (by decide)) (Nat.le_of_ble_eq_true rfl) (DC_J7_fill_53178 (B + 7) 4 5 B 7 (hB.at 7 (by decide)) a_5_7 0 σ6 _ (ps_bdE hK)) ?_
  intro σ8 hT
  clear hK
  have hK := hT
  clear hT
  refine pm_ald d_X1_begin_32 rfl ?_
  refine pt_getR (q := (B + 8)) d_X1_begin_33 (hB.at 1 (by decide)) f_5_1_6 rfl ?_
  refine pm_ki d_X1_begin_36 ?_
  refine pt_cSV d_X1_begin_37 ms_J7_fill_53178 (As := [.ref (g.2.2.1 + (B + 8)), .int 0]) rfl rfl (pt_room.of (by omega) (by decide)) (Nat.le_of_ble_eq_true rfl) (DC_J7_fill_53178 (B + 8) 4 5 B 8 (hB.at 8 (by decide)) a_5_8 0 σ8 _ (ps_bdE hK)) ?_
  intro σ10 hT
  clear hK
  have hK := hT
  clear hT
  refine pm_ald d_X1_begin_40 rfl ?_
  refine pt_getR (q := (B + 9)) d_X1_begin_41 (hB.at 1 (by decide)) f_5_1_7 rfl ?_
  refine pm_ki d_X1_begin_44 ?_
  refine pt_cSV d_X1_begin_45 ms_J7_fill_53178 (As := [.ref (g.2.2.1 + (B + 9)), .int 0]) rfl rfl (pt_room.of (by omega) (by decide)) (Nat.le_of_ble_eq_true rfl) (DC_J7_fill_53178 (B + 9) 4 5 B 9 (hB.at 9 (by decide)) a_5_9 0 σ10 _ (ps_bdE hK)) ?_
  intro σ12 hT
  clear hK
  have hK := hT
  clear hT
  refine pm_ald d_X1_begin_48 rfl ?_
  refine pt_getR (q := (B + 10)) d_X1_begin_49 (hB.at 1 (by decide)) f_5_1_8 rfl ?_
  refine pm_ki d_X1_begin_52 ?_
  refine pt_cSV d_X1_begin_53 ms_J7_fill_53178 (As := [.ref (g.2.2.1 + (B + 10)), .int (-1)]) rfl rfl (pt_room.of (by omega) (by decide)) (Nat.le_of_ble_eq_true rfl) (DC_J7_fill_53178 (B + 10) 4 5 B 10 (hB.at 10 (by decide)) a_5_10 ((-1)) σ12 _ (ps_bdE hK)) ?_
  intro σ14 hT
  clear hK
  have hK := hT
  clear hT
  refine pm_ki d_X1_begin_56 ?_
  refine pm_ist2 d_X1_begin_57 rfl (by decide) ?_
  refine DL_X1_begin_58 _ (by decide) B hB B1 hB1 _ _ _ (ps_ok.mono (ps_bdE hK) ?_)
  rintro v26 σ25 hT
  clear hK
  have hK := hT
  clear hT
  have hQ := ps_so hK
  exact pt_vret rfl d_X1_begin_94 ⟨rfl, hQ⟩
set_option maxRecDepth 100000 in
theorem DC_X6_begin {g : pm_G} (B : Nat) (hB : pt_St B) (B1 : Nat) (hB1 : pt_Ho B1) (σ : ps_S) (P : Unit → ps_S → Prop) (hK : ps_ok (qX6_begin B B1 σ) P) : pt_C g mX6_begin 3 [.ref (g.2.2.1 + B), .ref (g.2.2.1 + B1)] σ (ps_qV P) := by
  unfold qX6_begin at hK
  refine pt_C.of (ls := [some (.ref (g.2.2.1 + B)), some (.ref (g.2.2.1 + B1))]) 0 (by decide) rfl (Nat.le_of_ble_eq_true rfl) rfl ?_
  refine pm_ald d_X6_begin_0 rfl ?_
  refine pt_getR (q := (B + 1)) d_X6_begin_1 hB.at0 f_5_0_0 rfl ?_
  refine pm_ald d_X6_begin_4 rfl ?_
  refine pt_cVV d_X6_begin_5 mv_X1_begin (hB.at 1 (by decide)) ob_5_1 rfl (As := [.ref (g.2.2.1 + B1)]) rfl rfl (pt_room.of (by omega) (by decide)) (Nat.le_of_ble_eq_true rfl) (DC_X1_begin B hB B1 hB1 σ _ (ps_bdE hK)) ?_
  intro σ2 hT
  clear hK
  have hK := hT
  clear hT
  refine pm_ald d_X6_begin_8 rfl ?_
  refine pt_getR (q := (B + 11)) d_X6_begin_9 hB.at0 f_5_0_1 rfl ?_
  refine pm_ki d_X6_begin_12 ?_
  refine pt_cSV d_X6_begin_13 ms_J7_fill_53178 (As := [.ref (g.2.2.1 + (B + 11)), .int 0]) rfl rfl (pt_room.of (by omega) (by decide)) (Nat.le_of_ble_eq_true rfl) (DC_J7_fill_53178 (B + 11) 12 5 B 11 (hB.at 11 (by decide)) a_5_11 0 σ2 _ (ps_bdE hK)) ?_
  intro σ4 hT
  clear hK
  have hK := hT
  clear hT
  refine pm_ald d_X6_begin_16 rfl ?_
  refine pt_getR (q := (B + 12)) d_X6_begin_17 hB.at0 f_5_0_2 rfl ?_
  refine pm_ki d_X6_begin_20 ?_
  refine pt_cSV d_X6_begin_21 ms_J7_fill_53178 (As := [.ref (g.2.2.1 + (B + 12)), .int 0]) rfl rfl (pt_room.of (by omega) (by decide)) (Nat.le_of_ble_eq_true rfl) (DC_J7_fill_53178 (B + 12) 12 5 B 12 (hB.at 12 (by decide)) a_5_12 0 σ4 _ (ps_bdE hK)) ?_
  intro σ6 hT
  clear hK
  have hK := hT
  clear hT
  refine pm_ald d_X6_begin_24 rfl ?_
  refine pt_getR (q := (B1 + 6)) d_X6_begin_25 hB1.at0 f_2_0_16 rfl ?_
  refine pm_ki d_X6_begin_28 ?_
  refine pm_ald d_X6_begin_29 rfl ?_
  refine pt_getR (q := (B + 13)) d_X6_begin_30 hB.at0 f_5_0_3 rfl ?_
  refine pm_ki d_X6_begin_33 ?_
  refine pm_ki d_X6_begin_34 ?_
  refine pt_copyi d_X6_begin_36 (hB1.at 6 (by decide)) (hB.at 13 (by decide)) a_2_6 a_5_13 (by decide) (by decide) (by decide) (by decide) (by decide) (pt_roomC (by omega)) (Nat.le_of_ble_eq_true rfl) ?_
  refine pt_nmS (fun σ7 eσ7 => ?_)
  replace hK := ps_ltE eσ7 hK
  refine pm_ald d_X6_begin_39 rfl ?_
  refine pt_getR (q := (B + 14)) d_X6_begin_40 hB.at0 f_5_0_4 rfl ?_
  refine pm_ki d_X6_begin_43 ?_
  refine pt_cSV d_X6_begin_44 ms_J7_fill_53178 (As := [.ref (g.2.2.1 + (B + 14)), .int 0]) rfl rfl (pt_room.of (by omega) (by decide)) (Nat.le_of_ble_eq_true rfl) (DC_J7_fill_53178 (B + 14) 6 5 B 14 (hB.at 14 (by decide)) a_5_14 0 σ7 _ (ps_bdE hK)) ?_
  intro σ9 hT
  clear hK
  have hK := hT
  clear hT
  refine pm_ald d_X6_begin_47 rfl ?_
  refine pt_getR (q := (B + 15)) d_X6_begin_48 hB.at0 f_5_0_5 rfl ?_
  refine pm_ki d_X6_begin_51 ?_
  refine pt_cSV d_X6_begin_52 ms_J7_fill_53178 (As := [.ref (g.2.2.1 + (B + 15)), .int 0]) rfl rfl (pt_room.of (by omega) (by decide)) (Nat.le_of_ble_eq_true rfl) (DC_J7_fill_53178 (B + 15) 6 5 B 15 (hB.at 15 (by decide)) a_5_15 0 σ9 _ (ps_bdE hK)) ?_
  intro σ11 hT
  clear hK
  have hK := hT
  clear hT
  refine pm_ald d_X6_begin_55 rfl ?_
  refine pt_getR (q := (B + 16)) d_X6_begin_56 hB.at0 f_5_0_6 rfl ?_
  refine pm_ki d_X6_begin_59 ?_
  refine pt_cSV d_X6_begin_60 ms_J7_fill_53178 (As := [.ref (g.2.2.1 + (B + 16)), .int 0]) rfl rfl (pt_room.of (by omega) (by decide)) (Nat.le_of_ble_eq_true rfl) (DC_J7_fill_53178 (B + 16) 6 5 B 16 (hB.at 16 (by decide)) a_5_16 0 σ11 _ (ps_bdE hK)) ?_
  intro σ13 hT
  clear hK
  have hK := hT
  clear hT
  refine pm_ald d_X6_begin_63 rfl ?_
  refine pt_getR (q := (B + 17)) d_X6_begin_64 hB.at0 f_5_0_7 rfl ?_
  refine pm_ki d_X6_begin_67 ?_
  refine pt_cSV d_X6_begin_68 ms_J7_fill_53178 (As := [.ref (g.2.2.1 + (B + 17)), .int 0]) rfl rfl (pt_room.of (by omega) (by decide)) (Nat.le_of_ble_eq_true rfl) (DC_J7_fill_53178 (B + 17) 6 5 B 17 (hB.at 17 (by decide)) a_5_17 0 σ13 _ (ps_bdE hK)) ?_
  intro σ15 hT
  clear hK
  have hK := hT
  clear hT
  refine pm_ald d_X6_begin_71 rfl ?_
  refine pm_ki d_X6_begin_72 ?_
  refine pt_putI d_X6_begin_73 hB.at0 f_5_0_8 rfl rfl ?_
  refine pt_nmS (fun σ16 eσ16 => ?_)
  replace hK := ps_ltE eσ16 hK
  refine pm_ald d_X6_begin_76 rfl ?_
  refine pm_ki d_X6_begin_77 ?_
  refine pt_putI d_X6_begin_78 hB.at0 f_5_0_9 rfl rfl ?_
  refine pt_nmS (fun σ17 eσ17 => ?_)
  replace hK := ps_ltE eσ17 hK
  refine pm_ald d_X6_begin_81 rfl ?_
  refine pm_ald d_X6_begin_82 rfl ?_
  refine pt_getI d_X6_begin_83 hB1.at0 f_2_0_0 rfl ?_
  refine pt_topI (fun v18 ev18 => ?_)
  replace hK := ps_ltE ev18 hK
  refine pt_putI d_X6_begin_86 hB.at0 f_5_0_10 rfl rfl ?_
  refine pt_nmS (fun σ19 eσ19 => ?_)
  replace hK := ps_ltE eσ19 hK
  refine pm_ald d_X6_begin_89 rfl ?_
  refine pm_ki d_X6_begin_90 ?_
  refine pt_putI d_X6_begin_91 hB.at0 f_5_0_11 rfl rfl ?_
  refine pt_nmS (fun σ20 eσ20 => ?_)
  replace hK := ps_ltE eσ20 hK
  refine pm_ald d_X6_begin_94 rfl ?_
  refine pm_ki d_X6_begin_95 ?_
  refine pt_putI d_X6_begin_96 hB.at0 f_5_0_12 rfl rfl ?_
  refine pt_nmS (fun σ21 eσ21 => ?_)
  replace hK := ps_ltE eσ21 hK
  refine pm_ald d_X6_begin_99 rfl ?_
  refine pm_ki d_X6_begin_100 ?_
  refine pt_putI d_X6_begin_101 hB.at0 f_5_0_13 rfl rfl ?_
  refine pt_nmS (fun σ22 eσ22 => ?_)
  replace hK := ps_ltE eσ22 hK
  have hQ := ps_so hK
  exact pt_vret rfl d_X6_begin_104 ⟨rfl, hQ⟩
