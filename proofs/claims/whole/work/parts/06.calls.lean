/-! contracts, their ends, calls -/
def pm_rm (d mc ms : Nat) : Room := { frames := d, cells := mc, slots := ms, locals := 48 * d }
def pm_Pc (g : pm_G) (av : List Value) (N : Nat) (E : pm_E) : Array Value → State → Prop := va_Pc av (fun U => pm_WD g N E U.heap ∧ va_K g.1 vwCl (pm_tys g) U ∧ pm_X g U U.heap)
def pm_Qc (g : pm_G) (N0 mc : Nat) (Q : Option Value → pm_E → Prop) : Array Value → State → Outcome → State → Prop := fun _ st oc t => (∃ (r : Option Value) (E : pm_E), oc = .returned r ∧ Q r E ∧ pm_WD g (N0 + mc) E t.heap) ∧ va_F (pm_A g) st t
def pm_ws (M : pm_M) : List Cond := .code M.2.1 M.2.2.1 M.2.2.2.1 M.2.2.2.2 :: pm_T
/-- THE CONTRACT of method M: called with av over the cells E it returns, with Q of its answer and the cells then -/
def pm_C (g : pm_G) (M : pm_M) (d mc ms : Nat) (av : List Value) (N : Nat) (E : pm_E) (Q : Option Value → pm_E → Prop) : Prop := ∀ l : Launch, MetD lw_cs l M.2.1 (pm_ws M) (pm_rm d mc ms) (pm_Pc g av N E) (pm_Qc g N mc Q) mc ms (pm_A g)
def pm_Fm (g : pm_G) (d mc ms N0 : Nat) (Q : Option Value → pm_E → Prop) : pm_F := (pm_rm d mc ms, fun below args s => MQD lw_cs below (pm_Qc g N0 mc Q) args s mc ms (pm_A g), fun _ => True)
def pm_fl : List Value → List (Option Value)
  | [] => []
  | v :: vs => if v.category = 2 then some v :: none :: pm_fl vs else some v :: pm_fl vs
theorem pm_at_rep : ∀ (k i : Nat), pm_at (List.replicate k none) i = none
  | 0, _ => rfl
  | _ + 1, 0 => rfl
  | k + 1, i + 1 => pm_at_rep k i
theorem pm_fl_in : ∀ (vs : List Value) (k j i : Nat) (v : Value), pm_at (pm_fl vs ++ List.replicate k none) i = some v → (j + i, v) ∈ lv_args j vs
  | [], k, j, i, v, h => by
    have h1 : pm_at (List.replicate k none) i = some v := h
    rw [pm_at_rep] at h1
    cases h1
  | a :: vs, k, j, i, v, h => by
    by_cases hc : a.category = 2
    · simp only [pm_fl, hc, if_true] at h
      simp only [lv_args, hc, if_true]
      match i, h with
      | 0, h =>
        have h1 : some a = some v := h
        cases h1
        exact List.mem_cons_self
      | 1, h =>
        have h1 : (none : Option Value) = some v := h
        cases h1
      | i + 2, h =>
        have h1 : pm_at (pm_fl vs ++ List.replicate k none) i = some v := h
        have h2 := pm_fl_in vs k (j + 2) i v h1
        rw [show j + (i + 2) = j + 2 + i by omega]
        exact List.mem_cons_of_mem _ h2
    · simp only [pm_fl, hc, if_false] at h
      simp only [lv_args, hc, if_false]
      match i, h with
      | 0, h =>
        have h1 : some a = some v := h
        cases h1
        exact List.mem_cons_self
      | i + 1, h =>
        have h1 : pm_at (pm_fl vs ++ List.replicate k none) i = some v := h
        have h2 := pm_fl_in vs k (j + 1) i v h1
        rw [show j + (i + 1) = j + 1 + i by omega]
        exact List.mem_cons_of_mem _ h2
theorem pm_entry (av : List Value) (n k : Nat) (h : (lg_sl av).length ≤ n) : pm_lh ((lg_sl av ++ List.replicate (n - (lg_sl av).length) Slot.unset).toArray) n (pm_fl av ++ List.replicate k none) := by
  have hl := lv_entry av (n := n) h
  refine ⟨hl.1, hl.2.1, fun i v hi => hl.2.2 (i, v) ?_⟩
  have h1 := pm_fl_in av k 0 i v hi
  rwa [Nat.zero_add] at h1
theorem pm_C.of {g : pm_G} {M : pm_M} {d mc ms : Nat} {av : List Value} {N : Nat} {E : pm_E} {Q : Option Value → pm_E → Prop} (kk : Nat) {ls : List (Option Value)} (hy : plainName M.2.1.cls = true) (ho : M.1 = M.2.1.cls) (hn : (lg_sl av).length ≤ M.2.2.2.1) (hl : pm_fl av ++ List.replicate kk none = ls) (k : pm_W g M (pm_Fm g d mc ms N Q) 0 0 0 ls [] N E) : pm_C g M d mc ms av N E Q := by
  intro l
  refine MetD.ofW (cc := M.2.2.1) (maxL := M.2.2.2.1) (ret := M.2.2.2.2) hy rfl ?_
  intro p e s m args below meth c s₁ B hml hv hd0
  obtain ⟨rfl, hWD, hK, hX⟩ := hv
  have hts := atoms_spec (ws := pm_ws M) B.pre
  rw [lg_entry_eq]
  subst hl
  exact k p l e s m _ below meth c ⟨B.exec, B.bytes, hml, B.returns, B.notSynchronized, by rw [ho]; exact findClass_of_methodNamed B.named, fun _ => (name_of_methodNamed B.named B.method).1, fun w h => hts w (List.mem_cons_of_mem _ h), hK, hX, by rw [hWD.1]; exact Nat.le_add_right _ _, trivial⟩ s.heap [] s.drawn _ hd0 (pm_entry av M.2.2.2.1 kk hn) hWD va_S.rf rfl
section PMC
variable {g : pm_G} {M : pm_M} {F : pm_F} {cn sn pc pc' : Nat} {ls : List (Option Value)} {st : List Value} {N : Nat} {E : pm_E}
variable {d mc ms N0 : Nat} {Q : Option Value → pm_E → Prop}

theorem pm_iret {v : Int32} (hr : M.2.2.2.2 = some .int) (hd : pm_D M.2.2.1 pc .ireturn 1 pc') (hN : N = N0 + mc) (hms : sn ≤ ms) (hQ : Q (some (.int v)) E) : pm_W g M (pm_Fm g d mc ms N0 Q) mc sn pc ls [.int v] N E := by
  intro p l e s m args below meth c hC H locs d0 L hd0 hL hWD hS hz
  subst hN
  refine W.widen (Nat.le_refl _) hms ?_
  refine W.endD hd0 ?_
  exact W.iret hC.1 hC.2.1 (hC.2.2.2.1.trans hr) (fun t ht hW => ⟨⟨_, E, rfl, hQ, by rw [ht]; exact hWD⟩, hS.F ht⟩) (fun q hq => hS.2.2 q hq) hd.1 hC.2.2.2.2.1
theorem pm_lret {v : Int64} (hr : M.2.2.2.2 = some .long) (hd : pm_D M.2.2.1 pc .lreturn 1 pc') (hN : N = N0 + mc) (hms : sn ≤ ms) (hQ : Q (some (.long v)) E) : pm_W g M (pm_Fm g d mc ms N0 Q) mc sn pc ls [.long v] N E := by
  intro p l e s m args below meth c hC H locs d0 L hd0 hL hWD hS hz
  subst hN
  refine W.widen (Nat.le_refl _) hms ?_
  refine W.endD hd0 ?_
  exact W.lret hC.1 hC.2.1 (hC.2.2.2.1.trans hr) (fun t ht hW => ⟨⟨_, E, rfl, hQ, by rw [ht]; exact hWD⟩, hS.F ht⟩) (fun q hq => hS.2.2 q hq) hd.1 hC.2.2.2.2.1
theorem pm_dret {v : UInt64} (hr : M.2.2.2.2 = some .double) (hd : pm_D M.2.2.1 pc .dreturn 1 pc') (hN : N = N0 + mc) (hms : sn ≤ ms) (hQ : Q (some (.double v)) E) : pm_W g M (pm_Fm g d mc ms N0 Q) mc sn pc ls [.double v] N E := by
  intro p l e s m args below meth c hC H locs d0 L hd0 hL hWD hS hz
  subst hN
  refine W.widen (Nat.le_refl _) hms ?_
  refine W.endD hd0 ?_
  exact W.dret hC.1 hC.2.1 (hC.2.2.2.1.trans hr) (fun t ht hW => ⟨⟨_, E, rfl, hQ, by rw [ht]; exact hWD⟩, hS.F ht⟩) (fun q hq => hS.2.2 q hq) hd.1 hC.2.2.2.2.1
theorem pm_zret {v : Int32} {ty : FieldType} (hr : M.2.2.2.2 = some ty) (hn : narrow ty (.int v) = .int v) (hd : pm_D M.2.2.1 pc .ireturn 1 pc') (hN : N = N0 + mc) (hms : sn ≤ ms) (hQ : Q (some (.int v)) E) : pm_W g M (pm_Fm g d mc ms N0 Q) mc sn pc ls [.int v] N E := by
  intro p l e s m args below meth c hC H locs d0 L hd0 hL hWD hS hz
  subst hN
  refine W.widen (Nat.le_refl _) hms ?_
  refine W.endD hd0 ?_
  exact W.zret hC.1 hC.2.1 (hC.2.2.2.1.trans hr) hn (fun t ht hW => ⟨⟨_, E, rfl, hQ, by rw [ht]; exact hWD⟩, hS.F ht⟩) (fun q hq => hS.2.2 q hq) hd.1 hC.2.2.2.2.1
theorem pm_vret (hr : M.2.2.2.2 = none) (hd : pm_D M.2.2.1 pc .return_ 1 pc') (hN : N = N0 + mc) (hms : sn ≤ ms) (hQ : Q none E) : pm_W g M (pm_Fm g d mc ms N0 Q) mc sn pc ls [] N E := by
  intro p l e s m args below meth c hC H locs d0 L hd0 hL hWD hS hz
  subst hN
  refine W.widen (Nat.le_refl _) hms ?_
  refine W.endD hd0 ?_
  exact W.vret hC.1 hC.2.1 (hC.2.2.2.1.trans hr) (fun t ht hW => ⟨⟨_, E, rfl, hQ, by rw [ht]; exact hWD⟩, hS.F ht⟩) (fun q hq => hS.2.2 q hq) hd.1 hC.2.2.2.2.1
/-- behind a call -/
theorem pm_aft {p : Program} {l : Launch} {e : Env} {R : Room} {s : State} {m : MethodId} {args : Array Value} {below : List Frame} {meth : Method} {c : Code} {H : Heap} {locs : List Loc} {Qf : State → Prop} {d0 : Drawn} {L : Array Slot} {st0 rest : List Value} {a : Array Value} {mc' ms' : Nat} {Q' : Option Value → pm_E → Prop}
    (hr : va_RunD lw_cs p l e R (s.setDrawn d0) m args below meth c H locs cn sn mc' ms' (F0 m pc L st0) rest (pm_Qc g N mc' Q' a) (pm_A g)) (hd0 : s.drawn.sameBut d0 lw_cs) (hWD : pm_WD g N E H) (hS : va_S (pm_A g) s.heap H locs) (hz : H.size = s.heap.size + cn)
    (k : ∀ (r : Option Value) (E1 : pm_E), Q' r E1 → ∀ (H1 : Heap) (locs1 : List Loc) (d1 : Drawn), s.drawn.sameBut d1 lw_cs → pm_WD g (N + mc') E1 H1 → va_S (pm_A g) s.heap H1 locs1 → H1.size = s.heap.size + (cn + mc') → W p l e R (s.setDrawn d1) m args below meth c H1 locs1 (cn + mc') (sn + ms') Qf (F0 m (pc + 3) L (r.toList ++ rest))) : W p l e R (s.setDrawn d0) m args below meth c H locs cn sn Qf (F0 m pc L st0) := by
  intro T hT X
  obtain ⟨v, st₀, t, T', Lc, d', hd', h0, X', hL, e1, e2, ⟨⟨r, E1, hv, hq, hw⟩, hF⟩, stp⟩ := hr T hT X
  cases hv
  have hF1 := hF.1
  have hF2 := hF.2
  rw [h0] at hF1 hF2
  have hsz : T'.heap.size = s.heap.size + (cn + mc') := by
    rw [e1, hw.1]
    have := hWD.1
    omega
  obtain ⟨t2, a1, b1⟩ := k v E1 hq T'.heap (locs ++ Lc) d' (hd0.trans hd') (by rw [e1]; exact hw) ⟨by rw [e1]; exact Nat.le_trans hS.1 hF1, fun q h1 h2 => by rw [e1, hF2 q (Nat.lt_of_lt_of_le h1 hS.1) h2]; exact hS.2.1 q h1 h2, fun q hq => by
      rcases List.mem_append.mp hq with h | h
      · exact hS.2.2 q h
      · exact hL q h⟩ hsz T' rfl X'
  exact ⟨t2, stp t2 a1, b1⟩
theorem pm_blind (g : pm_G) (av : List Value) (N : Nat) (E : pm_E) : FrameBlind (pm_Pc g av N E) := fun a U f mk q => ⟨q.1, q.2.1, va_K.moved (u := U) (U := U.calling f mk a) (Vm.Alike.refl U.vm) q.2.2.1, pm_X.same (u := U) (U := U.calling f mk a) rfl q.2.2.2⟩
theorem pm_pre {X : State → Prop} {p : Program} {s : State} {m : MethodId} {args : Array Value} {meth : Method} {c : Code} {H : Heap} {locs : List Loc} {d0 : Drawn} {av : List Value} (hC : pm_CX g M X p s m args meth c) (hWD : pm_WD g N E H) (hS : va_S (pm_A g) s.heap H locs) (U : State) (hU : U.heap = H) (hW : (s.setDrawn d0).WarmedH U.vm) : pm_Pc g av N E av.toArray U := by
  have hW : s.WarmedH U.vm := hW
  exact ⟨rfl, by rw [hU]; exact hWD, va_K.moved hW.alike hC.2.2.2.2.2.2.2.2.1, pm_X.next hC.2.2.2.2.2.2.2.2.2.1 hW (by rw [hU]; exact hS.2.1)⟩
/-- what the tables say of a method that is called -/
def pm_Mc (M : pm_M) (n : Nat) : Prop := Cond.initialized M.2.1.cls ∈ pm_T ∧ Cond.code M.2.1 M.2.2.1 M.2.2.2.1 M.2.2.2.2 ∈ pm_T ∧ M.2.1.cls ≠ "java/lang/invoke/MethodHandle" ∧ M.2.1.cls ≠ "java/lang/invoke/VarHandle" ∧ (parseMethodDescriptor M.2.1.desc).map (fun d => d.parameters.length) = some n
def pm_MV (M : pm_M) (n : Nat) : Prop := pm_Mc M n ∧ Cond.instanceMethod M.2.1 ∈ pm_T ∧ Cond.selects M.2.1.cls M.2.1 M.2.1 ∈ pm_T
def pm_MS (M : pm_M) (n : Nat) : Prop := pm_Mc M n ∧ Cond.static M.2.1 ∈ pm_T
def pm_MI (M : pm_M) (n : Nat) : Prop := pm_Mc M n ∧ Cond.instanceMethod M.2.1 ∈ pm_T ∧ M.2.1.name = "<init>" ∧ M.2.2.2.2 = none
def pm_CV (M : pm_M) (pc : Nat) (M' : pm_M) (pc' : Nat) : Prop := ∃ idx : Nat, decode M.2.2.1 pc = .ok (.invokevirtual idx, 3) ∧ Cond.methodLink M.1 idx M'.2.1 ∈ pm_T ∧ pc + 3 = pc'
def pm_CS (M : pm_M) (pc : Nat) (M' : pm_M) (pc' : Nat) : Prop := ∃ idx : Nat, decode M.2.2.1 pc = .ok (.invokestatic idx, 3) ∧ Cond.methodLink M.1 idx M'.2.1 ∈ pm_T ∧ pc + 3 = pc'
def pm_CI (M : pm_M) (pc : Nat) (M' : pm_M) (pc' : Nat) : Prop := ∃ idx : Nat, decode M.2.2.1 pc = .ok (.invokespecial idx, 3) ∧ Cond.methodLink M.1 idx M'.2.1 ∈ pm_T ∧ pc + 3 = pc'
def pm_CN (M : pm_M) (pc : Nat) (M' : pm_M) (pc' : Nat) : Prop := ∃ (idx : Nat) (host : String), decode M.2.2.1 pc = .ok (.invokespecial idx, 3) ∧ (M.1, idx, M'.2.1, host) ∈ pm_nest ∧ pc + 3 = pc'
theorem pm_wsgood {M' : pm_M} {n : Nat} (hm : pm_Mc M' n) : GoodIn pm_T (pm_ws M') := fun w h => (List.mem_cons.mp h).elim (fun e => by rw [e]; exact pm_good _ hm.2.1) (pm_good w)
theorem pm_callV {M' : pm_M} {d' mc' ms' n q ci nn : Nat} {As st0 : List Value} {fs : List Value} {T : u_T} {Q' : Option Value → pm_E → Prop} (hd : pm_CV M pc M' pc') (hm : pm_MV M' n) (hn : As.length = n) (hst : st0 = As.reverse ++ .ref (g.2.2.1 + q) :: st) (hq : q < N) (hE : E q = .inr (ci, fs)) (hc : vwCl[ci]? = some (M'.2.1.cls, T, nn))
    (hR : d' + 1 ≤ F.1.frames ∧ 8 + (M'.2.2.2.1 + 11) + 48 * d' ≤ F.1.locals) (hf : cn + mc' ≤ F.1.cells ∧ sn + ms' ≤ F.1.slots) (hs : (st.map fun v => v.category).sum ≤ 8) (hcon : pm_C g M' d' mc' ms' (.ref (g.2.2.1 + q) :: As) N E Q')
    (k : ∀ (r : Option Value) (E1 : pm_E), Q' r E1 → pm_W g M F (cn + mc') (sn + ms') pc' ls (r.toList ++ st) (N + mc') E1) : pm_W g M F cn sn pc ls st0 N E := by
  obtain ⟨idx, hdg, hl, rfl⟩ := hd
  intro p l e s m args below meth c hC H locs d0 L hd0 hL hWD hS hz
  have hts := dr_words hC.2.2.2.2.2.2.2.1 d0
  have hG : GoodIn pm_T (wsV M.1 idx M'.2.1.cls M'.2.1 (pm_ws M')) := by
    intro w h
    rcases List.mem_append.mp h with h | h
    · simp only [List.mem_cons, List.not_mem_nil, or_false] at h
      rcases h with rfl | rfl | rfl | rfl
      · exact pm_good _ hl
      · exact pm_good _ hm.2.1
      · exact pm_good _ hm.2.2
      · exact pm_good _ hm.1.1
    · exact pm_wsgood hm.1 w h
  refine pm_aft (va_runV_D (As := As) (rest := st) ⟨hC.1, hC.2.1, hC.2.2.1, hC.2.2.2.2.2.1, hts⟩ (hcon l) (cwV n hts hG rfl rfl rfl ⟨rfl, hm.1.2.2⟩ hR) ⟨pm_blind g _ N E, va_recv (va_K.moved (u := s) (U := s.setDrawn d0) (Vm.Alike.refl s.vm) hC.2.2.2.2.2.2.2.2.1) hWD.2 hc (show (pm_wl g.2.2.1 N E)[q]? = some (g.2.2.1 + q, .inr (ci, fs)) by rw [pm_wl_get hq, hE]), fun U hU hW => pm_pre hC hWD hS U hU hW⟩ rfl hn hL.1 hst (lv_room hs) hdg hf) hd0 hWD hS hz ?_
  intro r E1 h1 H1 locs1 d1 g1 g2 g3 g4
  exact k r E1 h1 p l e s m args below meth c hC H1 locs1 d1 L g1 hL g2 g3 g4
theorem pm_callS {M' : pm_M} {d' mc' ms' n : Nat} {As st0 : List Value} {Q' : Option Value → pm_E → Prop} (hd : pm_CS M pc M' pc') (hm : pm_MS M' n) (hn : As.length = n) (hst : st0 = As.reverse ++ st)
    (hR : d' + 1 ≤ F.1.frames ∧ 8 + (M'.2.2.2.1 + 11) + 48 * d' ≤ F.1.locals) (hf : cn + mc' ≤ F.1.cells ∧ sn + ms' ≤ F.1.slots) (hs : (st.map fun v => v.category).sum ≤ 8) (hcon : pm_C g M' d' mc' ms' As N E Q')
    (k : ∀ (r : Option Value) (E1 : pm_E), Q' r E1 → pm_W g M F (cn + mc') (sn + ms') pc' ls (r.toList ++ st) (N + mc') E1) : pm_W g M F cn sn pc ls st0 N E := by
  obtain ⟨idx, hdg, hl, rfl⟩ := hd
  intro p l e s m args below meth c hC H locs d0 L hd0 hL hWD hS hz
  have hts := dr_words hC.2.2.2.2.2.2.2.1 d0
  have hG : GoodIn pm_T (va_wsS M.1 idx M'.2.1 (pm_ws M')) := by
    intro w h
    rcases List.mem_append.mp h with h | h
    · simp only [List.mem_cons, List.not_mem_nil, or_false] at h
      rcases h with rfl | rfl | rfl
      · exact pm_good _ hl
      · exact pm_good _ hm.2
      · exact pm_good _ hm.1.1
    · exact pm_wsgood hm.1 w h
  refine pm_aft (va_runS_D (As := As) (rest := st) ⟨hC.1, hC.2.1, hC.2.2.1, hC.2.2.2.2.2.1, hts⟩ (hcon l) (va_cwS n hts hG rfl rfl rfl hm.1.2.2 hR) ⟨pm_blind g _ N E, fun U hU hW => pm_pre hC hWD hS U hU hW⟩ rfl hn hL.1 hst (lv_room hs) hdg hf) hd0 hWD hS hz ?_
  intro r E1 h1 H1 locs1 d1 g1 g2 g3 g4
  exact k r E1 h1 p l e s m args below meth c hC H1 locs1 d1 L g1 hL g2 g3 g4
theorem pm_callI {y : MethodName} {cc : ByteArray} {nL : Nat} {d' mc' ms' n q : Nat} {own : String} {As st0 : List Value} {Q' : Option Value → pm_E → Prop} (hd : pm_CI M pc (own, y, cc, nL, none) pc') (hm : pm_MI (own, y, cc, nL, none) n) (hn : As.length = n) (hst : st0 = As.reverse ++ .ref (g.2.2.1 + q) :: st)
    (hR : d' + 1 ≤ F.1.frames ∧ 8 + (nL + 11) + 48 * d' ≤ F.1.locals) (hf : cn + mc' ≤ F.1.cells ∧ sn + ms' ≤ F.1.slots) (hs : (st.map fun v => v.category).sum ≤ 8) (hcon : pm_C g (own, y, cc, nL, none) d' mc' ms' (.ref (g.2.2.1 + q) :: As) N E Q')
    (k : ∀ (r : Option Value) (E1 : pm_E), Q' r E1 → pm_W g M F (cn + mc') (sn + ms') pc' ls (r.toList ++ st) (N + mc') E1) : pm_W g M F cn sn pc ls st0 N E := by
  obtain ⟨idx, hdg, hl, rfl⟩ := hd
  intro p l e s m args below meth c hC H locs d0 L hd0 hL hWD hS hz
  have hts := dr_words hC.2.2.2.2.2.2.2.1 d0
  refine pm_aft (va_runI_D (As := As) (rest := st) ⟨hC.1, hC.2.1, hC.2.2.1, hC.2.2.2.2.2.1, hts⟩ (hcon l) (cwI n hts (pm_wsgood hm.1) rfl rfl rfl (hts _ hm.1.1) (hts _ hl) (hts _ hm.2.1) hm.2.2.1 hm.1.2.2 hR) ⟨pm_blind g _ N E, fun U hU hW => pm_pre hC hWD hS U hU hW⟩ rfl hn hL.1 hst (lv_room hs) hdg hf) hd0 hWD hS hz ?_
  intro r E1 h1 H1 locs1 d1 g1 g2 g3 g4
  exact k r E1 h1 p l e s m args below meth c hC H1 locs1 d1 L g1 hL g2 g3 g4
theorem pm_callN {y : MethodName} {cc : ByteArray} {nL : Nat} {d' mc' ms' n q : Nat} {own : String} {As st0 : List Value} {Q' : Option Value → pm_E → Prop} (hd : pm_CN M pc (own, y, cc, nL, none) pc') (hm : pm_MI (own, y, cc, nL, none) n) (hn : As.length = n) (hst : st0 = As.reverse ++ .ref (g.2.2.1 + q) :: st)
    (hR : d' + 1 ≤ F.1.frames ∧ 8 + (nL + 11) + 48 * d' ≤ F.1.locals) (hf : cn + mc' ≤ F.1.cells ∧ sn + ms' ≤ F.1.slots) (hs : (st.map fun v => v.category).sum ≤ 8) (hcon : pm_C g (own, y, cc, nL, none) d' mc' ms' (.ref (g.2.2.1 + q) :: As) N E Q')
    (k : ∀ (r : Option Value) (E1 : pm_E), Q' r E1 → pm_W g M F (cn + mc') (sn + ms') pc' ls (r.toList ++ st) (N + mc') E1) : pm_W g M F cn sn pc ls st0 N E := by
  obtain ⟨idx, host, hdg, hl, rfl⟩ := hd
  intro p l e s m args below meth c hC H locs d0 L hd0 hL hWD hS hz
  have hts := dr_words hC.2.2.2.2.2.2.2.1 d0
  have hnw : va_Nw (.methodLinkNest M.1 idx y host) (s.setDrawn d0) := va_Nw.same (u := s) rfl rfl (hC.2.2.2.2.2.2.2.2.2.1.2.2.2.2.1 _ hl)
  refine pm_aft (va_runIN_D (As := As) (rest := st) ⟨hC.1, hC.2.1, hC.2.2.1, hC.2.2.2.2.2.1, hts⟩ (hcon l) ⟨va_cnB n hts (pm_wsgood hm.1) rfl rfl rfl hnw (hts _ hm.1.1) hm.1.2.2 hR, hm.2.2.1, hts _ hm.2.1⟩ ⟨pm_blind g _ N E, fun U hU hW => pm_pre hC hWD hS U hU hW⟩ rfl hn hL.1 hst (lv_room hs) hdg hf) hd0 hWD hS hz ?_
  intro r E1 h1 H1 locs1 d1 g1 g2 g3 g4
  exact k r E1 h1 p l e s m args below meth c hC H1 locs1 d1 L g1 hL g2 g3 g4
/-- a contract may be used where less is asked of its end, or more room is left -/
theorem pm_C.mono {M : pm_M} {av : List Value} {Q Q' : Option Value → pm_E → Prop} (h : pm_C g M d mc ms av N E Q) (hQ : ∀ r E1, Q r E1 → Q' r E1) : pm_C g M d mc ms av N E Q' := by
  intro l p e ha hc hk s m args below hf happ hP hK
  obtain ⟨n, o, h1, h2, h3, d0, h4, ⟨⟨r, E1, e1, e2, e3⟩, h6⟩, h7⟩ := h l p e ha hc hk s m args below hf happ hP hK
  exact ⟨n, o, h1, h2, h3, d0, h4, ⟨⟨r, E1, e1, hQ r E1 e2, e3⟩, h6⟩, h7⟩
end PMC
