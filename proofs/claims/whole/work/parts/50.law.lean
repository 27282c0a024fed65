/-! THE LAW, behind its two constructors: its loop -/
def R_law : String := "WriterPaceLaw"
def lw_P (b : Addr) (xs : List Int32) (args : Array Value) (s : State) : Prop := args = #[.ref b] ∧ s.IntsAt b xs ∧ xs.length ≤ 3072 ∧ (Jvm.Cond.and given_1 narrow_1).before args s = true
/-- what a walk over the start with the record d0 says of its end, said of the start itself -/
theorem lw_closed {s t : State} {o : Outcome} {d0 : Drawn} {L : List Loc} {k n : Nat} (hd0 : s.drawn.sameBut d0 lw_cs) (hv : ∃ v, o = .returned v) (hW : (s.setDrawn d0).WarmedH t.vm) (hs : (s.setDrawn d0).sameButNew ({ t with vm := s.vm } : State) L k n) : State.butDraws s t lw_cs (fun t1 => Framed s o t1 L k n) := by
  have h2 : t.drawn = d0 := congrArg State.drawn hs.1
  refine ⟨⟨hv, hW, State.sameButNew.setDrawn hs s.drawn⟩, ?_, by decide⟩
  rw [h2]
  exact hd0
def lw_Q (_ : Array Value) (s : State) (o : Outcome) (t : State) : Prop := o = .returned (some (.int 1)) ∧ State.butDraws s t lw_cs (fun t1 => Framed s o t1 [] 600000 7302250)
def lw_Z (below : List Frame) (a : Array Value) (s : State) : State → Prop := fun t => ∃ o, t.status = .running ∧ Ended t below o ∧ lw_Q a s o t
/-- the law's own end, with 1 on the stack, nothing written that was there before, its room as the claim has it; d0: the record of draws at this point (at the entry s.drawn: begin with 'refine W.base ?_' and 'have hd0 := Drawn.sameBut.refl s.drawn lw_cs') -/
theorem lw_ret {p : Program} {l : Launch} {e : Env} {s : State} {m : MethodId} {below : List Frame} {meth : Method} {c : Code} {b : Nat} {d0 : Drawn} (hd0 : s.drawn.sameBut d0 lw_cs) (hx : p.tables.exec = Jvm.exec) (hb : c.code = code) (hr : meth.sig.returnType = ret) (hlocks : meth.locks = false) {pc : Nat} {H : Heap} {ls : Array Slot} (hdg : decode code pc = .ok (.ireturn, 1)) : W p l e room_1 (s.setDrawn d0) m #[Value.ref b] below meth c H [] 600000 7302250 (lw_Z below #[Value.ref b] s) (F0 m pc ls [.int 1]) := by
  intro T hT X
  obtain ⟨fs, hret, hrun, hended, hW, hframe⟩ := X.leave (v := some (.int 1)) (hlocks := hlocks) (fun h => by rw [hr] at h; cases h)
  have hmeth' : T.vm.method? m = some meth := X.method'
  refine ⟨T.setFrames fs, ?_, .returned (some (.int 1)), hrun, hended, rfl, lw_closed hd0 ⟨_, rfl⟩ hW hframe⟩
  jvm_step X.here [X.here.top, hx, hb, hdg, hmeth', hr, ret, narrow_b1]
  (try refine ⟨rfl, ?_⟩); (try refine ⟨rfl, ?_⟩)
  first | (intro acts; rw [hret _ acts rfl rfl rfl]) | rw [hret _ _ rfl rfl rfl]
  exact Steps.refl _
/-- what holds at the law's entry: the machine, the code, the tables' words (any of lw_tbl by 'hts w (by decide +kernel)'), the script of L ints xs at the cell b, what the Statement gives of the start (any of its parts by flat_of_before) -/
def lw_At (p : Program) (s : State) (m : MethodId) (meth : Method) (c : Code) (b L : Nat) (xs : Nat → Int32) : Prop :=
  p.tables.exec = Jvm.exec ∧ c.code = code ∧ meth.sig.returnType = ret ∧ c.maxLocals = 4 ∧ s.vm.findClass R_law = some m.cls ∧ (∀ w ∈ lw_tbl, w.before #[Value.ref b] s = true) ∧ va_X b L xs s s.heap ∧ b < s.heap.size ∧ meth.locks = false ∧ (Jvm.Cond.and given_1 narrow_1).before #[Value.ref b] s = true
/-- how the law's walk ends -/
def pl_F (g : pm_G) (b L : Nat) (xs : Nat → Int32) : pm_F := (room_1, fun below args s t => args = #[Value.ref b] → lw_Z below #[Value.ref b] s t, fun s => va_X b L xs s s.heap ∧ b < s.heap.size ∧ g.2.2.1 = s.heap.size)
section PSLAW
variable {g : pm_G} {cn sn pc pc' : Nat} {ls : List (Option Value)} {st : List Value} {N : Nat} {E : pm_E} {b L : Nat} {xs : Nat → Int32} {σ : ps_S}
theorem pl_sld {M : pm_M} {i : Int32} (hd : pm_D M.2.2.1 pc .iaload 1 pc') (hin : vp_in i L) (k : pm_W g M (pl_F g b L xs) cn sn pc' ls (.int (xs i.toNatClampNeg) :: st) N E) : pm_W g M (pl_F g b L xs) cn sn pc ls (.int i :: .ref b :: st) N E := by
  obtain ⟨hdg, rfl⟩ := hd
  intro p l e s m args below meth c hC H locs d0 L0 hd0 hL hWD hS hz
  obtain ⟨hX, hbl, hb0⟩ := hC.2.2.2.2.2.2.2.2.2.2.2
  exact va_sld (s := s.setDrawn d0) (A := pm_A g) hC.1 hC.2.1 hX hbl (by unfold pm_A; omega) hS hin hdg (k p l e s m args below meth c hC H locs d0 L0 hd0 hL hWD hS hz)
theorem pl_slen {M : pm_M} (hd : pm_D M.2.2.1 pc .arraylength 1 pc') (k : pm_W g M (pl_F g b L xs) cn sn pc' ls (.int (Int32.ofNat L) :: st) N E) : pm_W g M (pl_F g b L xs) cn sn pc ls (.ref b :: st) N E := by
  obtain ⟨hdg, rfl⟩ := hd
  intro p l e s m args below meth c hC H locs d0 L0 hd0 hL hWD hS hz
  obtain ⟨hX, hbl, hb0⟩ := hC.2.2.2.2.2.2.2.2.2.2.2
  exact va_slen (s := s.setDrawn d0) (A := pm_A g) hC.1 hC.2.1 hX hbl (by unfold pm_A; omega) hS hdg (k p l e s m args below meth c hC H locs d0 L0 hd0 hL hWD hS hz)
theorem pl_ret' (hcn : cn ≤ 600000) (hsn : sn ≤ 7302250) (hd : pm_D mL_law.2.2.1 pc .ireturn 1 pc') : pm_W g mL_law (pl_F g b L xs) cn sn pc ls [.int 1] N E := by
  intro p l e s m args below meth c hC H locs d0 L0 hd0 hL hWD hS hz
  obtain ⟨hX, hbl, hb0⟩ := hC.2.2.2.2.2.2.2.2.2.2.2
  by_cases ha : args = #[Value.ref b]
  · subst ha
    refine va_forget (s := s.setDrawn d0) (fun q hq => ?_) ?_
    · have h1 : g.2.2.1 ≤ q.base := hS.2.2 q hq
      have h2 : s.heap.size ≤ q.base := by omega
      exact h2
    · refine W.widen hcn hsn ?_
      intro T hT X
      obtain ⟨t, a1, b1⟩ := lw_ret (b := b) hd0 hC.1 hC.2.1 hC.2.2.2.1 hC.2.2.2.2.1 hd.1 T hT X
      exact ⟨t, a1, fun _ => b1⟩
  · intro T hT X
    exact ⟨_, Steps.refl _, fun h => absurd h ha⟩
theorem pl_ret (hd : pm_D mL_law.2.2.1 pc .ireturn 1 pc') : pm_W g mL_law (pl_F g b L xs) 345 17769 pc ls [.int 1] N E := pl_ret' (Nat.le_of_ble_eq_true rfl) (Nat.le_of_ble_eq_true rfl) hd
theorem pl_room {d' nL : Nat} (h : d' ≤ 200) (hn : nL ≤ 29) : ps_room (pl_F g b L xs) 345 17769 d' nL := ⟨by show d' + 1 ≤ 2048; omega, by show _ ≤ 84000; omega, Nat.le_of_ble_eq_true rfl, Nat.le_of_ble_eq_true rfl⟩
end PSLAW
def qLaw (L : Nat) (xs : Nat → Int32) : Nat → Int32 → ps_S → Option (Int32 × ps_S)
  | 0, _, _ => none
  | n + 1, x3, σ =>
    if ((((Int32.ofNat L)) - 6)) < x3 then
    some (1, σ)
    else
    if ps_in x3 L = true then
    ps_let (xs (x3).toNatClampNeg) fun v2 =>
    ps_let ((v2 &&& 63)) fun v4 =>
    if v4 = 0 then
    if ps_in ((x3 + 1)) L = true then
    ps_let (xs ((x3 + 1)).toNatClampNeg) fun v6 =>
    if ps_in ((x3 + 2)) L = true then
    ps_let (xs ((x3 + 2)).toNatClampNeg) fun v8 =>
    if ps_in ((x3 + 3)) L = true then
    ps_let (xs ((x3 + 3)).toNatClampNeg) fun v10 =>
    if ps_in ((x3 + 4)) L = true then
    ps_let (xs ((x3 + 4)).toNatClampNeg) fun v12 =>
    if ps_in ((x3 + 5)) L = true then
    ps_let (xs ((x3 + 5)).toNatClampNeg) fun v14 =>
    ps_bd (qX8_feed v6 v8 v10 v12 v14 σ) (fun v16 σ17 =>
    if ps_in ((x3 + 1)) L = true then
    ps_let (xs ((x3 + 1)).toNatClampNeg) fun v18 =>
    if ps_in ((x3 + 2)) L = true then
    ps_let (xs ((x3 + 2)).toNatClampNeg) fun v20 =>
    if ps_in ((x3 + 3)) L = true then
    ps_let (xs ((x3 + 3)).toNatClampNeg) fun v22 =>
    if ps_in ((x3 + 4)) L = true then
    ps_let (xs ((x3 + 4)).toNatClampNeg) fun v24 =>
    if ps_in ((x3 + 5)) L = true then
    ps_let (xs ((x3 + 5)).toNatClampNeg) fun v26 =>
    ps_bd (qX9_feed v18 v20 v22 v24 v26 σ17) (fun v28 σ29 =>
    if v16 = v28 then
    ps_let (x3 + 6) fun v31 =>
    qLaw L xs n v31 σ29
    else
    some (0, σ29))
    else none
    else none
    else none
    else none
    else none)
    else none
    else none
    else none
    else none
    else none
    else
    if v4 = 1 then
    if ps_in ((x3 + 1)) L = true then
    ps_let (xs ((x3 + 1)).toNatClampNeg) fun v33 =>
    ps_bd (qX8_host v33 σ) (fun v35 σ36 =>
    if ps_in ((x3 + 1)) L = true then
    ps_let (xs ((x3 + 1)).toNatClampNeg) fun v37 =>
    ps_bd (qX9_host v37 σ36) (fun v39 σ40 =>
    if v35 = v39 then
    ps_let (x3 + 6) fun v42 =>
    qLaw L xs n v42 σ40
    else
    some (0, σ40))
    else none)
    else none
    else
    if v4 = 2 then
    if ps_in ((x3 + 1)) L = true then
    ps_let (xs ((x3 + 1)).toNatClampNeg) fun v44 =>
    ps_bd (qX8_fault v44 σ) (fun v46 σ47 =>
    if ps_in ((x3 + 1)) L = true then
    ps_let (xs ((x3 + 1)).toNatClampNeg) fun v48 =>
    ps_bd (qX9_fault v48 σ47) (fun v50 σ51 =>
    if v46 = v50 then
    ps_let (x3 + 6) fun v53 =>
    qLaw L xs n v53 σ51
    else
    some (0, σ51))
    else none)
    else none
    else
    if v4 = 3 then
    if ps_in ((x3 + 1)) L = true then
    ps_let (xs ((x3 + 1)).toNatClampNeg) fun v55 =>
    ps_bd (qX8_set v55 σ) (fun v57 σ58 =>
    if ps_in ((x3 + 1)) L = true then
    ps_let (xs ((x3 + 1)).toNatClampNeg) fun v59 =>
    ps_bd (qX9_set v59 σ58) (fun v61 σ62 =>
    if v57 = v61 then
    ps_let (x3 + 6) fun v64 =>
    qLaw L xs n v64 σ62
    else
    some (0, σ62))
    else none)
    else none
    else
    if v4 = 4 then
    if ps_in ((x3 + 1)) L = true then
    ps_let (xs ((x3 + 1)).toNatClampNeg) fun v66 =>
    if ps_in ((x3 + 2)) L = true then
    ps_let (xs ((x3 + 2)).toNatClampNeg) fun v68 =>
    ps_bd (qX8_device v66 v68 σ) (fun v70 σ71 =>
    if ps_in ((x3 + 1)) L = true then
    ps_let (xs ((x3 + 1)).toNatClampNeg) fun v72 =>
    if ps_in ((x3 + 2)) L = true then
    ps_let (xs ((x3 + 2)).toNatClampNeg) fun v74 =>
    ps_bd (qX9_device v72 v74 σ71) (fun v76 σ77 =>
    if ((lg_cmp v70 v76)) = 0 then
    ps_let (x3 + 6) fun v79 =>
    qLaw L xs n v79 σ77
    else
    some (0, σ77))
    else none
    else none)
    else none
    else none
    else
    if v4 = 5 then
    if ps_in ((x3 + 1)) L = true then
    ps_let (xs ((x3 + 1)).toNatClampNeg) fun v81 =>
    if ps_in ((x3 + 2)) L = true then
    ps_let (xs ((x3 + 2)).toNatClampNeg) fun v83 =>
    ps_bd (qX8_file v81 v83 σ) (fun v85 σ86 =>
    if ps_in ((x3 + 1)) L = true then
    ps_let (xs ((x3 + 1)).toNatClampNeg) fun v87 =>
    if ps_in ((x3 + 2)) L = true then
    ps_let (xs ((x3 + 2)).toNatClampNeg) fun v89 =>
    ps_bd (qX9_file v87 v89 σ86) (fun v91 σ92 =>
    if v85 = v91 then
    ps_let (x3 + 6) fun v94 =>
    qLaw L xs n v94 σ92
    else
    some (0, σ92))
    else none
    else none)
    else none
    else none
    else
    if v4 = 6 then
    if ps_in ((x3 + 1)) L = true then
    ps_let (xs ((x3 + 1)).toNatClampNeg) fun v96 =>
    if ps_in ((x3 + 2)) L = true then
    ps_let (xs ((x3 + 2)).toNatClampNeg) fun v98 =>
    ps_bd (qX8_writer v96 v98 σ) (fun v100 σ101 =>
    if ps_in ((x3 + 1)) L = true then
    ps_let (xs ((x3 + 1)).toNatClampNeg) fun v102 =>
    if ps_in ((x3 + 2)) L = true then
    ps_let (xs ((x3 + 2)).toNatClampNeg) fun v104 =>
    ps_bd (qX9_writer v102 v104 σ101) (fun v106 σ107 =>
    if v100 = v106 then
    ps_let (x3 + 6) fun v109 =>
    qLaw L xs n v109 σ107
    else
    some (0, σ107))
    else none
    else none)
    else none
    else none
    else
    if v4 = 7 then
    if ps_in ((x3 + 1)) L = true then
    ps_let (xs ((x3 + 1)).toNatClampNeg) fun v111 =>
    ps_bd (qX8_next v111 σ) (fun v113 σ114 =>
    if ps_in ((x3 + 1)) L = true then
    ps_let (xs ((x3 + 1)).toNatClampNeg) fun v115 =>
    ps_bd (qX9_next v115 σ114) (fun v117 σ118 =>
    if v113 = v117 then
    ps_let (x3 + 6) fun v120 =>
    qLaw L xs n v120 σ118
    else
    some (0, σ118))
    else none)
    else none
    else
    if v4 = 8 then
    if ps_in ((x3 + 1)) L = true then
    ps_let (xs ((x3 + 1)).toNatClampNeg) fun v122 =>
    if ps_in ((x3 + 2)) L = true then
    ps_let (xs ((x3 + 2)).toNatClampNeg) fun v124 =>
    ps_bd (qX8_pause v122 v124 σ) (fun v126 σ127 =>
    if ps_in ((x3 + 1)) L = true then
    ps_let (xs ((x3 + 1)).toNatClampNeg) fun v128 =>
    if ps_in ((x3 + 2)) L = true then
    ps_let (xs ((x3 + 2)).toNatClampNeg) fun v130 =>
    ps_bd (qX9_pause v128 v130 σ127) (fun v132 σ133 =>
    if v126 = v132 then
    ps_let (x3 + 6) fun v135 =>
    qLaw L xs n v135 σ133
    else
    some (0, σ133))
    else none
    else none)
    else none
    else none
    else
    if v4 = 9 then
    if ps_in ((x3 + 1)) L = true then
    ps_let (xs ((x3 + 1)).toNatClampNeg) fun v137 =>
    ps_bd (qX8_ticks v137 σ) (fun v139 σ140 =>
    if ps_in ((x3 + 1)) L = true then
    ps_let (xs ((x3 + 1)).toNatClampNeg) fun v141 =>
    ps_bd (qX9_ticks v141 σ140) (fun v143 σ144 =>
    if v139 = v143 then
    ps_let (x3 + 6) fun v146 =>
    qLaw L xs n v146 σ144
    else
    some (0, σ144))
    else none)
    else none
    else
    if v4 = 10 then
    if ps_in ((x3 + 1)) L = true then
    ps_let (xs ((x3 + 1)).toNatClampNeg) fun v148 =>
    if ps_in ((x3 + 2)) L = true then
    ps_let (xs ((x3 + 2)).toNatClampNeg) fun v150 =>
    ps_bd (qX8_speed v148 v150 σ) (fun v152 σ153 =>
    if ps_in ((x3 + 1)) L = true then
    ps_let (xs ((x3 + 1)).toNatClampNeg) fun v154 =>
    if ps_in ((x3 + 2)) L = true then
    ps_let (xs ((x3 + 2)).toNatClampNeg) fun v156 =>
    ps_bd (qX9_speed v154 v156 σ153) (fun v158 σ159 =>
    if v152 = v158 then
    ps_let (x3 + 6) fun v161 =>
    qLaw L xs n v161 σ159
    else
    some (0, σ159))
    else none
    else none)
    else none
    else none
    else
    if v4 = 11 then
    if ps_in ((x3 + 1)) L = true then
    ps_let (xs ((x3 + 1)).toNatClampNeg) fun v163 =>
    if ps_in ((x3 + 2)) L = true then
    ps_let (xs ((x3 + 2)).toNatClampNeg) fun v165 =>
    ps_bd (qX8_wants v163 v165 σ) (fun v167 σ168 =>
    if ps_in ((x3 + 1)) L = true then
    ps_let (xs ((x3 + 1)).toNatClampNeg) fun v169 =>
    if ps_in ((x3 + 2)) L = true then
    ps_let (xs ((x3 + 2)).toNatClampNeg) fun v171 =>
    ps_bd (qX9_wants v169 v171 σ168) (fun v173 σ174 =>
    if v167 = v173 then
    ps_let (x3 + 6) fun v176 =>
    qLaw L xs n v176 σ174
    else
    some (0, σ174))
    else none
    else none)
    else none
    else none
    else
    if v4 = 12 then
    if ps_in ((x3 + 1)) L = true then
    ps_let (xs ((x3 + 1)).toNatClampNeg) fun v178 =>
    ps_bd (qX8_undo v178 σ) (fun v180 σ181 =>
    if ps_in ((x3 + 1)) L = true then
    ps_let (xs ((x3 + 1)).toNatClampNeg) fun v182 =>
    ps_bd (qX9_undo v182 σ181) (fun v184 σ185 =>
    if v180 = v184 then
    ps_let (x3 + 6) fun v187 =>
    qLaw L xs n v187 σ185
    else
    some (0, σ185))
    else none)
    else none
    else
    if v4 = 13 then
    if ps_in ((x3 + 1)) L = true then
    ps_let (xs ((x3 + 1)).toNatClampNeg) fun v189 =>
    if ps_in ((x3 + 2)) L = true then
    ps_let (xs ((x3 + 2)).toNatClampNeg) fun v191 =>
    ps_bd (qX8_judge v189 v191 σ) (fun v193 σ194 =>
    if ps_in ((x3 + 1)) L = true then
    ps_let (xs ((x3 + 1)).toNatClampNeg) fun v195 =>
    if ps_in ((x3 + 2)) L = true then
    ps_let (xs ((x3 + 2)).toNatClampNeg) fun v197 =>
    ps_bd (qX9_judge v195 v197 σ194) (fun v199 σ200 =>
    if v193 = v199 then
    ps_let (x3 + 6) fun v202 =>
    qLaw L xs n v202 σ200
    else
    some (0, σ200))
    else none
    else none)
    else none
    else none
    else
    if v4 = 14 then
    if ps_in ((x3 + 1)) L = true then
    ps_let (xs ((x3 + 1)).toNatClampNeg) fun v204 =>
    ps_bd (qX8_perform v204 σ) (fun v206 σ207 =>
    if ps_in ((x3 + 1)) L = true then
    ps_let (xs ((x3 + 1)).toNatClampNeg) fun v208 =>
    ps_bd (qX9_perform v208 σ207) (fun v210 σ211 =>
    if v206 = v210 then
    ps_let (x3 + 6) fun v213 =>
    qLaw L xs n v213 σ211
    else
    some (0, σ211))
    else none)
    else none
    else
    if v4 = 15 then
    if ps_in ((x3 + 1)) L = true then
    ps_let (xs ((x3 + 1)).toNatClampNeg) fun v215 =>
    if ps_in ((x3 + 2)) L = true then
    ps_let (xs ((x3 + 2)).toNatClampNeg) fun v217 =>
    ps_bd (qX8_load v215 v217 σ) (fun v219 σ220 =>
    if ps_in ((x3 + 1)) L = true then
    ps_let (xs ((x3 + 1)).toNatClampNeg) fun v221 =>
    if ps_in ((x3 + 2)) L = true then
    ps_let (xs ((x3 + 2)).toNatClampNeg) fun v223 =>
    ps_bd (qX9_load v221 v223 σ220) (fun v225 σ226 =>
    if v219 = v225 then
    ps_let (x3 + 6) fun v228 =>
    qLaw L xs n v228 σ226
    else
    some (0, σ226))
    else none
    else none)
    else none
    else none
    else
    if v4 = 16 then
    if ps_in ((x3 + 1)) L = true then
    ps_let (xs ((x3 + 1)).toNatClampNeg) fun v230 =>
    if ps_in ((x3 + 2)) L = true then
    ps_let (xs ((x3 + 2)).toNatClampNeg) fun v232 =>
    ps_bd (qX8_later v230 v232 σ) (fun v234 σ235 =>
    if ps_in ((x3 + 1)) L = true then
    ps_let (xs ((x3 + 1)).toNatClampNeg) fun v236 =>
    if ps_in ((x3 + 2)) L = true then
    ps_let (xs ((x3 + 2)).toNatClampNeg) fun v238 =>
    ps_bd (qX9_later v236 v238 σ235) (fun v240 σ241 =>
    if v234 = v240 then
    ps_let (x3 + 6) fun v243 =>
    qLaw L xs n v243 σ241
    else
    some (0, σ241))
    else none
    else none)
    else none
    else none
    else
    if v4 = 17 then
    if ps_in ((x3 + 1)) L = true then
    ps_let (xs ((x3 + 1)).toNatClampNeg) fun v245 =>
    ps_bd (qX8_passes v245 σ) (fun v247 σ248 =>
    if ps_in ((x3 + 1)) L = true then
    ps_let (xs ((x3 + 1)).toNatClampNeg) fun v249 =>
    ps_bd (qX9_passes v249 σ248) (fun v251 σ252 =>
    if v247 = v251 then
    ps_let (x3 + 6) fun v254 =>
    qLaw L xs n v254 σ252
    else
    some (0, σ252))
    else none)
    else none
    else
    if v4 = 18 then
    if ps_in ((x3 + 1)) L = true then
    ps_let (xs ((x3 + 1)).toNatClampNeg) fun v256 =>
    ps_bd (qX8_oldest v256 σ) (fun v258 σ259 =>
    if ps_in ((x3 + 1)) L = true then
    ps_let (xs ((x3 + 1)).toNatClampNeg) fun v260 =>
    ps_bd (qX9_oldest v260 σ259) (fun v262 σ263 =>
    if v258 = v262 then
    ps_let (x3 + 6) fun v265 =>
    qLaw L xs n v265 σ263
    else
    some (0, σ263))
    else none)
    else none
    else
    if v4 = 19 then
    ps_bd (qX8_drains σ) (fun v267 σ268 =>
    ps_bd (qX9_drains σ268) (fun v269 σ270 =>
    if v267 = v269 then
    ps_let (x3 + 6) fun v272 =>
    qLaw L xs n v272 σ270
    else
    some (0, σ270)))
    else
    if v4 = 20 then
    if ps_in ((x3 + 1)) L = true then
    ps_let (xs ((x3 + 1)).toNatClampNeg) fun v274 =>
    if ps_in ((x3 + 2)) L = true then
    ps_let (xs ((x3 + 2)).toNatClampNeg) fun v276 =>
    ps_bd (qX8_written v274 v276 σ) (fun v278 σ279 =>
    if ps_in ((x3 + 1)) L = true then
    ps_let (xs ((x3 + 1)).toNatClampNeg) fun v280 =>
    if ps_in ((x3 + 2)) L = true then
    ps_let (xs ((x3 + 2)).toNatClampNeg) fun v282 =>
    ps_bd (qX9_written v280 v282 σ279) (fun v284 σ285 =>
    if v278 = v284 then
    ps_let (x3 + 6) fun v287 =>
    qLaw L xs n v287 σ285
    else
    some (0, σ285))
    else none
    else none)
    else none
    else none
    else
    if v4 = 21 then
    if ps_in ((x3 + 1)) L = true then
    ps_let (xs ((x3 + 1)).toNatClampNeg) fun v289 =>
    if ps_in ((x3 + 2)) L = true then
    ps_let (xs ((x3 + 2)).toNatClampNeg) fun v291 =>
    ps_bd (qX8_starved v289 v291 σ) (fun v293 σ294 =>
    if ps_in ((x3 + 1)) L = true then
    ps_let (xs ((x3 + 1)).toNatClampNeg) fun v295 =>
    if ps_in ((x3 + 2)) L = true then
    ps_let (xs ((x3 + 2)).toNatClampNeg) fun v297 =>
    ps_bd (qX9_starved v295 v297 σ294) (fun v299 σ300 =>
    if v293 = v299 then
    ps_let (x3 + 6) fun v302 =>
    qLaw L xs n v302 σ300
    else
    some (0, σ300))
    else none
    else none)
    else none
    else none
    else
    if v4 = 22 then
    if ps_in ((x3 + 1)) L = true then
    ps_let (xs ((x3 + 1)).toNatClampNeg) fun v304 =>
    if ps_in ((x3 + 2)) L = true then
    ps_let (xs ((x3 + 2)).toNatClampNeg) fun v306 =>
    ps_bd (qX8_fair v304 v306 σ) (fun v308 σ309 =>
    if ps_in ((x3 + 1)) L = true then
    ps_let (xs ((x3 + 1)).toNatClampNeg) fun v310 =>
    if ps_in ((x3 + 2)) L = true then
    ps_let (xs ((x3 + 2)).toNatClampNeg) fun v312 =>
    ps_bd (qX9_fair v310 v312 σ309) (fun v314 σ315 =>
    if ((lg_cmp v308 v314)) = 0 then
    ps_let (x3 + 6) fun v317 =>
    qLaw L xs n v317 σ315
    else
    some (0, σ315))
    else none
    else none)
    else none
    else none
    else
    if v4 = 23 then
    if ps_in ((x3 + 1)) L = true then
    ps_let (xs ((x3 + 1)).toNatClampNeg) fun v319 =>
    if ps_in ((x3 + 2)) L = true then
    ps_let (xs ((x3 + 2)).toNatClampNeg) fun v321 =>
    ps_bd (qX8_most v319 v321 σ) (fun v323 σ324 =>
    if ps_in ((x3 + 1)) L = true then
    ps_let (xs ((x3 + 1)).toNatClampNeg) fun v325 =>
    if ps_in ((x3 + 2)) L = true then
    ps_let (xs ((x3 + 2)).toNatClampNeg) fun v327 =>
    ps_bd (qX9_most v325 v327 σ324) (fun v329 σ330 =>
    if v323 = v329 then
    ps_let (x3 + 6) fun v332 =>
    qLaw L xs n v332 σ330
    else
    some (0, σ330))
    else none
    else none)
    else none
    else none
    else
    if v4 = 24 then
    if ps_in ((x3 + 1)) L = true then
    ps_let (xs ((x3 + 1)).toNatClampNeg) fun v334 =>
    ps_bd (qX8_held v334 σ) (fun v336 σ337 =>
    if ps_in ((x3 + 1)) L = true then
    ps_let (xs ((x3 + 1)).toNatClampNeg) fun v338 =>
    ps_bd (qX9_held v338 σ337) (fun v340 σ341 =>
    if v336 = v340 then
    ps_let (x3 + 6) fun v343 =>
    qLaw L xs n v343 σ341
    else
    some (0, σ341))
    else none)
    else none
    else
    if v4 = 25 then
    if ps_in ((x3 + 1)) L = true then
    ps_let (xs ((x3 + 1)).toNatClampNeg) fun v345 =>
    ps_bd (qX8_enough v345 σ) (fun v347 σ348 =>
    if ps_in ((x3 + 1)) L = true then
    ps_let (xs ((x3 + 1)).toNatClampNeg) fun v349 =>
    ps_bd (qX9_enough v349 σ348) (fun v351 σ352 =>
    if v347 = v351 then
    ps_let (x3 + 6) fun v354 =>
    qLaw L xs n v354 σ352
    else
    some (0, σ352))
    else none)
    else none
    else
    if v4 = 26 then
    if ps_in ((x3 + 1)) L = true then
    ps_let (xs ((x3 + 1)).toNatClampNeg) fun v356 =>
    if ps_in ((x3 + 2)) L = true then
    ps_let (xs ((x3 + 2)).toNatClampNeg) fun v358 =>
    ps_bd (qX8_bears v356 v358 σ) (fun v360 σ361 =>
    if ps_in ((x3 + 1)) L = true then
    ps_let (xs ((x3 + 1)).toNatClampNeg) fun v362 =>
    if ps_in ((x3 + 2)) L = true then
    ps_let (xs ((x3 + 2)).toNatClampNeg) fun v364 =>
    ps_bd (qX9_bears v362 v364 σ361) (fun v366 σ367 =>
    if v360 = v366 then
    ps_let (x3 + 6) fun v369 =>
    qLaw L xs n v369 σ367
    else
    some (0, σ367))
    else none
    else none)
    else none
    else none
    else
    if v4 = 27 then
    if ps_in ((x3 + 1)) L = true then
    ps_let (xs ((x3 + 1)).toNatClampNeg) fun v371 =>
    if ps_in ((x3 + 2)) L = true then
    ps_let (xs ((x3 + 2)).toNatClampNeg) fun v373 =>
    if ps_in ((x3 + 3)) L = true then
    ps_let (xs ((x3 + 3)).toNatClampNeg) fun v375 =>
    ps_bd (qX8_speeds v371 v373 v375 σ) (fun v377 σ378 =>
    if ps_in ((x3 + 1)) L = true then
    ps_let (xs ((x3 + 1)).toNatClampNeg) fun v379 =>
    if ps_in ((x3 + 2)) L = true then
    ps_let (xs ((x3 + 2)).toNatClampNeg) fun v381 =>
    if ps_in ((x3 + 3)) L = true then
    ps_let (xs ((x3 + 3)).toNatClampNeg) fun v383 =>
    ps_bd (qX9_speeds v379 v381 v383 σ378) (fun v385 σ386 =>
    if v377 = v385 then
    ps_let (x3 + 6) fun v388 =>
    qLaw L xs n v388 σ386
    else
    some (0, σ386))
    else none
    else none
    else none)
    else none
    else none
    else none
    else
    if v4 = 28 then
    if ps_in ((x3 + 1)) L = true then
    ps_let (xs ((x3 + 1)).toNatClampNeg) fun v390 =>
    ps_bd (qX8_busiest v390 σ) (fun v392 σ393 =>
    if ps_in ((x3 + 1)) L = true then
    ps_let (xs ((x3 + 1)).toNatClampNeg) fun v394 =>
    ps_bd (qX9_busiest v394 σ393) (fun v396 σ397 =>
    if v392 = v396 then
    ps_let (x3 + 6) fun v399 =>
    qLaw L xs n v399 σ397
    else
    some (0, σ397))
    else none)
    else none
    else
    if v4 = 29 then
    if ps_in ((x3 + 1)) L = true then
    ps_let (xs ((x3 + 1)).toNatClampNeg) fun v401 =>
    if ps_in ((x3 + 2)) L = true then
    ps_let (xs ((x3 + 2)).toNatClampNeg) fun v403 =>
    if ps_in ((x3 + 3)) L = true then
    ps_let (xs ((x3 + 3)).toNatClampNeg) fun v405 =>
    ps_bd (qX8_chance v401 v403 v405 σ) (fun v407 σ408 =>
    if ps_in ((x3 + 1)) L = true then
    ps_let (xs ((x3 + 1)).toNatClampNeg) fun v409 =>
    if ps_in ((x3 + 2)) L = true then
    ps_let (xs ((x3 + 2)).toNatClampNeg) fun v411 =>
    if ps_in ((x3 + 3)) L = true then
    ps_let (xs ((x3 + 3)).toNatClampNeg) fun v413 =>
    ps_bd (qX9_chance v409 v411 v413 σ408) (fun v415 σ416 =>
    if v407 = v415 then
    ps_let (x3 + 6) fun v418 =>
    qLaw L xs n v418 σ416
    else
    some (0, σ416))
    else none
    else none
    else none)
    else none
    else none
    else none
    else
    if v4 = 30 then
    if ps_in ((x3 + 1)) L = true then
    ps_let (xs ((x3 + 1)).toNatClampNeg) fun v420 =>
    if ps_in ((x3 + 2)) L = true then
    ps_let (xs ((x3 + 2)).toNatClampNeg) fun v422 =>
    ps_bd (qX8_mean v420 v422 σ) (fun v424 σ425 =>
    if ps_in ((x3 + 1)) L = true then
    ps_let (xs ((x3 + 1)).toNatClampNeg) fun v426 =>
    if ps_in ((x3 + 2)) L = true then
    ps_let (xs ((x3 + 2)).toNatClampNeg) fun v428 =>
    ps_bd (qX9_mean v426 v428 σ425) (fun v430 σ431 =>
    if v424 = v430 then
    ps_let (x3 + 6) fun v433 =>
    qLaw L xs n v433 σ431
    else
    some (0, σ431))
    else none
    else none)
    else none
    else none
    else
    if v4 = 31 then
    if ps_in ((x3 + 1)) L = true then
    ps_let (xs ((x3 + 1)).toNatClampNeg) fun v435 =>
    if ps_in ((x3 + 2)) L = true then
    ps_let (xs ((x3 + 2)).toNatClampNeg) fun v437 =>
    if ps_in ((x3 + 3)) L = true then
    ps_let (xs ((x3 + 3)).toNatClampNeg) fun v439 =>
    ps_bd (qX8_numbers v435 v437 v439 σ) (fun v441 σ442 =>
    if ps_in ((x3 + 1)) L = true then
    ps_let (xs ((x3 + 1)).toNatClampNeg) fun v443 =>
    if ps_in ((x3 + 2)) L = true then
    ps_let (xs ((x3 + 2)).toNatClampNeg) fun v445 =>
    if ps_in ((x3 + 3)) L = true then
    ps_let (xs ((x3 + 3)).toNatClampNeg) fun v447 =>
    ps_bd (qX9_numbers v443 v445 v447 σ442) (fun v449 σ450 =>
    if v441 = v449 then
    ps_let (x3 + 6) fun v452 =>
    qLaw L xs n v452 σ450
    else
    some (0, σ450))
    else none
    else none
    else none)
    else none
    else none
    else none
    else
    if v4 = 32 then
    if ps_in ((x3 + 1)) L = true then
    ps_let (xs ((x3 + 1)).toNatClampNeg) fun v454 =>
    if ps_in ((x3 + 2)) L = true then
    ps_let (xs ((x3 + 2)).toNatClampNeg) fun v456 =>
    if ps_in ((x3 + 3)) L = true then
    ps_let (xs ((x3 + 3)).toNatClampNeg) fun v458 =>
    if ps_in ((x3 + 4)) L = true then
    ps_let (xs ((x3 + 4)).toNatClampNeg) fun v460 =>
    ps_bd (qX8_write v454 v456 (((((((v458).toInt64)) <<< ((32 : Int32).toInt64 &&& 63))) ||| (((((v460).toInt64)) &&& 4294967295)))) σ) (fun v462 σ463 =>
    if ps_in ((x3 + 1)) L = true then
    ps_let (xs ((x3 + 1)).toNatClampNeg) fun v464 =>
    if ps_in ((x3 + 2)) L = true then
    ps_let (xs ((x3 + 2)).toNatClampNeg) fun v466 =>
    if ps_in ((x3 + 3)) L = true then
    ps_let (xs ((x3 + 3)).toNatClampNeg) fun v468 =>
    if ps_in ((x3 + 4)) L = true then
    ps_let (xs ((x3 + 4)).toNatClampNeg) fun v470 =>
    ps_bd (qX9_write v464 v466 (((((((v468).toInt64)) <<< ((32 : Int32).toInt64 &&& 63))) ||| (((((v470).toInt64)) &&& 4294967295)))) σ463) (fun v472 σ473 =>
    if ((lg_cmp v462 v472)) = 0 then
    ps_let (x3 + 6) fun v475 =>
    qLaw L xs n v475 σ473
    else
    some (0, σ473))
    else none
    else none
    else none
    else none)
    else none
    else none
    else none
    else none
    else
    if v4 = 33 then
    if ps_in ((x3 + 1)) L = true then
    ps_let (xs ((x3 + 1)).toNatClampNeg) fun v477 =>
    if ps_in ((x3 + 2)) L = true then
    ps_let (xs ((x3 + 2)).toNatClampNeg) fun v479 =>
    ps_bd (qX8_lists v477 v479 σ) (fun v481 σ482 =>
    if ps_in ((x3 + 1)) L = true then
    ps_let (xs ((x3 + 1)).toNatClampNeg) fun v483 =>
    if ps_in ((x3 + 2)) L = true then
    ps_let (xs ((x3 + 2)).toNatClampNeg) fun v485 =>
    ps_bd (qX9_lists v483 v485 σ482) (fun v487 σ488 =>
    if v481 = v487 then
    ps_let (x3 + 6) fun v490 =>
    qLaw L xs n v490 σ488
    else
    some (0, σ488))
    else none
    else none)
    else none
    else none
    else
    if v4 = 34 then
    if ps_in ((x3 + 1)) L = true then
    ps_let (xs ((x3 + 1)).toNatClampNeg) fun v492 =>
    ps_bd (qX8_image v492 σ) (fun v494 σ495 =>
    if ps_in ((x3 + 1)) L = true then
    ps_let (xs ((x3 + 1)).toNatClampNeg) fun v496 =>
    ps_bd (qX9_image v496 σ495) (fun v498 σ499 =>
    if v494 = v498 then
    ps_let (x3 + 6) fun v501 =>
    qLaw L xs n v501 σ499
    else
    some (0, σ499))
    else none)
    else none
    else
    if v4 = 35 then
    if ps_in ((x3 + 1)) L = true then
    ps_let (xs ((x3 + 1)).toNatClampNeg) fun v503 =>
    ps_bd (qX8_restore v503 σ) (fun v505 σ506 =>
    if ps_in ((x3 + 1)) L = true then
    ps_let (xs ((x3 + 1)).toNatClampNeg) fun v507 =>
    ps_bd (qX9_restore v507 σ506) (fun v509 σ510 =>
    if v505 = v509 then
    ps_let (x3 + 6) fun v512 =>
    qLaw L xs n v512 σ510
    else
    some (0, σ510))
    else none)
    else none
    else
    if v4 = 36 then
    if ps_in ((x3 + 1)) L = true then
    ps_let (xs ((x3 + 1)).toNatClampNeg) fun v514 =>
    ps_bd (qX8_count v514 σ) (fun v516 σ517 =>
    if ps_in ((x3 + 1)) L = true then
    ps_let (xs ((x3 + 1)).toNatClampNeg) fun v518 =>
    ps_bd (qX9_count v518 σ517) (fun v520 σ521 =>
    if v516 = v520 then
    ps_let (x3 + 6) fun v523 =>
    qLaw L xs n v523 σ521
    else
    some (0, σ521))
    else none)
    else none
    else
    ps_let (x3 + 6) fun v524 =>
    qLaw L xs n v524 σ
    else none
set_option maxRecDepth 100000 in
set_option maxHeartbeats 4000000 in
theorem L_law {g : pm_G} {b L : Nat} {xs : Nat → Int32} : ∀ (n : Nat) (x3 : Int32) (σ : ps_S), ps_ok (qLaw L xs n x3 σ) (fun r _ => r = 1) → pm_W g mL_law (pl_F g b L xs) 345 17769 18 [some (.ref b), some (.ref (g.2.2.1 + 0)), some (.ref (g.2.2.1 + 327)), some (.int x3)] [] 345 (ps_E g σ) := by
  intro n
  induction n with
  | zero => intro x3 σ hK; exact (ps_no hK).elim
  | succ n ih =>
    intro x3 σ hK
    rw [qLaw] at hK
    refine pm_ild d_L_law_18 rfl ?_
    refine pm_ald d_L_law_19 rfl ?_
    refine pl_slen d_L_law_20 ?_
    refine pm_ki d_L_law_21 ?_
    refine pm_isub d_L_law_23 ?_
    refine pm_icmp_gt d_L_law_24 (fun c1 => ?_) (fun c1 => ?_)
    · replace hK := ps_ifT c1 hK
      refine pm_ki d_L_law_1356 ?_
      exact pl_ret d_L_law_1357
    · replace hK := ps_ifF c1 hK
      refine pm_ald d_L_law_27 rfl ?_
      refine pm_ild d_L_law_28 rfl ?_
      obtain ⟨b3, hT⟩ := ps_gd hK
      replace hK := hT
      clear hT
      refine pl_sld d_L_law_29 (ps_in_of b3) ?_
      refine ps_topI (fun v2 ev2 => ?_)
      replace hK := ps_ltE ev2 hK
      refine pm_ki d_L_law_30 ?_
      refine pm_iand d_L_law_32 ?_
      refine ps_topI (fun v4 ev4 => ?_)
      replace hK := ps_ltE ev4 hK
      by_cases c5 : v4 = 0
      · replace hK := ps_ifT c5 hK
        refine pm_tabIn (tgt := 196) (off := 163) d_L_law_33 (by rw [c5]; decide) (by rw [c5]; decide) (by rw [c5]; rfl) (by decide) ?_
        refine pm_ald d_L_law_196 rfl ?_
        refine pm_ald d_L_law_197 rfl ?_
        refine pm_ild d_L_law_198 rfl ?_
        refine pm_ki d_L_law_199 ?_
        refine pm_iadd d_L_law_200 ?_
        obtain ⟨b7, hT⟩ := ps_gd hK
        replace hK := hT
        clear hT
        refine pl_sld d_L_law_201 (ps_in_of b7) ?_
        refine ps_topI (fun v6 ev6 => ?_)
        replace hK := ps_ltE ev6 hK
        refine pm_ald d_L_law_202 rfl ?_
        refine pm_ild d_L_law_203 rfl ?_
        refine pm_ki d_L_law_204 ?_
        refine pm_iadd d_L_law_205 ?_
        obtain ⟨b9, hT⟩ := ps_gd hK
        replace hK := hT
        clear hT
        refine pl_sld d_L_law_206 (ps_in_of b9) ?_
        refine ps_topI (fun v8 ev8 => ?_)
        replace hK := ps_ltE ev8 hK
        refine pm_ald d_L_law_207 rfl ?_
        refine pm_ild d_L_law_208 rfl ?_
        refine pm_ki d_L_law_209 ?_
        refine pm_iadd d_L_law_210 ?_
        obtain ⟨b11, hT⟩ := ps_gd hK
        replace hK := hT
        clear hT
        refine pl_sld d_L_law_211 (ps_in_of b11) ?_
        refine ps_topI (fun v10 ev10 => ?_)
        replace hK := ps_ltE ev10 hK
        refine pm_ald d_L_law_212 rfl ?_
        refine pm_ild d_L_law_213 rfl ?_
        refine pm_ki d_L_law_214 ?_
        refine pm_iadd d_L_law_215 ?_
        obtain ⟨b13, hT⟩ := ps_gd hK
        replace hK := hT
        clear hT
        refine pl_sld d_L_law_216 (ps_in_of b13) ?_
        refine ps_topI (fun v12 ev12 => ?_)
        replace hK := ps_ltE ev12 hK
        refine pm_ald d_L_law_217 rfl ?_
        refine pm_ild d_L_law_218 rfl ?_
        refine pm_ki d_L_law_219 ?_
        refine pm_iadd d_L_law_220 ?_
        obtain ⟨b15, hT⟩ := ps_gd hK
        replace hK := hT
        clear hT
        refine pl_sld d_L_law_221 (ps_in_of b15) ?_
        refine ps_topI (fun v14 ev14 => ?_)
        replace hK := ps_ltE ev14 hK
        refine ps_cVI d_L_law_222 mv_X8_feed at_0 ob_0_0 rfl (As := [.int v6, .int v8, .int v10, .int v12, .int v14]) rfl rfl (pl_room (by decide) (by decide)) (Nat.le_of_ble_eq_true rfl) (C_X8_feed v6 v8 v10 v12 v14 σ _ (ps_bdE hK)) ?_
        intro v16 σ17 hT
        clear hK
        have hK := hT
        clear hT
        refine pm_ald d_L_law_225 rfl ?_
        refine pm_ald d_L_law_226 rfl ?_
        refine pm_ild d_L_law_227 rfl ?_
        refine pm_ki d_L_law_228 ?_
        refine pm_iadd d_L_law_229 ?_
        obtain ⟨b19, hT⟩ := ps_gd hK
        replace hK := hT
        clear hT
        refine pl_sld d_L_law_230 (ps_in_of b19) ?_
        refine ps_topI (fun v18 ev18 => ?_)
        replace hK := ps_ltE ev18 hK
        refine pm_ald d_L_law_231 rfl ?_
        refine pm_ild d_L_law_232 rfl ?_
        refine pm_ki d_L_law_233 ?_
        refine pm_iadd d_L_law_234 ?_
        obtain ⟨b21, hT⟩ := ps_gd hK
        replace hK := hT
        clear hT
        refine pl_sld d_L_law_235 (ps_in_of b21) ?_
        refine ps_topI (fun v20 ev20 => ?_)
        replace hK := ps_ltE ev20 hK
        refine pm_ald d_L_law_236 rfl ?_
        refine pm_ild d_L_law_237 rfl ?_
        refine pm_ki d_L_law_238 ?_
        refine pm_iadd d_L_law_239 ?_
        obtain ⟨b23, hT⟩ := ps_gd hK
        replace hK := hT
        clear hT
        refine pl_sld d_L_law_240 (ps_in_of b23) ?_
        refine ps_topI (fun v22 ev22 => ?_)
        replace hK := ps_ltE ev22 hK
        refine pm_ald d_L_law_241 rfl ?_
        refine pm_ild d_L_law_242 rfl ?_
        refine pm_ki d_L_law_243 ?_
        refine pm_iadd d_L_law_244 ?_
        obtain ⟨b25, hT⟩ := ps_gd hK
        replace hK := hT
        clear hT
        refine pl_sld d_L_law_245 (ps_in_of b25) ?_
        refine ps_topI (fun v24 ev24 => ?_)
        replace hK := ps_ltE ev24 hK
        refine pm_ald d_L_law_246 rfl ?_
        refine pm_ild d_L_law_247 rfl ?_
        refine pm_ki d_L_law_248 ?_
        refine pm_iadd d_L_law_249 ?_
        obtain ⟨b27, hT⟩ := ps_gd hK
        replace hK := hT
        clear hT
        refine pl_sld d_L_law_250 (ps_in_of b27) ?_
        refine ps_topI (fun v26 ev26 => ?_)
        replace hK := ps_ltE ev26 hK
        refine ps_cVI d_L_law_251 mv_X9_feed at_327 ob_8_0 rfl (As := [.int v18, .int v20, .int v22, .int v24, .int v26]) rfl rfl (pl_room (by decide) (by decide)) (Nat.le_of_ble_eq_true rfl) (C_X9_feed v18 v20 v22 v24 v26 σ17 _ (ps_bdE hK)) ?_
        intro v28 σ29 hT
        clear hK
        have hK := hT
        clear hT
        refine pm_icmp_eq d_L_law_254 (fun c30 => ?_) (fun c30 => ?_)
        · replace hK := ps_ifT c30 hK
          refine pm_inc3 d_L_law_1350 rfl ?_
          obtain ⟨v31, ev31⟩ : ∃ y : Int32, y = x3 + 6 := ⟨_, rfl⟩
          rw [← ev31]
          replace hK := ps_ltE ev31 hK
          refine pm_goto d_L_law_1353 ?_
          exact ih _ _ hK
        · replace hK := ps_ifF c30 hK
          refine pm_ki d_L_law_257 ?_
          exact absurd (ps_so hK) (by decide)
      replace hK := ps_ifF c5 hK
      by_cases c32 : v4 = 1
      · replace hK := ps_ifT c32 hK
        refine pm_tabIn (tgt := 259) (off := 226) d_L_law_33 (by rw [c32]; decide) (by rw [c32]; decide) (by rw [c32]; rfl) (by decide) ?_
        refine pm_ald d_L_law_259 rfl ?_
        refine pm_ald d_L_law_260 rfl ?_
        refine pm_ild d_L_law_261 rfl ?_
        refine pm_ki d_L_law_262 ?_
        refine pm_iadd d_L_law_263 ?_
        obtain ⟨b34, hT⟩ := ps_gd hK
        replace hK := hT
        clear hT
        refine pl_sld d_L_law_264 (ps_in_of b34) ?_
        refine ps_topI (fun v33 ev33 => ?_)
        replace hK := ps_ltE ev33 hK
        refine ps_cVI d_L_law_265 mv_X8_host at_0 ob_0_0 rfl (As := [.int v33]) rfl rfl (pl_room (by decide) (by decide)) (Nat.le_of_ble_eq_true rfl) (C_X8_host v33 σ _ (ps_bdE hK)) ?_
        intro v35 σ36 hT
        clear hK
        have hK := hT
        clear hT
        refine pm_ald d_L_law_268 rfl ?_
        refine pm_ald d_L_law_269 rfl ?_
        refine pm_ild d_L_law_270 rfl ?_
        refine pm_ki d_L_law_271 ?_
        refine pm_iadd d_L_law_272 ?_
        obtain ⟨b38, hT⟩ := ps_gd hK
        replace hK := hT
        clear hT
        refine pl_sld d_L_law_273 (ps_in_of b38) ?_
        refine ps_topI (fun v37 ev37 => ?_)
        replace hK := ps_ltE ev37 hK
        refine ps_cVI d_L_law_274 mv_X9_host at_327 ob_8_0 rfl (As := [.int v37]) rfl rfl (pl_room (by decide) (by decide)) (Nat.le_of_ble_eq_true rfl) (C_X9_host v37 σ36 _ (ps_bdE hK)) ?_
        intro v39 σ40 hT
        clear hK
        have hK := hT
        clear hT
        refine pm_icmp_eq d_L_law_277 (fun c41 => ?_) (fun c41 => ?_)
        · replace hK := ps_ifT c41 hK
          refine pm_inc3 d_L_law_1350 rfl ?_
          obtain ⟨v42, ev42⟩ : ∃ y : Int32, y = x3 + 6 := ⟨_, rfl⟩
          rw [← ev42]
          replace hK := ps_ltE ev42 hK
          refine pm_goto d_L_law_1353 ?_
          exact ih _ _ hK
        · replace hK := ps_ifF c41 hK
          refine pm_ki d_L_law_280 ?_
          exact absurd (ps_so hK) (by decide)
      replace hK := ps_ifF c32 hK
      by_cases c43 : v4 = 2
      · replace hK := ps_ifT c43 hK
        refine pm_tabIn (tgt := 282) (off := 249) d_L_law_33 (by rw [c43]; decide) (by rw [c43]; decide) (by rw [c43]; rfl) (by decide) ?_
        refine pm_ald d_L_law_282 rfl ?_
        refine pm_ald d_L_law_283 rfl ?_
        refine pm_ild d_L_law_284 rfl ?_
        refine pm_ki d_L_law_285 ?_
        refine pm_iadd d_L_law_286 ?_
        obtain ⟨b45, hT⟩ := ps_gd hK
        replace hK := hT
        clear hT
        refine pl_sld d_L_law_287 (ps_in_of b45) ?_
        refine ps_topI (fun v44 ev44 => ?_)
        replace hK := ps_ltE ev44 hK
        refine ps_cVI d_L_law_288 mv_X8_fault at_0 ob_0_0 rfl (As := [.int v44]) rfl rfl (pl_room (by decide) (by decide)) (Nat.le_of_ble_eq_true rfl) (C_X8_fault v44 σ _ (ps_bdE hK)) ?_
        intro v46 σ47 hT
        clear hK
        have hK := hT
        clear hT
        refine pm_ald d_L_law_291 rfl ?_
        refine pm_ald d_L_law_292 rfl ?_
        refine pm_ild d_L_law_293 rfl ?_
        refine pm_ki d_L_law_294 ?_
        refine pm_iadd d_L_law_295 ?_
        obtain ⟨b49, hT⟩ := ps_gd hK
        replace hK := hT
        clear hT
        refine pl_sld d_L_law_296 (ps_in_of b49) ?_
        refine ps_topI (fun v48 ev48 => ?_)
        replace hK := ps_ltE ev48 hK
        refine ps_cVI d_L_law_297 mv_X9_fault at_327 ob_8_0 rfl (As := [.int v48]) rfl rfl (pl_room (by decide) (by decide)) (Nat.le_of_ble_eq_true rfl) (C_X9_fault v48 σ47 _ (ps_bdE hK)) ?_
        intro v50 σ51 hT
        clear hK
        have hK := hT
        clear hT
        refine pm_icmp_eq d_L_law_300 (fun c52 => ?_) (fun c52 => ?_)
        · replace hK := ps_ifT c52 hK
          refine pm_inc3 d_L_law_1350 rfl ?_
          obtain ⟨v53, ev53⟩ : ∃ y : Int32, y = x3 + 6 := ⟨_, rfl⟩
          rw [← ev53]
          replace hK := ps_ltE ev53 hK
          refine pm_goto d_L_law_1353 ?_
          exact ih _ _ hK
        · replace hK := ps_ifF c52 hK
          refine pm_ki d_L_law_303 ?_
          exact absurd (ps_so hK) (by decide)
      replace hK := ps_ifF c43 hK
      by_cases c54 : v4 = 3
      · replace hK := ps_ifT c54 hK
        refine pm_tabIn (tgt := 305) (off := 272) d_L_law_33 (by rw [c54]; decide) (by rw [c54]; decide) (by rw [c54]; rfl) (by decide) ?_
        refine pm_ald d_L_law_305 rfl ?_
        refine pm_ald d_L_law_306 rfl ?_
        refine pm_ild d_L_law_307 rfl ?_
        refine pm_ki d_L_law_308 ?_
        refine pm_iadd d_L_law_309 ?_
        obtain ⟨b56, hT⟩ := ps_gd hK
        replace hK := hT
        clear hT
        refine pl_sld d_L_law_310 (ps_in_of b56) ?_
        refine ps_topI (fun v55 ev55 => ?_)
        replace hK := ps_ltE ev55 hK
        refine ps_cVI d_L_law_311 mv_X8_set at_0 ob_0_0 rfl (As := [.int v55]) rfl rfl (pl_room (by decide) (by decide)) (Nat.le_of_ble_eq_true rfl) (C_X8_set v55 σ _ (ps_bdE hK)) ?_
        intro v57 σ58 hT
        clear hK
        have hK := hT
        clear hT
        refine pm_ald d_L_law_314 rfl ?_
        refine pm_ald d_L_law_315 rfl ?_
        refine pm_ild d_L_law_316 rfl ?_
        refine pm_ki d_L_law_317 ?_
        refine pm_iadd d_L_law_318 ?_
        obtain ⟨b60, hT⟩ := ps_gd hK
        replace hK := hT
        clear hT
        refine pl_sld d_L_law_319 (ps_in_of b60) ?_
        refine ps_topI (fun v59 ev59 => ?_)
        replace hK := ps_ltE ev59 hK
        refine ps_cVI d_L_law_320 mv_X9_set at_327 ob_8_0 rfl (As := [.int v59]) rfl rfl (pl_room (by decide) (by decide)) (Nat.le_of_ble_eq_true rfl) (C_X9_set v59 σ58 _ (ps_bdE hK)) ?_
        intro v61 σ62 hT
        clear hK
        have hK := hT
        clear hT
        refine pm_icmp_eq d_L_law_323 (fun c63 => ?_) (fun c63 => ?_)
        · replace hK := ps_ifT c63 hK
          refine pm_inc3 d_L_law_1350 rfl ?_
          obtain ⟨v64, ev64⟩ : ∃ y : Int32, y = x3 + 6 := ⟨_, rfl⟩
          rw [← ev64]
          replace hK := ps_ltE ev64 hK
          refine pm_goto d_L_law_1353 ?_
          exact ih _ _ hK
        · replace hK := ps_ifF c63 hK
          refine pm_ki d_L_law_326 ?_
          exact absurd (ps_so hK) (by decide)
      replace hK := ps_ifF c54 hK
      by_cases c65 : v4 = 4
      · replace hK := ps_ifT c65 hK
        refine pm_tabIn (tgt := 328) (off := 295) d_L_law_33 (by rw [c65]; decide) (by rw [c65]; decide) (by rw [c65]; rfl) (by decide) ?_
        refine pm_ald d_L_law_328 rfl ?_
        refine pm_ald d_L_law_329 rfl ?_
        refine pm_ild d_L_law_330 rfl ?_
        refine pm_ki d_L_law_331 ?_
        refine pm_iadd d_L_law_332 ?_
        obtain ⟨b67, hT⟩ := ps_gd hK
        replace hK := hT
        clear hT
        refine pl_sld d_L_law_333 (ps_in_of b67) ?_
        refine ps_topI (fun v66 ev66 => ?_)
        replace hK := ps_ltE ev66 hK
        refine pm_ald d_L_law_334 rfl ?_
        refine pm_ild d_L_law_335 rfl ?_
        refine pm_ki d_L_law_336 ?_
        refine pm_iadd d_L_law_337 ?_
        obtain ⟨b69, hT⟩ := ps_gd hK
        replace hK := hT
        clear hT
        refine pl_sld d_L_law_338 (ps_in_of b69) ?_
        refine ps_topI (fun v68 ev68 => ?_)
        replace hK := ps_ltE ev68 hK
        refine ps_cVL d_L_law_339 mv_X8_device at_0 ob_0_0 rfl (As := [.int v66, .int v68]) rfl rfl (pl_room (by decide) (by decide)) (Nat.le_of_ble_eq_true rfl) (C_X8_device v66 v68 σ _ (ps_bdE hK)) ?_
        intro v70 σ71 hT
        clear hK
        have hK := hT
        clear hT
        refine pm_ald d_L_law_342 rfl ?_
        refine pm_ald d_L_law_343 rfl ?_
        refine pm_ild d_L_law_344 rfl ?_
        refine pm_ki d_L_law_345 ?_
        refine pm_iadd d_L_law_346 ?_
        obtain ⟨b73, hT⟩ := ps_gd hK
        replace hK := hT
        clear hT
        refine pl_sld d_L_law_347 (ps_in_of b73) ?_
        refine ps_topI (fun v72 ev72 => ?_)
        replace hK := ps_ltE ev72 hK
        refine pm_ald d_L_law_348 rfl ?_
        refine pm_ild d_L_law_349 rfl ?_
        refine pm_ki d_L_law_350 ?_
        refine pm_iadd d_L_law_351 ?_
        obtain ⟨b75, hT⟩ := ps_gd hK
        replace hK := hT
        clear hT
        refine pl_sld d_L_law_352 (ps_in_of b75) ?_
        refine ps_topI (fun v74 ev74 => ?_)
        replace hK := ps_ltE ev74 hK
        refine ps_cVL d_L_law_353 mv_X9_device at_327 ob_8_0 rfl (As := [.int v72, .int v74]) rfl rfl (pl_room (by decide) (by decide)) (Nat.le_of_ble_eq_true rfl) (C_X9_device v72 v74 σ71 _ (ps_bdE hK)) ?_
        intro v76 σ77 hT
        clear hK
        have hK := hT
        clear hT
        refine pm_lcmp d_L_law_356 ?_
        refine pm_if_eq d_L_law_357 (fun c78 => ?_) (fun c78 => ?_)
        · replace hK := ps_ifT c78 hK
          refine pm_inc3 d_L_law_1350 rfl ?_
          obtain ⟨v79, ev79⟩ : ∃ y : Int32, y = x3 + 6 := ⟨_, rfl⟩
          rw [← ev79]
          replace hK := ps_ltE ev79 hK
          refine pm_goto d_L_law_1353 ?_
          exact ih _ _ hK
        · replace hK := ps_ifF c78 hK
          refine pm_ki d_L_law_360 ?_
          exact absurd (ps_so hK) (by decide)
      replace hK := ps_ifF c65 hK
      by_cases c80 : v4 = 5
      · replace hK := ps_ifT c80 hK
        refine pm_tabIn (tgt := 362) (off := 329) d_L_law_33 (by rw [c80]; decide) (by rw [c80]; decide) (by rw [c80]; rfl) (by decide) ?_
        refine pm_ald d_L_law_362 rfl ?_
        refine pm_ald d_L_law_363 rfl ?_
        refine pm_ild d_L_law_364 rfl ?_
        refine pm_ki d_L_law_365 ?_
        refine pm_iadd d_L_law_366 ?_
        obtain ⟨b82, hT⟩ := ps_gd hK
        replace hK := hT
        clear hT
        refine pl_sld d_L_law_367 (ps_in_of b82) ?_
        refine ps_topI (fun v81 ev81 => ?_)
        replace hK := ps_ltE ev81 hK
        refine pm_ald d_L_law_368 rfl ?_
        refine pm_ild d_L_law_369 rfl ?_
        refine pm_ki d_L_law_370 ?_
        refine pm_iadd d_L_law_371 ?_
        obtain ⟨b84, hT⟩ := ps_gd hK
        replace hK := hT
        clear hT
        refine pl_sld d_L_law_372 (ps_in_of b84) ?_
        refine ps_topI (fun v83 ev83 => ?_)
        replace hK := ps_ltE ev83 hK
        refine ps_cVI d_L_law_373 mv_X8_file at_0 ob_0_0 rfl (As := [.int v81, .int v83]) rfl rfl (pl_room (by decide) (by decide)) (Nat.le_of_ble_eq_true rfl) (C_X8_file v81 v83 σ _ (ps_bdE hK)) ?_
        intro v85 σ86 hT
        clear hK
        have hK := hT
        clear hT
        refine pm_ald d_L_law_376 rfl ?_
        refine pm_ald d_L_law_377 rfl ?_
        refine pm_ild d_L_law_378 rfl ?_
        refine pm_ki d_L_law_379 ?_
        refine pm_iadd d_L_law_380 ?_
        obtain ⟨b88, hT⟩ := ps_gd hK
        replace hK := hT
        clear hT
        refine pl_sld d_L_law_381 (ps_in_of b88) ?_
        refine ps_topI (fun v87 ev87 => ?_)
        replace hK := ps_ltE ev87 hK
        refine pm_ald d_L_law_382 rfl ?_
        refine pm_ild d_L_law_383 rfl ?_
        refine pm_ki d_L_law_384 ?_
        refine pm_iadd d_L_law_385 ?_
        obtain ⟨b90, hT⟩ := ps_gd hK
        replace hK := hT
        clear hT
        refine pl_sld d_L_law_386 (ps_in_of b90) ?_
        refine ps_topI (fun v89 ev89 => ?_)
        replace hK := ps_ltE ev89 hK
        refine ps_cVI d_L_law_387 mv_X9_file at_327 ob_8_0 rfl (As := [.int v87, .int v89]) rfl rfl (pl_room (by decide) (by decide)) (Nat.le_of_ble_eq_true rfl) (C_X9_file v87 v89 σ86 _ (ps_bdE hK)) ?_
        intro v91 σ92 hT
        clear hK
        have hK := hT
        clear hT
        refine pm_icmp_eq d_L_law_390 (fun c93 => ?_) (fun c93 => ?_)
        · replace hK := ps_ifT c93 hK
          refine pm_inc3 d_L_law_1350 rfl ?_
          obtain ⟨v94, ev94⟩ : ∃ y : Int32, y = x3 + 6 := ⟨_, rfl⟩
          rw [← ev94]
          replace hK := ps_ltE ev94 hK
          refine pm_goto d_L_law_1353 ?_
          exact ih _ _ hK
        · replace hK := ps_ifF c93 hK
          refine pm_ki d_L_law_393 ?_
          exact absurd (ps_so hK) (by decide)
      replace hK := ps_ifF c80 hK
      by_cases c95 : v4 = 6
      · replace hK := ps_ifT c95 hK
        refine pm_tabIn (tgt := 395) (off := 362) d_L_law_33 (by rw [c95]; decide) (by rw [c95]; decide) (by rw [c95]; rfl) (by decide) ?_
        refine pm_ald d_L_law_395 rfl ?_
        refine pm_ald d_L_law_396 rfl ?_
        refine pm_ild d_L_law_397 rfl ?_
        refine pm_ki d_L_law_398 ?_
        refine pm_iadd d_L_law_399 ?_
        obtain ⟨b97, hT⟩ := ps_gd hK
        replace hK := hT
        clear hT
        refine pl_sld d_L_law_400 (ps_in_of b97) ?_
        refine ps_topI (fun v96 ev96 => ?_)
        replace hK := ps_ltE ev96 hK
        refine pm_ald d_L_law_401 rfl ?_
        refine pm_ild d_L_law_402 rfl ?_
        refine pm_ki d_L_law_403 ?_
        refine pm_iadd d_L_law_404 ?_
        obtain ⟨b99, hT⟩ := ps_gd hK
        replace hK := hT
        clear hT
        refine pl_sld d_L_law_405 (ps_in_of b99) ?_
        refine ps_topI (fun v98 ev98 => ?_)
        replace hK := ps_ltE ev98 hK
        refine ps_cVI d_L_law_406 mv_X8_writer at_0 ob_0_0 rfl (As := [.int v96, .int v98]) rfl rfl (pl_room (by decide) (by decide)) (Nat.le_of_ble_eq_true rfl) (C_X8_writer v96 v98 σ _ (ps_bdE hK)) ?_
        intro v100 σ101 hT
        clear hK
        have hK := hT
        clear hT
        refine pm_ald d_L_law_409 rfl ?_
        refine pm_ald d_L_law_410 rfl ?_
        refine pm_ild d_L_law_411 rfl ?_
        refine pm_ki d_L_law_412 ?_
        refine pm_iadd d_L_law_413 ?_
        obtain ⟨b103, hT⟩ := ps_gd hK
        replace hK := hT
        clear hT
        refine pl_sld d_L_law_414 (ps_in_of b103) ?_
        refine ps_topI (fun v102 ev102 => ?_)
        replace hK := ps_ltE ev102 hK
        refine pm_ald d_L_law_415 rfl ?_
        refine pm_ild d_L_law_416 rfl ?_
        refine pm_ki d_L_law_417 ?_
        refine pm_iadd d_L_law_418 ?_
        obtain ⟨b105, hT⟩ := ps_gd hK
        replace hK := hT
        clear hT
        refine pl_sld d_L_law_419 (ps_in_of b105) ?_
        refine ps_topI (fun v104 ev104 => ?_)
        replace hK := ps_ltE ev104 hK
        refine ps_cVI d_L_law_420 mv_X9_writer at_327 ob_8_0 rfl (As := [.int v102, .int v104]) rfl rfl (pl_room (by decide) (by decide)) (Nat.le_of_ble_eq_true rfl) (C_X9_writer v102 v104 σ101 _ (ps_bdE hK)) ?_
        intro v106 σ107 hT
        clear hK
        have hK := hT
        clear hT
        refine pm_icmp_eq d_L_law_423 (fun c108 => ?_) (fun c108 => ?_)
        · replace hK := ps_ifT c108 hK
          refine pm_inc3 d_L_law_1350 rfl ?_
          obtain ⟨v109, ev109⟩ : ∃ y : Int32, y = x3 + 6 := ⟨_, rfl⟩
          rw [← ev109]
          replace hK := ps_ltE ev109 hK
          refine pm_goto d_L_law_1353 ?_
          exact ih _ _ hK
        · replace hK := ps_ifF c108 hK
          refine pm_ki d_L_law_426 ?_
          exact absurd (ps_so hK) (by decide)
      replace hK := ps_ifF c95 hK
      by_cases c110 : v4 = 7
      · replace hK := ps_ifT c110 hK
        refine pm_tabIn (tgt := 428) (off := 395) d_L_law_33 (by rw [c110]; decide) (by rw [c110]; decide) (by rw [c110]; rfl) (by decide) ?_
        refine pm_ald d_L_law_428 rfl ?_
        refine pm_ald d_L_law_429 rfl ?_
        refine pm_ild d_L_law_430 rfl ?_
        refine pm_ki d_L_law_431 ?_
        refine pm_iadd d_L_law_432 ?_
        obtain ⟨b112, hT⟩ := ps_gd hK
        replace hK := hT
        clear hT
        refine pl_sld d_L_law_433 (ps_in_of b112) ?_
        refine ps_topI (fun v111 ev111 => ?_)
        replace hK := ps_ltE ev111 hK
        refine ps_cVI d_L_law_434 mv_X8_next at_0 ob_0_0 rfl (As := [.int v111]) rfl rfl (pl_room (by decide) (by decide)) (Nat.le_of_ble_eq_true rfl) (C_X8_next v111 σ _ (ps_bdE hK)) ?_
        intro v113 σ114 hT
        clear hK
        have hK := hT
        clear hT
        refine pm_ald d_L_law_437 rfl ?_
        refine pm_ald d_L_law_438 rfl ?_
        refine pm_ild d_L_law_439 rfl ?_
        refine pm_ki d_L_law_440 ?_
        refine pm_iadd d_L_law_441 ?_
        obtain ⟨b116, hT⟩ := ps_gd hK
        replace hK := hT
        clear hT
        refine pl_sld d_L_law_442 (ps_in_of b116) ?_
        refine ps_topI (fun v115 ev115 => ?_)
        replace hK := ps_ltE ev115 hK
        refine ps_cVI d_L_law_443 mv_X9_next at_327 ob_8_0 rfl (As := [.int v115]) rfl rfl (pl_room (by decide) (by decide)) (Nat.le_of_ble_eq_true rfl) (C_X9_next v115 σ114 _ (ps_bdE hK)) ?_
        intro v117 σ118 hT
        clear hK
        have hK := hT
        clear hT
        refine pm_icmp_eq d_L_law_446 (fun c119 => ?_) (fun c119 => ?_)
        · replace hK := ps_ifT c119 hK
          refine pm_inc3 d_L_law_1350 rfl ?_
          obtain ⟨v120, ev120⟩ : ∃ y : Int32, y = x3 + 6 := ⟨_, rfl⟩
          rw [← ev120]
          replace hK := ps_ltE ev120 hK
          refine pm_goto d_L_law_1353 ?_
          exact ih _ _ hK
        · replace hK := ps_ifF c119 hK
          refine pm_ki d_L_law_449 ?_
          exact absurd (ps_so hK) (by decide)
      replace hK := ps_ifF c110 hK
      by_cases c121 : v4 = 8
      · replace hK := ps_ifT c121 hK
        refine pm_tabIn (tgt := 451) (off := 418) d_L_law_33 (by rw [c121]; decide) (by rw [c121]; decide) (by rw [c121]; rfl) (by decide) ?_
        refine pm_ald d_L_law_451 rfl ?_
        refine pm_ald d_L_law_452 rfl ?_
        refine pm_ild d_L_law_453 rfl ?_
        refine pm_ki d_L_law_454 ?_
        refine pm_iadd d_L_law_455 ?_
        obtain ⟨b123, hT⟩ := ps_gd hK
        replace hK := hT
        clear hT
        refine pl_sld d_L_law_456 (ps_in_of b123) ?_
        refine ps_topI (fun v122 ev122 => ?_)
        replace hK := ps_ltE ev122 hK
        refine pm_ald d_L_law_457 rfl ?_
        refine pm_ild d_L_law_458 rfl ?_
        refine pm_ki d_L_law_459 ?_
        refine pm_iadd d_L_law_460 ?_
        obtain ⟨b125, hT⟩ := ps_gd hK
        replace hK := hT
        clear hT
        refine pl_sld d_L_law_461 (ps_in_of b125) ?_
        refine ps_topI (fun v124 ev124 => ?_)
        replace hK := ps_ltE ev124 hK
        refine ps_cVI d_L_law_462 mv_X8_pause at_0 ob_0_0 rfl (As := [.int v122, .int v124]) rfl rfl (pl_room (by decide) (by decide)) (Nat.le_of_ble_eq_true rfl) (C_X8_pause v122 v124 σ _ (ps_bdE hK)) ?_
        intro v126 σ127 hT
        clear hK
        have hK := hT
        clear hT
        refine pm_ald d_L_law_465 rfl ?_
        refine pm_ald d_L_law_466 rfl ?_
        refine pm_ild d_L_law_467 rfl ?_
        refine pm_ki d_L_law_468 ?_
        refine pm_iadd d_L_law_469 ?_
        obtain ⟨b129, hT⟩ := ps_gd hK
        replace hK := hT
        clear hT
        refine pl_sld d_L_law_470 (ps_in_of b129) ?_
        refine ps_topI (fun v128 ev128 => ?_)
        replace hK := ps_ltE ev128 hK
        refine pm_ald d_L_law_471 rfl ?_
        refine pm_ild d_L_law_472 rfl ?_
        refine pm_ki d_L_law_473 ?_
        refine pm_iadd d_L_law_474 ?_
        obtain ⟨b131, hT⟩ := ps_gd hK
        replace hK := hT
        clear hT
        refine pl_sld d_L_law_475 (ps_in_of b131) ?_
        refine ps_topI (fun v130 ev130 => ?_)
        replace hK := ps_ltE ev130 hK
        refine ps_cVI d_L_law_476 mv_X9_pause at_327 ob_8_0 rfl (As := [.int v128, .int v130]) rfl rfl (pl_room (by decide) (by decide)) (Nat.le_of_ble_eq_true rfl) (C_X9_pause v128 v130 σ127 _ (ps_bdE hK)) ?_
        intro v132 σ133 hT
        clear hK
        have hK := hT
        clear hT
        refine pm_icmp_eq d_L_law_479 (fun c134 => ?_) (fun c134 => ?_)
        · replace hK := ps_ifT c134 hK
          refine pm_inc3 d_L_law_1350 rfl ?_
          obtain ⟨v135, ev135⟩ : ∃ y : Int32, y = x3 + 6 := ⟨_, rfl⟩
          rw [← ev135]
          replace hK := ps_ltE ev135 hK
          refine pm_goto d_L_law_1353 ?_
          exact ih _ _ hK
        · replace hK := ps_ifF c134 hK
          refine pm_ki d_L_law_482 ?_
          exact absurd (ps_so hK) (by decide)
      replace hK := ps_ifF c121 hK
      by_cases c136 : v4 = 9
      · replace hK := ps_ifT c136 hK
        refine pm_tabIn (tgt := 484) (off := 451) d_L_law_33 (by rw [c136]; decide) (by rw [c136]; decide) (by rw [c136]; rfl) (by decide) ?_
        refine pm_ald d_L_law_484 rfl ?_
        refine pm_ald d_L_law_485 rfl ?_
        refine pm_ild d_L_law_486 rfl ?_
        refine pm_ki d_L_law_487 ?_
        refine pm_iadd d_L_law_488 ?_
        obtain ⟨b138, hT⟩ := ps_gd hK
        replace hK := hT
        clear hT
        refine pl_sld d_L_law_489 (ps_in_of b138) ?_
        refine ps_topI (fun v137 ev137 => ?_)
        replace hK := ps_ltE ev137 hK
        refine ps_cVI d_L_law_490 mv_X8_ticks at_0 ob_0_0 rfl (As := [.int v137]) rfl rfl (pl_room (by decide) (by decide)) (Nat.le_of_ble_eq_true rfl) (C_X8_ticks v137 σ _ (ps_bdE hK)) ?_
        intro v139 σ140 hT
        clear hK
        have hK := hT
        clear hT
        refine pm_ald d_L_law_493 rfl ?_
        refine pm_ald d_L_law_494 rfl ?_
        refine pm_ild d_L_law_495 rfl ?_
        refine pm_ki d_L_law_496 ?_
        refine pm_iadd d_L_law_497 ?_
        obtain ⟨b142, hT⟩ := ps_gd hK
        replace hK := hT
        clear hT
        refine pl_sld d_L_law_498 (ps_in_of b142) ?_
        refine ps_topI (fun v141 ev141 => ?_)
        replace hK := ps_ltE ev141 hK
        refine ps_cVI d_L_law_499 mv_X9_ticks at_327 ob_8_0 rfl (As := [.int v141]) rfl rfl (pl_room (by decide) (by decide)) (Nat.le_of_ble_eq_true rfl) (C_X9_ticks v141 σ140 _ (ps_bdE hK)) ?_
        intro v143 σ144 hT
        clear hK
        have hK := hT
        clear hT
        refine pm_icmp_eq d_L_law_502 (fun c145 => ?_) (fun c145 => ?_)
        · replace hK := ps_ifT c145 hK
          refine pm_inc3 d_L_law_1350 rfl ?_
          obtain ⟨v146, ev146⟩ : ∃ y : Int32, y = x3 + 6 := ⟨_, rfl⟩
          rw [← ev146]
          replace hK := ps_ltE ev146 hK
          refine pm_goto d_L_law_1353 ?_
          exact ih _ _ hK
        · replace hK := ps_ifF c145 hK
          refine pm_ki d_L_law_505 ?_
          exact absurd (ps_so hK) (by decide)
      replace hK := ps_ifF c136 hK
      by_cases c147 : v4 = 10
      · replace hK := ps_ifT c147 hK
        refine pm_tabIn (tgt := 507) (off := 474) d_L_law_33 (by rw [c147]; decide) (by rw [c147]; decide) (by rw [c147]; rfl) (by decide) ?_
        refine pm_ald d_L_law_507 rfl ?_
        refine pm_ald d_L_law_508 rfl ?_
        refine pm_ild d_L_law_509 rfl ?_
        refine pm_ki d_L_law_510 ?_
        refine pm_iadd d_L_law_511 ?_
        obtain ⟨b149, hT⟩ := ps_gd hK
        replace hK := hT
        clear hT
        refine pl_sld d_L_law_512 (ps_in_of b149) ?_
        refine ps_topI (fun v148 ev148 => ?_)
        replace hK := ps_ltE ev148 hK
        refine pm_ald d_L_law_513 rfl ?_
        refine pm_ild d_L_law_514 rfl ?_
        refine pm_ki d_L_law_515 ?_
        refine pm_iadd d_L_law_516 ?_
        obtain ⟨b151, hT⟩ := ps_gd hK
        replace hK := hT
        clear hT
        refine pl_sld d_L_law_517 (ps_in_of b151) ?_
        refine ps_topI (fun v150 ev150 => ?_)
        replace hK := ps_ltE ev150 hK
        refine ps_cVI d_L_law_518 mv_X8_speed at_0 ob_0_0 rfl (As := [.int v148, .int v150]) rfl rfl (pl_room (by decide) (by decide)) (Nat.le_of_ble_eq_true rfl) (C_X8_speed v148 v150 σ _ (ps_bdE hK)) ?_
        intro v152 σ153 hT
        clear hK
        have hK := hT
        clear hT
        refine pm_ald d_L_law_521 rfl ?_
        refine pm_ald d_L_law_522 rfl ?_
        refine pm_ild d_L_law_523 rfl ?_
        refine pm_ki d_L_law_524 ?_
        refine pm_iadd d_L_law_525 ?_
        obtain ⟨b155, hT⟩ := ps_gd hK
        replace hK := hT
        clear hT
        refine pl_sld d_L_law_526 (ps_in_of b155) ?_
        refine ps_topI (fun v154 ev154 => ?_)
        replace hK := ps_ltE ev154 hK
        refine pm_ald d_L_law_527 rfl ?_
        refine pm_ild d_L_law_528 rfl ?_
        refine pm_ki d_L_law_529 ?_
        refine pm_iadd d_L_law_530 ?_
        obtain ⟨b157, hT⟩ := ps_gd hK
        replace hK := hT
        clear hT
        refine pl_sld d_L_law_531 (ps_in_of b157) ?_
        refine ps_topI (fun v156 ev156 => ?_)
        replace hK := ps_ltE ev156 hK
        refine ps_cVI d_L_law_532 mv_X9_speed at_327 ob_8_0 rfl (As := [.int v154, .int v156]) rfl rfl (pl_room (by decide) (by decide)) (Nat.le_of_ble_eq_true rfl) (C_X9_speed v154 v156 σ153 _ (ps_bdE hK)) ?_
        intro v158 σ159 hT
        clear hK
        have hK := hT
        clear hT
        refine pm_icmp_eq d_L_law_535 (fun c160 => ?_) (fun c160 => ?_)
        · replace hK := ps_ifT c160 hK
          refine pm_inc3 d_L_law_1350 rfl ?_
          obtain ⟨v161, ev161⟩ : ∃ y : Int32, y = x3 + 6 := ⟨_, rfl⟩
          rw [← ev161]
          replace hK := ps_ltE ev161 hK
          refine pm_goto d_L_law_1353 ?_
          exact ih _ _ hK
        · replace hK := ps_ifF c160 hK
          refine pm_ki d_L_law_538 ?_
          exact absurd (ps_so hK) (by decide)
      replace hK := ps_ifF c147 hK
      by_cases c162 : v4 = 11
      · replace hK := ps_ifT c162 hK
        refine pm_tabIn (tgt := 540) (off := 507) d_L_law_33 (by rw [c162]; decide) (by rw [c162]; decide) (by rw [c162]; rfl) (by decide) ?_
        refine pm_ald d_L_law_540 rfl ?_
        refine pm_ald d_L_law_541 rfl ?_
        refine pm_ild d_L_law_542 rfl ?_
        refine pm_ki d_L_law_543 ?_
        refine pm_iadd d_L_law_544 ?_
        obtain ⟨b164, hT⟩ := ps_gd hK
        replace hK := hT
        clear hT
        refine pl_sld d_L_law_545 (ps_in_of b164) ?_
        refine ps_topI (fun v163 ev163 => ?_)
        replace hK := ps_ltE ev163 hK
        refine pm_ald d_L_law_546 rfl ?_
        refine pm_ild d_L_law_547 rfl ?_
        refine pm_ki d_L_law_548 ?_
        refine pm_iadd d_L_law_549 ?_
        obtain ⟨b166, hT⟩ := ps_gd hK
        replace hK := hT
        clear hT
        refine pl_sld d_L_law_550 (ps_in_of b166) ?_
        refine ps_topI (fun v165 ev165 => ?_)
        replace hK := ps_ltE ev165 hK
        refine ps_cVI d_L_law_551 mv_X8_wants at_0 ob_0_0 rfl (As := [.int v163, .int v165]) rfl rfl (pl_room (by decide) (by decide)) (Nat.le_of_ble_eq_true rfl) (C_X8_wants v163 v165 σ _ (ps_bdE hK)) ?_
        intro v167 σ168 hT
        clear hK
        have hK := hT
        clear hT
        refine pm_ald d_L_law_554 rfl ?_
        refine pm_ald d_L_law_555 rfl ?_
        refine pm_ild d_L_law_556 rfl ?_
        refine pm_ki d_L_law_557 ?_
        refine pm_iadd d_L_law_558 ?_
        obtain ⟨b170, hT⟩ := ps_gd hK
        replace hK := hT
        clear hT
        refine pl_sld d_L_law_559 (ps_in_of b170) ?_
        refine ps_topI (fun v169 ev169 => ?_)
        replace hK := ps_ltE ev169 hK
        refine pm_ald d_L_law_560 rfl ?_
        refine pm_ild d_L_law_561 rfl ?_
        refine pm_ki d_L_law_562 ?_
        refine pm_iadd d_L_law_563 ?_
        obtain ⟨b172, hT⟩ := ps_gd hK
        replace hK := hT
        clear hT
        refine pl_sld d_L_law_564 (ps_in_of b172) ?_
        refine ps_topI (fun v171 ev171 => ?_)
        replace hK := ps_ltE ev171 hK
        refine ps_cVI d_L_law_565 mv_X9_wants at_327 ob_8_0 rfl (As := [.int v169, .int v171]) rfl rfl (pl_room (by decide) (by decide)) (Nat.le_of_ble_eq_true rfl) (C_X9_wants v169 v171 σ168 _ (ps_bdE hK)) ?_
        intro v173 σ174 hT
        clear hK
        have hK := hT
        clear hT
        refine pm_icmp_eq d_L_law_568 (fun c175 => ?_) (fun c175 => ?_)
        · replace hK := ps_ifT c175 hK
          refine pm_inc3 d_L_law_1350 rfl ?_
          obtain ⟨v176, ev176⟩ : ∃ y : Int32, y = x3 + 6 := ⟨_, rfl⟩
          rw [← ev176]
          replace hK := ps_ltE ev176 hK
          refine pm_goto d_L_law_1353 ?_
          exact ih _ _ hK
        · replace hK := ps_ifF c175 hK
          refine pm_ki d_L_law_571 ?_
          exact absurd (ps_so hK) (by decide)
      replace hK := ps_ifF c162 hK
      by_cases c177 : v4 = 12
      · replace hK := ps_ifT c177 hK
        refine pm_tabIn (tgt := 573) (off := 540) d_L_law_33 (by rw [c177]; decide) (by rw [c177]; decide) (by rw [c177]; rfl) (by decide) ?_
        refine pm_ald d_L_law_573 rfl ?_
        refine pm_ald d_L_law_574 rfl ?_
        refine pm_ild d_L_law_575 rfl ?_
        refine pm_ki d_L_law_576 ?_
        refine pm_iadd d_L_law_577 ?_
        obtain ⟨b179, hT⟩ := ps_gd hK
        replace hK := hT
        clear hT
        refine pl_sld d_L_law_578 (ps_in_of b179) ?_
        refine ps_topI (fun v178 ev178 => ?_)
        replace hK := ps_ltE ev178 hK
        refine ps_cVI d_L_law_579 mv_X8_undo at_0 ob_0_0 rfl (As := [.int v178]) rfl rfl (pl_room (by decide) (by decide)) (Nat.le_of_ble_eq_true rfl) (C_X8_undo v178 σ _ (ps_bdE hK)) ?_
        intro v180 σ181 hT
        clear hK
        have hK := hT
        clear hT
        refine pm_ald d_L_law_582 rfl ?_
        refine pm_ald d_L_law_583 rfl ?_
        refine pm_ild d_L_law_584 rfl ?_
        refine pm_ki d_L_law_585 ?_
        refine pm_iadd d_L_law_586 ?_
        obtain ⟨b183, hT⟩ := ps_gd hK
        replace hK := hT
        clear hT
        refine pl_sld d_L_law_587 (ps_in_of b183) ?_
        refine ps_topI (fun v182 ev182 => ?_)
        replace hK := ps_ltE ev182 hK
        refine ps_cVI d_L_law_588 mv_X9_undo at_327 ob_8_0 rfl (As := [.int v182]) rfl rfl (pl_room (by decide) (by decide)) (Nat.le_of_ble_eq_true rfl) (C_X9_undo v182 σ181 _ (ps_bdE hK)) ?_
        intro v184 σ185 hT
        clear hK
        have hK := hT
        clear hT
        refine pm_icmp_eq d_L_law_591 (fun c186 => ?_) (fun c186 => ?_)
        · replace hK := ps_ifT c186 hK
          refine pm_inc3 d_L_law_1350 rfl ?_
          obtain ⟨v187, ev187⟩ : ∃ y : Int32, y = x3 + 6 := ⟨_, rfl⟩
          rw [← ev187]
          replace hK := ps_ltE ev187 hK
          refine pm_goto d_L_law_1353 ?_
          exact ih _ _ hK
        · replace hK := ps_ifF c186 hK
          refine pm_ki d_L_law_594 ?_
          exact absurd (ps_so hK) (by decide)
      replace hK := ps_ifF c177 hK
      by_cases c188 : v4 = 13
      · replace hK := ps_ifT c188 hK
        refine pm_tabIn (tgt := 596) (off := 563) d_L_law_33 (by rw [c188]; decide) (by rw [c188]; decide) (by rw [c188]; rfl) (by decide) ?_
        refine pm_ald d_L_law_596 rfl ?_
        refine pm_ald d_L_law_597 rfl ?_
        refine pm_ild d_L_law_598 rfl ?_
        refine pm_ki d_L_law_599 ?_
        refine pm_iadd d_L_law_600 ?_
        obtain ⟨b190, hT⟩ := ps_gd hK
        replace hK := hT
        clear hT
        refine pl_sld d_L_law_601 (ps_in_of b190) ?_
        refine ps_topI (fun v189 ev189 => ?_)
        replace hK := ps_ltE ev189 hK
        refine pm_ald d_L_law_602 rfl ?_
        refine pm_ild d_L_law_603 rfl ?_
        refine pm_ki d_L_law_604 ?_
        refine pm_iadd d_L_law_605 ?_
        obtain ⟨b192, hT⟩ := ps_gd hK
        replace hK := hT
        clear hT
        refine pl_sld d_L_law_606 (ps_in_of b192) ?_
        refine ps_topI (fun v191 ev191 => ?_)
        replace hK := ps_ltE ev191 hK
        refine ps_cVI d_L_law_607 mv_X8_judge at_0 ob_0_0 rfl (As := [.int v189, .int v191]) rfl rfl (pl_room (by decide) (by decide)) (Nat.le_of_ble_eq_true rfl) (C_X8_judge v189 v191 σ _ (ps_bdE hK)) ?_
        intro v193 σ194 hT
        clear hK
        have hK := hT
        clear hT
        refine pm_ald d_L_law_610 rfl ?_
        refine pm_ald d_L_law_611 rfl ?_
        refine pm_ild d_L_law_612 rfl ?_
        refine pm_ki d_L_law_613 ?_
        refine pm_iadd d_L_law_614 ?_
        obtain ⟨b196, hT⟩ := ps_gd hK
        replace hK := hT
        clear hT
        refine pl_sld d_L_law_615 (ps_in_of b196) ?_
        refine ps_topI (fun v195 ev195 => ?_)
        replace hK := ps_ltE ev195 hK
        refine pm_ald d_L_law_616 rfl ?_
        refine pm_ild d_L_law_617 rfl ?_
        refine pm_ki d_L_law_618 ?_
        refine pm_iadd d_L_law_619 ?_
        obtain ⟨b198, hT⟩ := ps_gd hK
        replace hK := hT
        clear hT
        refine pl_sld d_L_law_620 (ps_in_of b198) ?_
        refine ps_topI (fun v197 ev197 => ?_)
        replace hK := ps_ltE ev197 hK
        refine ps_cVI d_L_law_621 mv_X9_judge at_327 ob_8_0 rfl (As := [.int v195, .int v197]) rfl rfl (pl_room (by decide) (by decide)) (Nat.le_of_ble_eq_true rfl) (C_X9_judge v195 v197 σ194 _ (ps_bdE hK)) ?_
        intro v199 σ200 hT
        clear hK
        have hK := hT
        clear hT
        refine pm_icmp_eq d_L_law_624 (fun c201 => ?_) (fun c201 => ?_)
        · replace hK := ps_ifT c201 hK
          refine pm_inc3 d_L_law_1350 rfl ?_
          obtain ⟨v202, ev202⟩ : ∃ y : Int32, y = x3 + 6 := ⟨_, rfl⟩
          rw [← ev202]
          replace hK := ps_ltE ev202 hK
          refine pm_goto d_L_law_1353 ?_
          exact ih _ _ hK
        · replace hK := ps_ifF c201 hK
          refine pm_ki d_L_law_627 ?_
          exact absurd (ps_so hK) (by decide)
      replace hK := ps_ifF c188 hK
      by_cases c203 : v4 = 14
      · replace hK := ps_ifT c203 hK
        refine pm_tabIn (tgt := 629) (off := 596) d_L_law_33 (by rw [c203]; decide) (by rw [c203]; decide) (by rw [c203]; rfl) (by decide) ?_
        refine pm_ald d_L_law_629 rfl ?_
        refine pm_ald d_L_law_630 rfl ?_
        refine pm_ild d_L_law_631 rfl ?_
        refine pm_ki d_L_law_632 ?_
        refine pm_iadd d_L_law_633 ?_
        obtain ⟨b205, hT⟩ := ps_gd hK
        replace hK := hT
        clear hT
        refine pl_sld d_L_law_634 (ps_in_of b205) ?_
        refine ps_topI (fun v204 ev204 => ?_)
        replace hK := ps_ltE ev204 hK
        refine ps_cVI d_L_law_635 mv_X8_perform at_0 ob_0_0 rfl (As := [.int v204]) rfl rfl (pl_room (by decide) (by decide)) (Nat.le_of_ble_eq_true rfl) (C_X8_perform v204 σ _ (ps_bdE hK)) ?_
        intro v206 σ207 hT
        clear hK
        have hK := hT
        clear hT
        refine pm_ald d_L_law_638 rfl ?_
        refine pm_ald d_L_law_639 rfl ?_
        refine pm_ild d_L_law_640 rfl ?_
        refine pm_ki d_L_law_641 ?_
        refine pm_iadd d_L_law_642 ?_
        obtain ⟨b209, hT⟩ := ps_gd hK
        replace hK := hT
        clear hT
        refine pl_sld d_L_law_643 (ps_in_of b209) ?_
        refine ps_topI (fun v208 ev208 => ?_)
        replace hK := ps_ltE ev208 hK
        refine ps_cVI d_L_law_644 mv_X9_perform at_327 ob_8_0 rfl (As := [.int v208]) rfl rfl (pl_room (by decide) (by decide)) (Nat.le_of_ble_eq_true rfl) (C_X9_perform v208 σ207 _ (ps_bdE hK)) ?_
        intro v210 σ211 hT
        clear hK
        have hK := hT
        clear hT
        refine pm_icmp_eq d_L_law_647 (fun c212 => ?_) (fun c212 => ?_)
        · replace hK := ps_ifT c212 hK
          refine pm_inc3 d_L_law_1350 rfl ?_
          obtain ⟨v213, ev213⟩ : ∃ y : Int32, y = x3 + 6 := ⟨_, rfl⟩
          rw [← ev213]
          replace hK := ps_ltE ev213 hK
          refine pm_goto d_L_law_1353 ?_
          exact ih _ _ hK
        · replace hK := ps_ifF c212 hK
          refine pm_ki d_L_law_650 ?_
          exact absurd (ps_so hK) (by decide)
      replace hK := ps_ifF c203 hK
      by_cases c214 : v4 = 15
      · replace hK := ps_ifT c214 hK
        refine pm_tabIn (tgt := 652) (off := 619) d_L_law_33 (by rw [c214]; decide) (by rw [c214]; decide) (by rw [c214]; rfl) (by decide) ?_
        refine pm_ald d_L_law_652 rfl ?_
        refine pm_ald d_L_law_653 rfl ?_
        refine pm_ild d_L_law_654 rfl ?_
        refine pm_ki d_L_law_655 ?_
        refine pm_iadd d_L_law_656 ?_
        obtain ⟨b216, hT⟩ := ps_gd hK
        replace hK := hT
        clear hT
        refine pl_sld d_L_law_657 (ps_in_of b216) ?_
        refine ps_topI (fun v215 ev215 => ?_)
        replace hK := ps_ltE ev215 hK
        refine pm_ald d_L_law_658 rfl ?_
        refine pm_ild d_L_law_659 rfl ?_
        refine pm_ki d_L_law_660 ?_
        refine pm_iadd d_L_law_661 ?_
        obtain ⟨b218, hT⟩ := ps_gd hK
        replace hK := hT
        clear hT
        refine pl_sld d_L_law_662 (ps_in_of b218) ?_
        refine ps_topI (fun v217 ev217 => ?_)
        replace hK := ps_ltE ev217 hK
        refine ps_cVI d_L_law_663 mv_X8_load at_0 ob_0_0 rfl (As := [.int v215, .int v217]) rfl rfl (pl_room (by decide) (by decide)) (Nat.le_of_ble_eq_true rfl) (C_X8_load v215 v217 σ _ (ps_bdE hK)) ?_
        intro v219 σ220 hT
        clear hK
        have hK := hT
        clear hT
        refine pm_ald d_L_law_666 rfl ?_
        refine pm_ald d_L_law_667 rfl ?_
        refine pm_ild d_L_law_668 rfl ?_
        refine pm_ki d_L_law_669 ?_
        refine pm_iadd d_L_law_670 ?_
        obtain ⟨b222, hT⟩ := ps_gd hK
        replace hK := hT
        clear hT
        refine pl_sld d_L_law_671 (ps_in_of b222) ?_
        refine ps_topI (fun v221 ev221 => ?_)
        replace hK := ps_ltE ev221 hK
        refine pm_ald d_L_law_672 rfl ?_
        refine pm_ild d_L_law_673 rfl ?_
        refine pm_ki d_L_law_674 ?_
        refine pm_iadd d_L_law_675 ?_
        obtain ⟨b224, hT⟩ := ps_gd hK
        replace hK := hT
        clear hT
        refine pl_sld d_L_law_676 (ps_in_of b224) ?_
        refine ps_topI (fun v223 ev223 => ?_)
        replace hK := ps_ltE ev223 hK
        refine ps_cVI d_L_law_677 mv_X9_load at_327 ob_8_0 rfl (As := [.int v221, .int v223]) rfl rfl (pl_room (by decide) (by decide)) (Nat.le_of_ble_eq_true rfl) (C_X9_load v221 v223 σ220 _ (ps_bdE hK)) ?_
        intro v225 σ226 hT
        clear hK
        have hK := hT
        clear hT
        refine pm_icmp_eq d_L_law_680 (fun c227 => ?_) (fun c227 => ?_)
        · replace hK := ps_ifT c227 hK
          refine pm_inc3 d_L_law_1350 rfl ?_
          obtain ⟨v228, ev228⟩ : ∃ y : Int32, y = x3 + 6 := ⟨_, rfl⟩
          rw [← ev228]
          replace hK := ps_ltE ev228 hK
          refine pm_goto d_L_law_1353 ?_
          exact ih _ _ hK
        · replace hK := ps_ifF c227 hK
          refine pm_ki d_L_law_683 ?_
          exact absurd (ps_so hK) (by decide)
      replace hK := ps_ifF c214 hK
      by_cases c229 : v4 = 16
      · replace hK := ps_ifT c229 hK
        refine pm_tabIn (tgt := 685) (off := 652) d_L_law_33 (by rw [c229]; decide) (by rw [c229]; decide) (by rw [c229]; rfl) (by decide) ?_
        refine pm_ald d_L_law_685 rfl ?_
        refine pm_ald d_L_law_686 rfl ?_
        refine pm_ild d_L_law_687 rfl ?_
        refine pm_ki d_L_law_688 ?_
        refine pm_iadd d_L_law_689 ?_
        obtain ⟨b231, hT⟩ := ps_gd hK
        replace hK := hT
        clear hT
        refine pl_sld d_L_law_690 (ps_in_of b231) ?_
        refine ps_topI (fun v230 ev230 => ?_)
        replace hK := ps_ltE ev230 hK
        refine pm_ald d_L_law_691 rfl ?_
        refine pm_ild d_L_law_692 rfl ?_
        refine pm_ki d_L_law_693 ?_
        refine pm_iadd d_L_law_694 ?_
        obtain ⟨b233, hT⟩ := ps_gd hK
        replace hK := hT
        clear hT
        refine pl_sld d_L_law_695 (ps_in_of b233) ?_
        refine ps_topI (fun v232 ev232 => ?_)
        replace hK := ps_ltE ev232 hK
        refine ps_cVI d_L_law_696 mv_X8_later at_0 ob_0_0 rfl (As := [.int v230, .int v232]) rfl rfl (pl_room (by decide) (by decide)) (Nat.le_of_ble_eq_true rfl) (C_X8_later v230 v232 σ _ (ps_bdE hK)) ?_
        intro v234 σ235 hT
        clear hK
        have hK := hT
        clear hT
        refine pm_ald d_L_law_699 rfl ?_
        refine pm_ald d_L_law_700 rfl ?_
        refine pm_ild d_L_law_701 rfl ?_
        refine pm_ki d_L_law_702 ?_
        refine pm_iadd d_L_law_703 ?_
        obtain ⟨b237, hT⟩ := ps_gd hK
        replace hK := hT
        clear hT
        refine pl_sld d_L_law_704 (ps_in_of b237) ?_
        refine ps_topI (fun v236 ev236 => ?_)
        replace hK := ps_ltE ev236 hK
        refine pm_ald d_L_law_705 rfl ?_
        refine pm_ild d_L_law_706 rfl ?_
        refine pm_ki d_L_law_707 ?_
        refine pm_iadd d_L_law_708 ?_
        obtain ⟨b239, hT⟩ := ps_gd hK
        replace hK := hT
        clear hT
        refine pl_sld d_L_law_709 (ps_in_of b239) ?_
        refine ps_topI (fun v238 ev238 => ?_)
        replace hK := ps_ltE ev238 hK
        refine ps_cVI d_L_law_710 mv_X9_later at_327 ob_8_0 rfl (As := [.int v236, .int v238]) rfl rfl (pl_room (by decide) (by decide)) (Nat.le_of_ble_eq_true rfl) (C_X9_later v236 v238 σ235 _ (ps_bdE hK)) ?_
        intro v240 σ241 hT
        clear hK
        have hK := hT
        clear hT
        refine pm_icmp_eq d_L_law_713 (fun c242 => ?_) (fun c242 => ?_)
        · replace hK := ps_ifT c242 hK
          refine pm_inc3 d_L_law_1350 rfl ?_
          obtain ⟨v243, ev243⟩ : ∃ y : Int32, y = x3 + 6 := ⟨_, rfl⟩
          rw [← ev243]
          replace hK := ps_ltE ev243 hK
          refine pm_goto d_L_law_1353 ?_
          exact ih _ _ hK
        · replace hK := ps_ifF c242 hK
          refine pm_ki d_L_law_716 ?_
          exact absurd (ps_so hK) (by decide)
      replace hK := ps_ifF c229 hK
      by_cases c244 : v4 = 17
      · replace hK := ps_ifT c244 hK
        refine pm_tabIn (tgt := 718) (off := 685) d_L_law_33 (by rw [c244]; decide) (by rw [c244]; decide) (by rw [c244]; rfl) (by decide) ?_
        refine pm_ald d_L_law_718 rfl ?_
        refine pm_ald d_L_law_719 rfl ?_
        refine pm_ild d_L_law_720 rfl ?_
        refine pm_ki d_L_law_721 ?_
        refine pm_iadd d_L_law_722 ?_
        obtain ⟨b246, hT⟩ := ps_gd hK
        replace hK := hT
        clear hT
        refine pl_sld d_L_law_723 (ps_in_of b246) ?_
        refine ps_topI (fun v245 ev245 => ?_)
        replace hK := ps_ltE ev245 hK
        refine ps_cVI d_L_law_724 mv_X8_passes at_0 ob_0_0 rfl (As := [.int v245]) rfl rfl (pl_room (by decide) (by decide)) (Nat.le_of_ble_eq_true rfl) (C_X8_passes v245 σ _ (ps_bdE hK)) ?_
        intro v247 σ248 hT
        clear hK
        have hK := hT
        clear hT
        refine pm_ald d_L_law_727 rfl ?_
        refine pm_ald d_L_law_728 rfl ?_
        refine pm_ild d_L_law_729 rfl ?_
        refine pm_ki d_L_law_730 ?_
        refine pm_iadd d_L_law_731 ?_
        obtain ⟨b250, hT⟩ := ps_gd hK
        replace hK := hT
        clear hT
        refine pl_sld d_L_law_732 (ps_in_of b250) ?_
        refine ps_topI (fun v249 ev249 => ?_)
        replace hK := ps_ltE ev249 hK
        refine ps_cVI d_L_law_733 mv_X9_passes at_327 ob_8_0 rfl (As := [.int v249]) rfl rfl (pl_room (by decide) (by decide)) (Nat.le_of_ble_eq_true rfl) (C_X9_passes v249 σ248 _ (ps_bdE hK)) ?_
        intro v251 σ252 hT
        clear hK
        have hK := hT
        clear hT
        refine pm_icmp_eq d_L_law_736 (fun c253 => ?_) (fun c253 => ?_)
        · replace hK := ps_ifT c253 hK
          refine pm_inc3 d_L_law_1350 rfl ?_
          obtain ⟨v254, ev254⟩ : ∃ y : Int32, y = x3 + 6 := ⟨_, rfl⟩
          rw [← ev254]
          replace hK := ps_ltE ev254 hK
          refine pm_goto d_L_law_1353 ?_
          exact ih _ _ hK
        · replace hK := ps_ifF c253 hK
          refine pm_ki d_L_law_739 ?_
          exact absurd (ps_so hK) (by decide)
      replace hK := ps_ifF c244 hK
      by_cases c255 : v4 = 18
      · replace hK := ps_ifT c255 hK
        refine pm_tabIn (tgt := 741) (off := 708) d_L_law_33 (by rw [c255]; decide) (by rw [c255]; decide) (by rw [c255]; rfl) (by decide) ?_
        refine pm_ald d_L_law_741 rfl ?_
        refine pm_ald d_L_law_742 rfl ?_
        refine pm_ild d_L_law_743 rfl ?_
        refine pm_ki d_L_law_744 ?_
        refine pm_iadd d_L_law_745 ?_
        obtain ⟨b257, hT⟩ := ps_gd hK
        replace hK := hT
        clear hT
        refine pl_sld d_L_law_746 (ps_in_of b257) ?_
        refine ps_topI (fun v256 ev256 => ?_)
        replace hK := ps_ltE ev256 hK
        refine ps_cVI d_L_law_747 mv_X8_oldest at_0 ob_0_0 rfl (As := [.int v256]) rfl rfl (pl_room (by decide) (by decide)) (Nat.le_of_ble_eq_true rfl) (C_X8_oldest v256 σ _ (ps_bdE hK)) ?_
        intro v258 σ259 hT
        clear hK
        have hK := hT
        clear hT
        refine pm_ald d_L_law_750 rfl ?_
        refine pm_ald d_L_law_751 rfl ?_
        refine pm_ild d_L_law_752 rfl ?_
        refine pm_ki d_L_law_753 ?_
        refine pm_iadd d_L_law_754 ?_
        obtain ⟨b261, hT⟩ := ps_gd hK
        replace hK := hT
        clear hT
        refine pl_sld d_L_law_755 (ps_in_of b261) ?_
        refine ps_topI (fun v260 ev260 => ?_)
        replace hK := ps_ltE ev260 hK
        refine ps_cVI d_L_law_756 mv_X9_oldest at_327 ob_8_0 rfl (As := [.int v260]) rfl rfl (pl_room (by decide) (by decide)) (Nat.le_of_ble_eq_true rfl) (C_X9_oldest v260 σ259 _ (ps_bdE hK)) ?_
        intro v262 σ263 hT
        clear hK
        have hK := hT
        clear hT
        refine pm_icmp_eq d_L_law_759 (fun c264 => ?_) (fun c264 => ?_)
        · replace hK := ps_ifT c264 hK
          refine pm_inc3 d_L_law_1350 rfl ?_
          obtain ⟨v265, ev265⟩ : ∃ y : Int32, y = x3 + 6 := ⟨_, rfl⟩
          rw [← ev265]
          replace hK := ps_ltE ev265 hK
          refine pm_goto d_L_law_1353 ?_
          exact ih _ _ hK
        · replace hK := ps_ifF c264 hK
          refine pm_ki d_L_law_762 ?_
          exact absurd (ps_so hK) (by decide)
      replace hK := ps_ifF c255 hK
      by_cases c266 : v4 = 19
      · replace hK := ps_ifT c266 hK
        refine pm_tabIn (tgt := 764) (off := 731) d_L_law_33 (by rw [c266]; decide) (by rw [c266]; decide) (by rw [c266]; rfl) (by decide) ?_
        refine pm_ald d_L_law_764 rfl ?_
        refine ps_cVI d_L_law_765 mv_X8_drains at_0 ob_0_0 rfl (As := []) rfl rfl (pl_room (by decide) (by decide)) (Nat.le_of_ble_eq_true rfl) (C_X8_drains σ _ (ps_bdE hK)) ?_
        intro v267 σ268 hT
        clear hK
        have hK := hT
        clear hT
        refine pm_ald d_L_law_768 rfl ?_
        refine ps_cVI d_L_law_769 mv_X9_drains at_327 ob_8_0 rfl (As := []) rfl rfl (pl_room (by decide) (by decide)) (Nat.le_of_ble_eq_true rfl) (C_X9_drains σ268 _ (ps_bdE hK)) ?_
        intro v269 σ270 hT
        clear hK
        have hK := hT
        clear hT
        refine pm_icmp_eq d_L_law_772 (fun c271 => ?_) (fun c271 => ?_)
        · replace hK := ps_ifT c271 hK
          refine pm_inc3 d_L_law_1350 rfl ?_
          obtain ⟨v272, ev272⟩ : ∃ y : Int32, y = x3 + 6 := ⟨_, rfl⟩
          rw [← ev272]
          replace hK := ps_ltE ev272 hK
          refine pm_goto d_L_law_1353 ?_
          exact ih _ _ hK
        · replace hK := ps_ifF c271 hK
          refine pm_ki d_L_law_775 ?_
          exact absurd (ps_so hK) (by decide)
      replace hK := ps_ifF c266 hK
      by_cases c273 : v4 = 20
      · replace hK := ps_ifT c273 hK
        refine pm_tabIn (tgt := 777) (off := 744) d_L_law_33 (by rw [c273]; decide) (by rw [c273]; decide) (by rw [c273]; rfl) (by decide) ?_
        refine pm_ald d_L_law_777 rfl ?_
        refine pm_ald d_L_law_778 rfl ?_
        refine pm_ild d_L_law_779 rfl ?_
        refine pm_ki d_L_law_780 ?_
        refine pm_iadd d_L_law_781 ?_
        obtain ⟨b275, hT⟩ := ps_gd hK
        replace hK := hT
        clear hT
        refine pl_sld d_L_law_782 (ps_in_of b275) ?_
        refine ps_topI (fun v274 ev274 => ?_)
        replace hK := ps_ltE ev274 hK
        refine pm_ald d_L_law_783 rfl ?_
        refine pm_ild d_L_law_784 rfl ?_
        refine pm_ki d_L_law_785 ?_
        refine pm_iadd d_L_law_786 ?_
        obtain ⟨b277, hT⟩ := ps_gd hK
        replace hK := hT
        clear hT
        refine pl_sld d_L_law_787 (ps_in_of b277) ?_
        refine ps_topI (fun v276 ev276 => ?_)
        replace hK := ps_ltE ev276 hK
        refine ps_cVI d_L_law_788 mv_X8_written at_0 ob_0_0 rfl (As := [.int v274, .int v276]) rfl rfl (pl_room (by decide) (by decide)) (Nat.le_of_ble_eq_true rfl) (C_X8_written v274 v276 σ _ (ps_bdE hK)) ?_
        intro v278 σ279 hT
        clear hK
        have hK := hT
        clear hT
        refine pm_ald d_L_law_791 rfl ?_
        refine pm_ald d_L_law_792 rfl ?_
        refine pm_ild d_L_law_793 rfl ?_
        refine pm_ki d_L_law_794 ?_
        refine pm_iadd d_L_law_795 ?_
        obtain ⟨b281, hT⟩ := ps_gd hK
        replace hK := hT
        clear hT
        refine pl_sld d_L_law_796 (ps_in_of b281) ?_
        refine ps_topI (fun v280 ev280 => ?_)
        replace hK := ps_ltE ev280 hK
        refine pm_ald d_L_law_797 rfl ?_
        refine pm_ild d_L_law_798 rfl ?_
        refine pm_ki d_L_law_799 ?_
        refine pm_iadd d_L_law_800 ?_
        obtain ⟨b283, hT⟩ := ps_gd hK
        replace hK := hT
        clear hT
        refine pl_sld d_L_law_801 (ps_in_of b283) ?_
        refine ps_topI (fun v282 ev282 => ?_)
        replace hK := ps_ltE ev282 hK
        refine ps_cVI d_L_law_802 mv_X9_written at_327 ob_8_0 rfl (As := [.int v280, .int v282]) rfl rfl (pl_room (by decide) (by decide)) (Nat.le_of_ble_eq_true rfl) (C_X9_written v280 v282 σ279 _ (ps_bdE hK)) ?_
        intro v284 σ285 hT
        clear hK
        have hK := hT
        clear hT
        refine pm_icmp_eq d_L_law_805 (fun c286 => ?_) (fun c286 => ?_)
        · replace hK := ps_ifT c286 hK
          refine pm_inc3 d_L_law_1350 rfl ?_
          obtain ⟨v287, ev287⟩ : ∃ y : Int32, y = x3 + 6 := ⟨_, rfl⟩
          rw [← ev287]
          replace hK := ps_ltE ev287 hK
          refine pm_goto d_L_law_1353 ?_
          exact ih _ _ hK
        · replace hK := ps_ifF c286 hK
          refine pm_ki d_L_law_808 ?_
          exact absurd (ps_so hK) (by decide)
      replace hK := ps_ifF c273 hK
      by_cases c288 : v4 = 21
      · replace hK := ps_ifT c288 hK
        refine pm_tabIn (tgt := 810) (off := 777) d_L_law_33 (by rw [c288]; decide) (by rw [c288]; decide) (by rw [c288]; rfl) (by decide) ?_
        refine pm_ald d_L_law_810 rfl ?_
        refine pm_ald d_L_law_811 rfl ?_
        refine pm_ild d_L_law_812 rfl ?_
        refine pm_ki d_L_law_813 ?_
        refine pm_iadd d_L_law_814 ?_
        obtain ⟨b290, hT⟩ := ps_gd hK
        replace hK := hT
        clear hT
        refine pl_sld d_L_law_815 (ps_in_of b290) ?_
        refine ps_topI (fun v289 ev289 => ?_)
        replace hK := ps_ltE ev289 hK
        refine pm_ald d_L_law_816 rfl ?_
        refine pm_ild d_L_law_817 rfl ?_
        refine pm_ki d_L_law_818 ?_
        refine pm_iadd d_L_law_819 ?_
        obtain ⟨b292, hT⟩ := ps_gd hK
        replace hK := hT
        clear hT
        refine pl_sld d_L_law_820 (ps_in_of b292) ?_
        refine ps_topI (fun v291 ev291 => ?_)
        replace hK := ps_ltE ev291 hK
        refine ps_cVI d_L_law_821 mv_X8_starved at_0 ob_0_0 rfl (As := [.int v289, .int v291]) rfl rfl (pl_room (by decide) (by decide)) (Nat.le_of_ble_eq_true rfl) (C_X8_starved v289 v291 σ _ (ps_bdE hK)) ?_
        intro v293 σ294 hT
        clear hK
        have hK := hT
        clear hT
        refine pm_ald d_L_law_824 rfl ?_
        refine pm_ald d_L_law_825 rfl ?_
        refine pm_ild d_L_law_826 rfl ?_
        refine pm_ki d_L_law_827 ?_
        refine pm_iadd d_L_law_828 ?_
        obtain ⟨b296, hT⟩ := ps_gd hK
        replace hK := hT
        clear hT
        refine pl_sld d_L_law_829 (ps_in_of b296) ?_
        refine ps_topI (fun v295 ev295 => ?_)
        replace hK := ps_ltE ev295 hK
        refine pm_ald d_L_law_830 rfl ?_
        refine pm_ild d_L_law_831 rfl ?_
        refine pm_ki d_L_law_832 ?_
        refine pm_iadd d_L_law_833 ?_
        obtain ⟨b298, hT⟩ := ps_gd hK
        replace hK := hT
        clear hT
        refine pl_sld d_L_law_834 (ps_in_of b298) ?_
        refine ps_topI (fun v297 ev297 => ?_)
        replace hK := ps_ltE ev297 hK
        refine ps_cVI d_L_law_835 mv_X9_starved at_327 ob_8_0 rfl (As := [.int v295, .int v297]) rfl rfl (pl_room (by decide) (by decide)) (Nat.le_of_ble_eq_true rfl) (C_X9_starved v295 v297 σ294 _ (ps_bdE hK)) ?_
        intro v299 σ300 hT
        clear hK
        have hK := hT
        clear hT
        refine pm_icmp_eq d_L_law_838 (fun c301 => ?_) (fun c301 => ?_)
        · replace hK := ps_ifT c301 hK
          refine pm_inc3 d_L_law_1350 rfl ?_
          obtain ⟨v302, ev302⟩ : ∃ y : Int32, y = x3 + 6 := ⟨_, rfl⟩
          rw [← ev302]
          replace hK := ps_ltE ev302 hK
          refine pm_goto d_L_law_1353 ?_
          exact ih _ _ hK
        · replace hK := ps_ifF c301 hK
          refine pm_ki d_L_law_841 ?_
          exact absurd (ps_so hK) (by decide)
      replace hK := ps_ifF c288 hK
      by_cases c303 : v4 = 22
      · replace hK := ps_ifT c303 hK
        refine pm_tabIn (tgt := 843) (off := 810) d_L_law_33 (by rw [c303]; decide) (by rw [c303]; decide) (by rw [c303]; rfl) (by decide) ?_
        refine pm_ald d_L_law_843 rfl ?_
        refine pm_ald d_L_law_844 rfl ?_
        refine pm_ild d_L_law_845 rfl ?_
        refine pm_ki d_L_law_846 ?_
        refine pm_iadd d_L_law_847 ?_
        obtain ⟨b305, hT⟩ := ps_gd hK
        replace hK := hT
        clear hT
        refine pl_sld d_L_law_848 (ps_in_of b305) ?_
        refine ps_topI (fun v304 ev304 => ?_)
        replace hK := ps_ltE ev304 hK
        refine pm_ald d_L_law_849 rfl ?_
        refine pm_ild d_L_law_850 rfl ?_
        refine pm_ki d_L_law_851 ?_
        refine pm_iadd d_L_law_852 ?_
        obtain ⟨b307, hT⟩ := ps_gd hK
        replace hK := hT
        clear hT
        refine pl_sld d_L_law_853 (ps_in_of b307) ?_
        refine ps_topI (fun v306 ev306 => ?_)
        replace hK := ps_ltE ev306 hK
        refine ps_cVL d_L_law_854 mv_X8_fair at_0 ob_0_0 rfl (As := [.int v304, .int v306]) rfl rfl (pl_room (by decide) (by decide)) (Nat.le_of_ble_eq_true rfl) (C_X8_fair v304 v306 σ _ (ps_bdE hK)) ?_
        intro v308 σ309 hT
        clear hK
        have hK := hT
        clear hT
        refine pm_ald d_L_law_857 rfl ?_
        refine pm_ald d_L_law_858 rfl ?_
        refine pm_ild d_L_law_859 rfl ?_
        refine pm_ki d_L_law_860 ?_
        refine pm_iadd d_L_law_861 ?_
        obtain ⟨b311, hT⟩ := ps_gd hK
        replace hK := hT
        clear hT
        refine pl_sld d_L_law_862 (ps_in_of b311) ?_
        refine ps_topI (fun v310 ev310 => ?_)
        replace hK := ps_ltE ev310 hK
        refine pm_ald d_L_law_863 rfl ?_
        refine pm_ild d_L_law_864 rfl ?_
        refine pm_ki d_L_law_865 ?_
        refine pm_iadd d_L_law_866 ?_
        obtain ⟨b313, hT⟩ := ps_gd hK
        replace hK := hT
        clear hT
        refine pl_sld d_L_law_867 (ps_in_of b313) ?_
        refine ps_topI (fun v312 ev312 => ?_)
        replace hK := ps_ltE ev312 hK
        refine ps_cVL d_L_law_868 mv_X9_fair at_327 ob_8_0 rfl (As := [.int v310, .int v312]) rfl rfl (pl_room (by decide) (by decide)) (Nat.le_of_ble_eq_true rfl) (C_X9_fair v310 v312 σ309 _ (ps_bdE hK)) ?_
        intro v314 σ315 hT
        clear hK
        have hK := hT
        clear hT
        refine pm_lcmp d_L_law_871 ?_
        refine pm_if_eq d_L_law_872 (fun c316 => ?_) (fun c316 => ?_)
        · replace hK := ps_ifT c316 hK
          refine pm_inc3 d_L_law_1350 rfl ?_
          obtain ⟨v317, ev317⟩ : ∃ y : Int32, y = x3 + 6 := ⟨_, rfl⟩
          rw [← ev317]
          replace hK := ps_ltE ev317 hK
          refine pm_goto d_L_law_1353 ?_
          exact ih _ _ hK
        · replace hK := ps_ifF c316 hK
          refine pm_ki d_L_law_875 ?_
          exact absurd (ps_so hK) (by decide)
      replace hK := ps_ifF c303 hK
      by_cases c318 : v4 = 23
      · replace hK := ps_ifT c318 hK
        refine pm_tabIn (tgt := 877) (off := 844) d_L_law_33 (by rw [c318]; decide) (by rw [c318]; decide) (by rw [c318]; rfl) (by decide) ?_
        refine pm_ald d_L_law_877 rfl ?_
        refine pm_ald d_L_law_878 rfl ?_
        refine pm_ild d_L_law_879 rfl ?_
        refine pm_ki d_L_law_880 ?_
        refine pm_iadd d_L_law_881 ?_
        obtain ⟨b320, hT⟩ := ps_gd hK
        replace hK := hT
        clear hT
        refine pl_sld d_L_law_882 (ps_in_of b320) ?_
        refine ps_topI (fun v319 ev319 => ?_)
        replace hK := ps_ltE ev319 hK
        refine pm_ald d_L_law_883 rfl ?_
        refine pm_ild d_L_law_884 rfl ?_
        refine pm_ki d_L_law_885 ?_
        refine pm_iadd d_L_law_886 ?_
        obtain ⟨b322, hT⟩ := ps_gd hK
        replace hK := hT
        clear hT
        refine pl_sld d_L_law_887 (ps_in_of b322) ?_
        refine ps_topI (fun v321 ev321 => ?_)
        replace hK := ps_ltE ev321 hK
        refine ps_cVI d_L_law_888 mv_X8_most at_0 ob_0_0 rfl (As := [.int v319, .int v321]) rfl rfl (pl_room (by decide) (by decide)) (Nat.le_of_ble_eq_true rfl) (C_X8_most v319 v321 σ _ (ps_bdE hK)) ?_
        intro v323 σ324 hT
        clear hK
        have hK := hT
        clear hT
        refine pm_ald d_L_law_891 rfl ?_
        refine pm_ald d_L_law_892 rfl ?_
        refine pm_ild d_L_law_893 rfl ?_
        refine pm_ki d_L_law_894 ?_
        refine pm_iadd d_L_law_895 ?_
        obtain ⟨b326, hT⟩ := ps_gd hK
        replace hK := hT
        clear hT
        refine pl_sld d_L_law_896 (ps_in_of b326) ?_
        refine ps_topI (fun v325 ev325 => ?_)
        replace hK := ps_ltE ev325 hK
        refine pm_ald d_L_law_897 rfl ?_
        refine pm_ild d_L_law_898 rfl ?_
        refine pm_ki d_L_law_899 ?_
        refine pm_iadd d_L_law_900 ?_
        obtain ⟨b328, hT⟩ := ps_gd hK
        replace hK := hT
        clear hT
        refine pl_sld d_L_law_901 (ps_in_of b328) ?_
        refine ps_topI (fun v327 ev327 => ?_)
        replace hK := ps_ltE ev327 hK
        refine ps_cVI d_L_law_902 mv_X9_most at_327 ob_8_0 rfl (As := [.int v325, .int v327]) rfl rfl (pl_room (by decide) (by decide)) (Nat.le_of_ble_eq_true rfl) (C_X9_most v325 v327 σ324 _ (ps_bdE hK)) ?_
        intro v329 σ330 hT
        clear hK
        have hK := hT
        clear hT
        refine pm_icmp_eq d_L_law_905 (fun c331 => ?_) (fun c331 => ?_)
        · replace hK := ps_ifT c331 hK
          refine pm_inc3 d_L_law_1350 rfl ?_
          obtain ⟨v332, ev332⟩ : ∃ y : Int32, y = x3 + 6 := ⟨_, rfl⟩
          rw [← ev332]
          replace hK := ps_ltE ev332 hK
          refine pm_goto d_L_law_1353 ?_
          exact ih _ _ hK
        · replace hK := ps_ifF c331 hK
          refine pm_ki d_L_law_908 ?_
          exact absurd (ps_so hK) (by decide)
      replace hK := ps_ifF c318 hK
      by_cases c333 : v4 = 24
      · replace hK := ps_ifT c333 hK
        refine pm_tabIn (tgt := 910) (off := 877) d_L_law_33 (by rw [c333]; decide) (by rw [c333]; decide) (by rw [c333]; rfl) (by decide) ?_
        refine pm_ald d_L_law_910 rfl ?_
        refine pm_ald d_L_law_911 rfl ?_
        refine pm_ild d_L_law_912 rfl ?_
        refine pm_ki d_L_law_913 ?_
        refine pm_iadd d_L_law_914 ?_
        obtain ⟨b335, hT⟩ := ps_gd hK
        replace hK := hT
        clear hT
        refine pl_sld d_L_law_915 (ps_in_of b335) ?_
        refine ps_topI (fun v334 ev334 => ?_)
        replace hK := ps_ltE ev334 hK
        refine ps_cVI d_L_law_916 mv_X8_held at_0 ob_0_0 rfl (As := [.int v334]) rfl rfl (pl_room (by decide) (by decide)) (Nat.le_of_ble_eq_true rfl) (C_X8_held v334 σ _ (ps_bdE hK)) ?_
        intro v336 σ337 hT
        clear hK
        have hK := hT
        clear hT
        refine pm_ald d_L_law_919 rfl ?_
        refine pm_ald d_L_law_920 rfl ?_
        refine pm_ild d_L_law_921 rfl ?_
        refine pm_ki d_L_law_922 ?_
        refine pm_iadd d_L_law_923 ?_
        obtain ⟨b339, hT⟩ := ps_gd hK
        replace hK := hT
        clear hT
        refine pl_sld d_L_law_924 (ps_in_of b339) ?_
        refine ps_topI (fun v338 ev338 => ?_)
        replace hK := ps_ltE ev338 hK
        refine ps_cVI d_L_law_925 mv_X9_held at_327 ob_8_0 rfl (As := [.int v338]) rfl rfl (pl_room (by decide) (by decide)) (Nat.le_of_ble_eq_true rfl) (C_X9_held v338 σ337 _ (ps_bdE hK)) ?_
        intro v340 σ341 hT
        clear hK
        have hK := hT
        clear hT
        refine pm_icmp_eq d_L_law_928 (fun c342 => ?_) (fun c342 => ?_)
        · replace hK := ps_ifT c342 hK
          refine pm_inc3 d_L_law_1350 rfl ?_
          obtain ⟨v343, ev343⟩ : ∃ y : Int32, y = x3 + 6 := ⟨_, rfl⟩
          rw [← ev343]
          replace hK := ps_ltE ev343 hK
          refine pm_goto d_L_law_1353 ?_
          exact ih _ _ hK
        · replace hK := ps_ifF c342 hK
          refine pm_ki d_L_law_931 ?_
          exact absurd (ps_so hK) (by decide)
      replace hK := ps_ifF c333 hK
      by_cases c344 : v4 = 25
      · replace hK := ps_ifT c344 hK
        refine pm_tabIn (tgt := 933) (off := 900) d_L_law_33 (by rw [c344]; decide) (by rw [c344]; decide) (by rw [c344]; rfl) (by decide) ?_
        refine pm_ald d_L_law_933 rfl ?_
        refine pm_ald d_L_law_934 rfl ?_
        refine pm_ild d_L_law_935 rfl ?_
        refine pm_ki d_L_law_936 ?_
        refine pm_iadd d_L_law_937 ?_
        obtain ⟨b346, hT⟩ := ps_gd hK
        replace hK := hT
        clear hT
        refine pl_sld d_L_law_938 (ps_in_of b346) ?_
        refine ps_topI (fun v345 ev345 => ?_)
        replace hK := ps_ltE ev345 hK
        refine ps_cVI d_L_law_939 mv_X8_enough at_0 ob_0_0 rfl (As := [.int v345]) rfl rfl (pl_room (by decide) (by decide)) (Nat.le_of_ble_eq_true rfl) (C_X8_enough v345 σ _ (ps_bdE hK)) ?_
        intro v347 σ348 hT
        clear hK
        have hK := hT
        clear hT
        refine pm_ald d_L_law_942 rfl ?_
        refine pm_ald d_L_law_943 rfl ?_
        refine pm_ild d_L_law_944 rfl ?_
        refine pm_ki d_L_law_945 ?_
        refine pm_iadd d_L_law_946 ?_
        obtain ⟨b350, hT⟩ := ps_gd hK
        replace hK := hT
        clear hT
        refine pl_sld d_L_law_947 (ps_in_of b350) ?_
        refine ps_topI (fun v349 ev349 => ?_)
        replace hK := ps_ltE ev349 hK
        refine ps_cVI d_L_law_948 mv_X9_enough at_327 ob_8_0 rfl (As := [.int v349]) rfl rfl (pl_room (by decide) (by decide)) (Nat.le_of_ble_eq_true rfl) (C_X9_enough v349 σ348 _ (ps_bdE hK)) ?_
        intro v351 σ352 hT
        clear hK
        have hK := hT
        clear hT
        refine pm_icmp_eq d_L_law_951 (fun c353 => ?_) (fun c353 => ?_)
        · replace hK := ps_ifT c353 hK
          refine pm_inc3 d_L_law_1350 rfl ?_
          obtain ⟨v354, ev354⟩ : ∃ y : Int32, y = x3 + 6 := ⟨_, rfl⟩
          rw [← ev354]
          replace hK := ps_ltE ev354 hK
          refine pm_goto d_L_law_1353 ?_
          exact ih _ _ hK
        · replace hK := ps_ifF c353 hK
          refine pm_ki d_L_law_954 ?_
          exact absurd (ps_so hK) (by decide)
      replace hK := ps_ifF c344 hK
      by_cases c355 : v4 = 26
      · replace hK := ps_ifT c355 hK
        refine pm_tabIn (tgt := 956) (off := 923) d_L_law_33 (by rw [c355]; decide) (by rw [c355]; decide) (by rw [c355]; rfl) (by decide) ?_
        refine pm_ald d_L_law_956 rfl ?_
        refine pm_ald d_L_law_957 rfl ?_
        refine pm_ild d_L_law_958 rfl ?_
        refine pm_ki d_L_law_959 ?_
        refine pm_iadd d_L_law_960 ?_
        obtain ⟨b357, hT⟩ := ps_gd hK
        replace hK := hT
        clear hT
        refine pl_sld d_L_law_961 (ps_in_of b357) ?_
        refine ps_topI (fun v356 ev356 => ?_)
        replace hK := ps_ltE ev356 hK
        refine pm_ald d_L_law_962 rfl ?_
        refine pm_ild d_L_law_963 rfl ?_
        refine pm_ki d_L_law_964 ?_
        refine pm_iadd d_L_law_965 ?_
        obtain ⟨b359, hT⟩ := ps_gd hK
        replace hK := hT
        clear hT
        refine pl_sld d_L_law_966 (ps_in_of b359) ?_
        refine ps_topI (fun v358 ev358 => ?_)
        replace hK := ps_ltE ev358 hK
        refine ps_cVI d_L_law_967 mv_X8_bears at_0 ob_0_0 rfl (As := [.int v356, .int v358]) rfl rfl (pl_room (by decide) (by decide)) (Nat.le_of_ble_eq_true rfl) (C_X8_bears v356 v358 σ _ (ps_bdE hK)) ?_
        intro v360 σ361 hT
        clear hK
        have hK := hT
        clear hT
        refine pm_ald d_L_law_970 rfl ?_
        refine pm_ald d_L_law_971 rfl ?_
        refine pm_ild d_L_law_972 rfl ?_
        refine pm_ki d_L_law_973 ?_
        refine pm_iadd d_L_law_974 ?_
        obtain ⟨b363, hT⟩ := ps_gd hK
        replace hK := hT
        clear hT
        refine pl_sld d_L_law_975 (ps_in_of b363) ?_
        refine ps_topI (fun v362 ev362 => ?_)
        replace hK := ps_ltE ev362 hK
        refine pm_ald d_L_law_976 rfl ?_
        refine pm_ild d_L_law_977 rfl ?_
        refine pm_ki d_L_law_978 ?_
        refine pm_iadd d_L_law_979 ?_
        obtain ⟨b365, hT⟩ := ps_gd hK
        replace hK := hT
        clear hT
        refine pl_sld d_L_law_980 (ps_in_of b365) ?_
        refine ps_topI (fun v364 ev364 => ?_)
        replace hK := ps_ltE ev364 hK
        refine ps_cVI d_L_law_981 mv_X9_bears at_327 ob_8_0 rfl (As := [.int v362, .int v364]) rfl rfl (pl_room (by decide) (by decide)) (Nat.le_of_ble_eq_true rfl) (C_X9_bears v362 v364 σ361 _ (ps_bdE hK)) ?_
        intro v366 σ367 hT
        clear hK
        have hK := hT
        clear hT
        refine pm_icmp_eq d_L_law_984 (fun c368 => ?_) (fun c368 => ?_)
        · replace hK := ps_ifT c368 hK
          refine pm_inc3 d_L_law_1350 rfl ?_
          obtain ⟨v369, ev369⟩ : ∃ y : Int32, y = x3 + 6 := ⟨_, rfl⟩
          rw [← ev369]
          replace hK := ps_ltE ev369 hK
          refine pm_goto d_L_law_1353 ?_
          exact ih _ _ hK
        · replace hK := ps_ifF c368 hK
          refine pm_ki d_L_law_987 ?_
          exact absurd (ps_so hK) (by decide)
      replace hK := ps_ifF c355 hK
      by_cases c370 : v4 = 27
      · replace hK := ps_ifT c370 hK
        refine pm_tabIn (tgt := 989) (off := 956) d_L_law_33 (by rw [c370]; decide) (by rw [c370]; decide) (by rw [c370]; rfl) (by decide) ?_
        refine pm_ald d_L_law_989 rfl ?_
        refine pm_ald d_L_law_990 rfl ?_
        refine pm_ild d_L_law_991 rfl ?_
        refine pm_ki d_L_law_992 ?_
        refine pm_iadd d_L_law_993 ?_
        obtain ⟨b372, hT⟩ := ps_gd hK
        replace hK := hT
        clear hT
        refine pl_sld d_L_law_994 (ps_in_of b372) ?_
        refine ps_topI (fun v371 ev371 => ?_)
        replace hK := ps_ltE ev371 hK
        refine pm_ald d_L_law_995 rfl ?_
        refine pm_ild d_L_law_996 rfl ?_
        refine pm_ki d_L_law_997 ?_
        refine pm_iadd d_L_law_998 ?_
        obtain ⟨b374, hT⟩ := ps_gd hK
        replace hK := hT
        clear hT
        refine pl_sld d_L_law_999 (ps_in_of b374) ?_
        refine ps_topI (fun v373 ev373 => ?_)
        replace hK := ps_ltE ev373 hK
        refine pm_ald d_L_law_1000 rfl ?_
        refine pm_ild d_L_law_1001 rfl ?_
        refine pm_ki d_L_law_1002 ?_
        refine pm_iadd d_L_law_1003 ?_
        obtain ⟨b376, hT⟩ := ps_gd hK
        replace hK := hT
        clear hT
        refine pl_sld d_L_law_1004 (ps_in_of b376) ?_
        refine ps_topI (fun v375 ev375 => ?_)
        replace hK := ps_ltE ev375 hK
        refine ps_cVI d_L_law_1005 mv_X8_speeds at_0 ob_0_0 rfl (As := [.int v371, .int v373, .int v375]) rfl rfl (pl_room (by decide) (by decide)) (Nat.le_of_ble_eq_true rfl) (C_X8_speeds v371 v373 v375 σ _ (ps_bdE hK)) ?_
        intro v377 σ378 hT
        clear hK
        have hK := hT
        clear hT
        refine pm_ald d_L_law_1008 rfl ?_
        refine pm_ald d_L_law_1009 rfl ?_
        refine pm_ild d_L_law_1010 rfl ?_
        refine pm_ki d_L_law_1011 ?_
        refine pm_iadd d_L_law_1012 ?_
        obtain ⟨b380, hT⟩ := ps_gd hK
        replace hK := hT
        clear hT
        refine pl_sld d_L_law_1013 (ps_in_of b380) ?_
        refine ps_topI (fun v379 ev379 => ?_)
        replace hK := ps_ltE ev379 hK
        refine pm_ald d_L_law_1014 rfl ?_
        refine pm_ild d_L_law_1015 rfl ?_
        refine pm_ki d_L_law_1016 ?_
        refine pm_iadd d_L_law_1017 ?_
        obtain ⟨b382, hT⟩ := ps_gd hK
        replace hK := hT
        clear hT
        refine pl_sld d_L_law_1018 (ps_in_of b382) ?_
        refine ps_topI (fun v381 ev381 => ?_)
        replace hK := ps_ltE ev381 hK
        refine pm_ald d_L_law_1019 rfl ?_
        refine pm_ild d_L_law_1020 rfl ?_
        refine pm_ki d_L_law_1021 ?_
        refine pm_iadd d_L_law_1022 ?_
        obtain ⟨b384, hT⟩ := ps_gd hK
        replace hK := hT
        clear hT
        refine pl_sld d_L_law_1023 (ps_in_of b384) ?_
        refine ps_topI (fun v383 ev383 => ?_)
        replace hK := ps_ltE ev383 hK
        refine ps_cVI d_L_law_1024 mv_X9_speeds at_327 ob_8_0 rfl (As := [.int v379, .int v381, .int v383]) rfl rfl (pl_room (by decide) (by decide)) (Nat.le_of_ble_eq_true rfl) (C_X9_speeds v379 v381 v383 σ378 _ (ps_bdE hK)) ?_
        intro v385 σ386 hT
        clear hK
        have hK := hT
        clear hT
        refine pm_icmp_eq d_L_law_1027 (fun c387 => ?_) (fun c387 => ?_)
        · replace hK := ps_ifT c387 hK
          refine pm_inc3 d_L_law_1350 rfl ?_
          obtain ⟨v388, ev388⟩ : ∃ y : Int32, y = x3 + 6 := ⟨_, rfl⟩
          rw [← ev388]
          replace hK := ps_ltE ev388 hK
          refine pm_goto d_L_law_1353 ?_
          exact ih _ _ hK
        · replace hK := ps_ifF c387 hK
          refine pm_ki d_L_law_1030 ?_
          exact absurd (ps_so hK) (by decide)
      replace hK := ps_ifF c370 hK
      by_cases c389 : v4 = 28
      · replace hK := ps_ifT c389 hK
        refine pm_tabIn (tgt := 1032) (off := 999) d_L_law_33 (by rw [c389]; decide) (by rw [c389]; decide) (by rw [c389]; rfl) (by decide) ?_
        refine pm_ald d_L_law_1032 rfl ?_
        refine pm_ald d_L_law_1033 rfl ?_
        refine pm_ild d_L_law_1034 rfl ?_
        refine pm_ki d_L_law_1035 ?_
        refine pm_iadd d_L_law_1036 ?_
        obtain ⟨b391, hT⟩ := ps_gd hK
        replace hK := hT
        clear hT
        refine pl_sld d_L_law_1037 (ps_in_of b391) ?_
        refine ps_topI (fun v390 ev390 => ?_)
        replace hK := ps_ltE ev390 hK
        refine ps_cVI d_L_law_1038 mv_X8_busiest at_0 ob_0_0 rfl (As := [.int v390]) rfl rfl (pl_room (by decide) (by decide)) (Nat.le_of_ble_eq_true rfl) (C_X8_busiest v390 σ _ (ps_bdE hK)) ?_
        intro v392 σ393 hT
        clear hK
        have hK := hT
        clear hT
        refine pm_ald d_L_law_1041 rfl ?_
        refine pm_ald d_L_law_1042 rfl ?_
        refine pm_ild d_L_law_1043 rfl ?_
        refine pm_ki d_L_law_1044 ?_
        refine pm_iadd d_L_law_1045 ?_
        obtain ⟨b395, hT⟩ := ps_gd hK
        replace hK := hT
        clear hT
        refine pl_sld d_L_law_1046 (ps_in_of b395) ?_
        refine ps_topI (fun v394 ev394 => ?_)
        replace hK := ps_ltE ev394 hK
        refine ps_cVI d_L_law_1047 mv_X9_busiest at_327 ob_8_0 rfl (As := [.int v394]) rfl rfl (pl_room (by decide) (by decide)) (Nat.le_of_ble_eq_true rfl) (C_X9_busiest v394 σ393 _ (ps_bdE hK)) ?_
        intro v396 σ397 hT
        clear hK
        have hK := hT
        clear hT
        refine pm_icmp_eq d_L_law_1050 (fun c398 => ?_) (fun c398 => ?_)
        · replace hK := ps_ifT c398 hK
          refine pm_inc3 d_L_law_1350 rfl ?_
          obtain ⟨v399, ev399⟩ : ∃ y : Int32, y = x3 + 6 := ⟨_, rfl⟩
          rw [← ev399]
          replace hK := ps_ltE ev399 hK
          refine pm_goto d_L_law_1353 ?_
          exact ih _ _ hK
        · replace hK := ps_ifF c398 hK
          refine pm_ki d_L_law_1053 ?_
          exact absurd (ps_so hK) (by decide)
      replace hK := ps_ifF c389 hK
      by_cases c400 : v4 = 29
      · replace hK := ps_ifT c400 hK
        refine pm_tabIn (tgt := 1055) (off := 1022) d_L_law_33 (by rw [c400]; decide) (by rw [c400]; decide) (by rw [c400]; rfl) (by decide) ?_
        refine pm_ald d_L_law_1055 rfl ?_
        refine pm_ald d_L_law_1056 rfl ?_
        refine pm_ild d_L_law_1057 rfl ?_
        refine pm_ki d_L_law_1058 ?_
        refine pm_iadd d_L_law_1059 ?_
        obtain ⟨b402, hT⟩ := ps_gd hK
        replace hK := hT
        clear hT
        refine pl_sld d_L_law_1060 (ps_in_of b402) ?_
        refine ps_topI (fun v401 ev401 => ?_)
        replace hK := ps_ltE ev401 hK
        refine pm_ald d_L_law_1061 rfl ?_
        refine pm_ild d_L_law_1062 rfl ?_
        refine pm_ki d_L_law_1063 ?_
        refine pm_iadd d_L_law_1064 ?_
        obtain ⟨b404, hT⟩ := ps_gd hK
        replace hK := hT
        clear hT
        refine pl_sld d_L_law_1065 (ps_in_of b404) ?_
        refine ps_topI (fun v403 ev403 => ?_)
        replace hK := ps_ltE ev403 hK
        refine pm_ald d_L_law_1066 rfl ?_
        refine pm_ild d_L_law_1067 rfl ?_
        refine pm_ki d_L_law_1068 ?_
        refine pm_iadd d_L_law_1069 ?_
        obtain ⟨b406, hT⟩ := ps_gd hK
        replace hK := hT
        clear hT
        refine pl_sld d_L_law_1070 (ps_in_of b406) ?_
        refine ps_topI (fun v405 ev405 => ?_)
        replace hK := ps_ltE ev405 hK
        refine ps_cVI d_L_law_1071 mv_X8_chance at_0 ob_0_0 rfl (As := [.int v401, .int v403, .int v405]) rfl rfl (pl_room (by decide) (by decide)) (Nat.le_of_ble_eq_true rfl) (C_X8_chance v401 v403 v405 σ _ (ps_bdE hK)) ?_
        intro v407 σ408 hT
        clear hK
        have hK := hT
        clear hT
        refine pm_ald d_L_law_1074 rfl ?_
        refine pm_ald d_L_law_1075 rfl ?_
        refine pm_ild d_L_law_1076 rfl ?_
        refine pm_ki d_L_law_1077 ?_
        refine pm_iadd d_L_law_1078 ?_
        obtain ⟨b410, hT⟩ := ps_gd hK
        replace hK := hT
        clear hT
        refine pl_sld d_L_law_1079 (ps_in_of b410) ?_
        refine ps_topI (fun v409 ev409 => ?_)
        replace hK := ps_ltE ev409 hK
        refine pm_ald d_L_law_1080 rfl ?_
        refine pm_ild d_L_law_1081 rfl ?_
        refine pm_ki d_L_law_1082 ?_
        refine pm_iadd d_L_law_1083 ?_
        obtain ⟨b412, hT⟩ := ps_gd hK
        replace hK := hT
        clear hT
        refine pl_sld d_L_law_1084 (ps_in_of b412) ?_
        refine ps_topI (fun v411 ev411 => ?_)
        replace hK := ps_ltE ev411 hK
        refine pm_ald d_L_law_1085 rfl ?_
        refine pm_ild d_L_law_1086 rfl ?_
        refine pm_ki d_L_law_1087 ?_
        refine pm_iadd d_L_law_1088 ?_
        obtain ⟨b414, hT⟩ := ps_gd hK
        replace hK := hT
        clear hT
        refine pl_sld d_L_law_1089 (ps_in_of b414) ?_
        refine ps_topI (fun v413 ev413 => ?_)
        replace hK := ps_ltE ev413 hK
        refine ps_cVI d_L_law_1090 mv_X9_chance at_327 ob_8_0 rfl (As := [.int v409, .int v411, .int v413]) rfl rfl (pl_room (by decide) (by decide)) (Nat.le_of_ble_eq_true rfl) (C_X9_chance v409 v411 v413 σ408 _ (ps_bdE hK)) ?_
        intro v415 σ416 hT
        clear hK
        have hK := hT
        clear hT
        refine pm_icmp_eq d_L_law_1093 (fun c417 => ?_) (fun c417 => ?_)
        · replace hK := ps_ifT c417 hK
          refine pm_inc3 d_L_law_1350 rfl ?_
          obtain ⟨v418, ev418⟩ : ∃ y : Int32, y = x3 + 6 := ⟨_, rfl⟩
          rw [← ev418]
          replace hK := ps_ltE ev418 hK
          refine pm_goto d_L_law_1353 ?_
          exact ih _ _ hK
        · replace hK := ps_ifF c417 hK
          refine pm_ki d_L_law_1096 ?_
          exact absurd (ps_so hK) (by decide)
      replace hK := ps_ifF c400 hK
      by_cases c419 : v4 = 30
      · replace hK := ps_ifT c419 hK
        refine pm_tabIn (tgt := 1098) (off := 1065) d_L_law_33 (by rw [c419]; decide) (by rw [c419]; decide) (by rw [c419]; rfl) (by decide) ?_
        refine pm_ald d_L_law_1098 rfl ?_
        refine pm_ald d_L_law_1099 rfl ?_
        refine pm_ild d_L_law_1100 rfl ?_
        refine pm_ki d_L_law_1101 ?_
        refine pm_iadd d_L_law_1102 ?_
        obtain ⟨b421, hT⟩ := ps_gd hK
        replace hK := hT
        clear hT
        refine pl_sld d_L_law_1103 (ps_in_of b421) ?_
        refine ps_topI (fun v420 ev420 => ?_)
        replace hK := ps_ltE ev420 hK
        refine pm_ald d_L_law_1104 rfl ?_
        refine pm_ild d_L_law_1105 rfl ?_
        refine pm_ki d_L_law_1106 ?_
        refine pm_iadd d_L_law_1107 ?_
        obtain ⟨b423, hT⟩ := ps_gd hK
        replace hK := hT
        clear hT
        refine pl_sld d_L_law_1108 (ps_in_of b423) ?_
        refine ps_topI (fun v422 ev422 => ?_)
        replace hK := ps_ltE ev422 hK
        refine ps_cVI d_L_law_1109 mv_X8_mean at_0 ob_0_0 rfl (As := [.int v420, .int v422]) rfl rfl (pl_room (by decide) (by decide)) (Nat.le_of_ble_eq_true rfl) (C_X8_mean v420 v422 σ _ (ps_bdE hK)) ?_
        intro v424 σ425 hT
        clear hK
        have hK := hT
        clear hT
        refine pm_ald d_L_law_1112 rfl ?_
        refine pm_ald d_L_law_1113 rfl ?_
        refine pm_ild d_L_law_1114 rfl ?_
        refine pm_ki d_L_law_1115 ?_
        refine pm_iadd d_L_law_1116 ?_
        obtain ⟨b427, hT⟩ := ps_gd hK
        replace hK := hT
        clear hT
        refine pl_sld d_L_law_1117 (ps_in_of b427) ?_
        refine ps_topI (fun v426 ev426 => ?_)
        replace hK := ps_ltE ev426 hK
        refine pm_ald d_L_law_1118 rfl ?_
        refine pm_ild d_L_law_1119 rfl ?_
        refine pm_ki d_L_law_1120 ?_
        refine pm_iadd d_L_law_1121 ?_
        obtain ⟨b429, hT⟩ := ps_gd hK
        replace hK := hT
        clear hT
        refine pl_sld d_L_law_1122 (ps_in_of b429) ?_
        refine ps_topI (fun v428 ev428 => ?_)
        replace hK := ps_ltE ev428 hK
        refine ps_cVI d_L_law_1123 mv_X9_mean at_327 ob_8_0 rfl (As := [.int v426, .int v428]) rfl rfl (pl_room (by decide) (by decide)) (Nat.le_of_ble_eq_true rfl) (C_X9_mean v426 v428 σ425 _ (ps_bdE hK)) ?_
        intro v430 σ431 hT
        clear hK
        have hK := hT
        clear hT
        refine pm_icmp_eq d_L_law_1126 (fun c432 => ?_) (fun c432 => ?_)
        · replace hK := ps_ifT c432 hK
          refine pm_inc3 d_L_law_1350 rfl ?_
          obtain ⟨v433, ev433⟩ : ∃ y : Int32, y = x3 + 6 := ⟨_, rfl⟩
          rw [← ev433]
          replace hK := ps_ltE ev433 hK
          refine pm_goto d_L_law_1353 ?_
          exact ih _ _ hK
        · replace hK := ps_ifF c432 hK
          refine pm_ki d_L_law_1129 ?_
          exact absurd (ps_so hK) (by decide)
      replace hK := ps_ifF c419 hK
      by_cases c434 : v4 = 31
      · replace hK := ps_ifT c434 hK
        refine pm_tabIn (tgt := 1131) (off := 1098) d_L_law_33 (by rw [c434]; decide) (by rw [c434]; decide) (by rw [c434]; rfl) (by decide) ?_
        refine pm_ald d_L_law_1131 rfl ?_
        refine pm_ald d_L_law_1132 rfl ?_
        refine pm_ild d_L_law_1133 rfl ?_
        refine pm_ki d_L_law_1134 ?_
        refine pm_iadd d_L_law_1135 ?_
        obtain ⟨b436, hT⟩ := ps_gd hK
        replace hK := hT
        clear hT
        refine pl_sld d_L_law_1136 (ps_in_of b436) ?_
        refine ps_topI (fun v435 ev435 => ?_)
        replace hK := ps_ltE ev435 hK
        refine pm_ald d_L_law_1137 rfl ?_
        refine pm_ild d_L_law_1138 rfl ?_
        refine pm_ki d_L_law_1139 ?_
        refine pm_iadd d_L_law_1140 ?_
        obtain ⟨b438, hT⟩ := ps_gd hK
        replace hK := hT
        clear hT
        refine pl_sld d_L_law_1141 (ps_in_of b438) ?_
        refine ps_topI (fun v437 ev437 => ?_)
        replace hK := ps_ltE ev437 hK
        refine pm_ald d_L_law_1142 rfl ?_
        refine pm_ild d_L_law_1143 rfl ?_
        refine pm_ki d_L_law_1144 ?_
        refine pm_iadd d_L_law_1145 ?_
        obtain ⟨b440, hT⟩ := ps_gd hK
        replace hK := hT
        clear hT
        refine pl_sld d_L_law_1146 (ps_in_of b440) ?_
        refine ps_topI (fun v439 ev439 => ?_)
        replace hK := ps_ltE ev439 hK
        refine ps_cVI d_L_law_1147 mv_X8_numbers at_0 ob_0_0 rfl (As := [.int v435, .int v437, .int v439]) rfl rfl (pl_room (by decide) (by decide)) (Nat.le_of_ble_eq_true rfl) (C_X8_numbers v435 v437 v439 σ _ (ps_bdE hK)) ?_
        intro v441 σ442 hT
        clear hK
        have hK := hT
        clear hT
        refine pm_ald d_L_law_1150 rfl ?_
        refine pm_ald d_L_law_1151 rfl ?_
        refine pm_ild d_L_law_1152 rfl ?_
        refine pm_ki d_L_law_1153 ?_
        refine pm_iadd d_L_law_1154 ?_
        obtain ⟨b444, hT⟩ := ps_gd hK
        replace hK := hT
        clear hT
        refine pl_sld d_L_law_1155 (ps_in_of b444) ?_
        refine ps_topI (fun v443 ev443 => ?_)
        replace hK := ps_ltE ev443 hK
        refine pm_ald d_L_law_1156 rfl ?_
        refine pm_ild d_L_law_1157 rfl ?_
        refine pm_ki d_L_law_1158 ?_
        refine pm_iadd d_L_law_1159 ?_
        obtain ⟨b446, hT⟩ := ps_gd hK
        replace hK := hT
        clear hT
        refine pl_sld d_L_law_1160 (ps_in_of b446) ?_
        refine ps_topI (fun v445 ev445 => ?_)
        replace hK := ps_ltE ev445 hK
        refine pm_ald d_L_law_1161 rfl ?_
        refine pm_ild d_L_law_1162 rfl ?_
        refine pm_ki d_L_law_1163 ?_
        refine pm_iadd d_L_law_1164 ?_
        obtain ⟨b448, hT⟩ := ps_gd hK
        replace hK := hT
        clear hT
        refine pl_sld d_L_law_1165 (ps_in_of b448) ?_
        refine ps_topI (fun v447 ev447 => ?_)
        replace hK := ps_ltE ev447 hK
        refine ps_cVI d_L_law_1166 mv_X9_numbers at_327 ob_8_0 rfl (As := [.int v443, .int v445, .int v447]) rfl rfl (pl_room (by decide) (by decide)) (Nat.le_of_ble_eq_true rfl) (C_X9_numbers v443 v445 v447 σ442 _ (ps_bdE hK)) ?_
        intro v449 σ450 hT
        clear hK
        have hK := hT
        clear hT
        refine pm_icmp_eq d_L_law_1169 (fun c451 => ?_) (fun c451 => ?_)
        · replace hK := ps_ifT c451 hK
          refine pm_inc3 d_L_law_1350 rfl ?_
          obtain ⟨v452, ev452⟩ : ∃ y : Int32, y = x3 + 6 := ⟨_, rfl⟩
          rw [← ev452]
          replace hK := ps_ltE ev452 hK
          refine pm_goto d_L_law_1353 ?_
          exact ih _ _ hK
        · replace hK := ps_ifF c451 hK
          refine pm_ki d_L_law_1172 ?_
          exact absurd (ps_so hK) (by decide)
      replace hK := ps_ifF c434 hK
      by_cases c453 : v4 = 32
      · replace hK := ps_ifT c453 hK
        refine pm_tabIn (tgt := 1174) (off := 1141) d_L_law_33 (by rw [c453]; decide) (by rw [c453]; decide) (by rw [c453]; rfl) (by decide) ?_
        refine pm_ald d_L_law_1174 rfl ?_
        refine pm_ald d_L_law_1175 rfl ?_
        refine pm_ild d_L_law_1176 rfl ?_
        refine pm_ki d_L_law_1177 ?_
        refine pm_iadd d_L_law_1178 ?_
        obtain ⟨b455, hT⟩ := ps_gd hK
        replace hK := hT
        clear hT
        refine pl_sld d_L_law_1179 (ps_in_of b455) ?_
        refine ps_topI (fun v454 ev454 => ?_)
        replace hK := ps_ltE ev454 hK
        refine pm_ald d_L_law_1180 rfl ?_
        refine pm_ild d_L_law_1181 rfl ?_
        refine pm_ki d_L_law_1182 ?_
        refine pm_iadd d_L_law_1183 ?_
        obtain ⟨b457, hT⟩ := ps_gd hK
        replace hK := hT
        clear hT
        refine pl_sld d_L_law_1184 (ps_in_of b457) ?_
        refine ps_topI (fun v456 ev456 => ?_)
        replace hK := ps_ltE ev456 hK
        refine pm_ald d_L_law_1185 rfl ?_
        refine pm_ild d_L_law_1186 rfl ?_
        refine pm_ki d_L_law_1187 ?_
        refine pm_iadd d_L_law_1188 ?_
        obtain ⟨b459, hT⟩ := ps_gd hK
        replace hK := hT
        clear hT
        refine pl_sld d_L_law_1189 (ps_in_of b459) ?_
        refine ps_topI (fun v458 ev458 => ?_)
        replace hK := ps_ltE ev458 hK
        refine pm_i2l d_L_law_1190 ?_
        refine pm_ki d_L_law_1191 ?_
        refine pm_lshl d_L_law_1193 ?_
        refine pm_ald d_L_law_1194 rfl ?_
        refine pm_ild d_L_law_1195 rfl ?_
        refine pm_ki d_L_law_1196 ?_
        refine pm_iadd d_L_law_1197 ?_
        obtain ⟨b461, hT⟩ := ps_gd hK
        replace hK := hT
        clear hT
        refine pl_sld d_L_law_1198 (ps_in_of b461) ?_
        refine ps_topI (fun v460 ev460 => ?_)
        replace hK := ps_ltE ev460 hK
        refine pm_i2l d_L_law_1199 ?_
        refine pm_kl d_L_law_1200 ?_
        refine pm_land d_L_law_1203 ?_
        refine pm_lor d_L_law_1204 ?_
        refine ps_cVL d_L_law_1205 mv_X8_write at_0 ob_0_0 rfl (As := [.int v454, .int v456, .long ((((((v458).toInt64)) <<< ((32 : Int32).toInt64 &&& 63))) ||| (((((v460).toInt64)) &&& 4294967295)))]) rfl rfl (pl_room (by decide) (by decide)) (Nat.le_of_ble_eq_true rfl) (C_X8_write v454 v456 (((((((v458).toInt64)) <<< ((32 : Int32).toInt64 &&& 63))) ||| (((((v460).toInt64)) &&& 4294967295)))) σ _ (ps_bdE hK)) ?_
        intro v462 σ463 hT
        clear hK
        have hK := hT
        clear hT
        refine pm_ald d_L_law_1208 rfl ?_
        refine pm_ald d_L_law_1209 rfl ?_
        refine pm_ild d_L_law_1210 rfl ?_
        refine pm_ki d_L_law_1211 ?_
        refine pm_iadd d_L_law_1212 ?_
        obtain ⟨b465, hT⟩ := ps_gd hK
        replace hK := hT
        clear hT
        refine pl_sld d_L_law_1213 (ps_in_of b465) ?_
        refine ps_topI (fun v464 ev464 => ?_)
        replace hK := ps_ltE ev464 hK
        refine pm_ald d_L_law_1214 rfl ?_
        refine pm_ild d_L_law_1215 rfl ?_
        refine pm_ki d_L_law_1216 ?_
        refine pm_iadd d_L_law_1217 ?_
        obtain ⟨b467, hT⟩ := ps_gd hK
        replace hK := hT
        clear hT
        refine pl_sld d_L_law_1218 (ps_in_of b467) ?_
        refine ps_topI (fun v466 ev466 => ?_)
        replace hK := ps_ltE ev466 hK
        refine pm_ald d_L_law_1219 rfl ?_
        refine pm_ild d_L_law_1220 rfl ?_
        refine pm_ki d_L_law_1221 ?_
        refine pm_iadd d_L_law_1222 ?_
        obtain ⟨b469, hT⟩ := ps_gd hK
        replace hK := hT
        clear hT
        refine pl_sld d_L_law_1223 (ps_in_of b469) ?_
        refine ps_topI (fun v468 ev468 => ?_)
        replace hK := ps_ltE ev468 hK
        refine pm_i2l d_L_law_1224 ?_
        refine pm_ki d_L_law_1225 ?_
        refine pm_lshl d_L_law_1227 ?_
        refine pm_ald d_L_law_1228 rfl ?_
        refine pm_ild d_L_law_1229 rfl ?_
        refine pm_ki d_L_law_1230 ?_
        refine pm_iadd d_L_law_1231 ?_
        obtain ⟨b471, hT⟩ := ps_gd hK
        replace hK := hT
        clear hT
        refine pl_sld d_L_law_1232 (ps_in_of b471) ?_
        refine ps_topI (fun v470 ev470 => ?_)
        replace hK := ps_ltE ev470 hK
        refine pm_i2l d_L_law_1233 ?_
        refine pm_kl d_L_law_1234 ?_
        refine pm_land d_L_law_1237 ?_
        refine pm_lor d_L_law_1238 ?_
        refine ps_cVL d_L_law_1239 mv_X9_write at_327 ob_8_0 rfl (As := [.int v464, .int v466, .long ((((((v468).toInt64)) <<< ((32 : Int32).toInt64 &&& 63))) ||| (((((v470).toInt64)) &&& 4294967295)))]) rfl rfl (pl_room (by decide) (by decide)) (Nat.le_of_ble_eq_true rfl) (C_X9_write v464 v466 (((((((v468).toInt64)) <<< ((32 : Int32).toInt64 &&& 63))) ||| (((((v470).toInt64)) &&& 4294967295)))) σ463 _ (ps_bdE hK)) ?_
        intro v472 σ473 hT
        clear hK
        have hK := hT
        clear hT
        refine pm_lcmp d_L_law_1242 ?_
        refine pm_if_eq d_L_law_1243 (fun c474 => ?_) (fun c474 => ?_)
        · replace hK := ps_ifT c474 hK
          refine pm_inc3 d_L_law_1350 rfl ?_
          obtain ⟨v475, ev475⟩ : ∃ y : Int32, y = x3 + 6 := ⟨_, rfl⟩
          rw [← ev475]
          replace hK := ps_ltE ev475 hK
          refine pm_goto d_L_law_1353 ?_
          exact ih _ _ hK
        · replace hK := ps_ifF c474 hK
          refine pm_ki d_L_law_1246 ?_
          exact absurd (ps_so hK) (by decide)
      replace hK := ps_ifF c453 hK
      by_cases c476 : v4 = 33
      · replace hK := ps_ifT c476 hK
        refine pm_tabIn (tgt := 1248) (off := 1215) d_L_law_33 (by rw [c476]; decide) (by rw [c476]; decide) (by rw [c476]; rfl) (by decide) ?_
        refine pm_ald d_L_law_1248 rfl ?_
        refine pm_ald d_L_law_1249 rfl ?_
        refine pm_ild d_L_law_1250 rfl ?_
        refine pm_ki d_L_law_1251 ?_
        refine pm_iadd d_L_law_1252 ?_
        obtain ⟨b478, hT⟩ := ps_gd hK
        replace hK := hT
        clear hT
        refine pl_sld d_L_law_1253 (ps_in_of b478) ?_
        refine ps_topI (fun v477 ev477 => ?_)
        replace hK := ps_ltE ev477 hK
        refine pm_ald d_L_law_1254 rfl ?_
        refine pm_ild d_L_law_1255 rfl ?_
        refine pm_ki d_L_law_1256 ?_
        refine pm_iadd d_L_law_1257 ?_
        obtain ⟨b480, hT⟩ := ps_gd hK
        replace hK := hT
        clear hT
        refine pl_sld d_L_law_1258 (ps_in_of b480) ?_
        refine ps_topI (fun v479 ev479 => ?_)
        replace hK := ps_ltE ev479 hK
        refine ps_cVI d_L_law_1259 mv_X8_lists at_0 ob_0_0 rfl (As := [.int v477, .int v479]) rfl rfl (pl_room (by decide) (by decide)) (Nat.le_of_ble_eq_true rfl) (C_X8_lists v477 v479 σ _ (ps_bdE hK)) ?_
        intro v481 σ482 hT
        clear hK
        have hK := hT
        clear hT
        refine pm_ald d_L_law_1262 rfl ?_
        refine pm_ald d_L_law_1263 rfl ?_
        refine pm_ild d_L_law_1264 rfl ?_
        refine pm_ki d_L_law_1265 ?_
        refine pm_iadd d_L_law_1266 ?_
        obtain ⟨b484, hT⟩ := ps_gd hK
        replace hK := hT
        clear hT
        refine pl_sld d_L_law_1267 (ps_in_of b484) ?_
        refine ps_topI (fun v483 ev483 => ?_)
        replace hK := ps_ltE ev483 hK
        refine pm_ald d_L_law_1268 rfl ?_
        refine pm_ild d_L_law_1269 rfl ?_
        refine pm_ki d_L_law_1270 ?_
        refine pm_iadd d_L_law_1271 ?_
        obtain ⟨b486, hT⟩ := ps_gd hK
        replace hK := hT
        clear hT
        refine pl_sld d_L_law_1272 (ps_in_of b486) ?_
        refine ps_topI (fun v485 ev485 => ?_)
        replace hK := ps_ltE ev485 hK
        refine ps_cVI d_L_law_1273 mv_X9_lists at_327 ob_8_0 rfl (As := [.int v483, .int v485]) rfl rfl (pl_room (by decide) (by decide)) (Nat.le_of_ble_eq_true rfl) (C_X9_lists v483 v485 σ482 _ (ps_bdE hK)) ?_
        intro v487 σ488 hT
        clear hK
        have hK := hT
        clear hT
        refine pm_icmp_eq d_L_law_1276 (fun c489 => ?_) (fun c489 => ?_)
        · replace hK := ps_ifT c489 hK
          refine pm_inc3 d_L_law_1350 rfl ?_
          obtain ⟨v490, ev490⟩ : ∃ y : Int32, y = x3 + 6 := ⟨_, rfl⟩
          rw [← ev490]
          replace hK := ps_ltE ev490 hK
          refine pm_goto d_L_law_1353 ?_
          exact ih _ _ hK
        · replace hK := ps_ifF c489 hK
          refine pm_ki d_L_law_1279 ?_
          exact absurd (ps_so hK) (by decide)
      replace hK := ps_ifF c476 hK
      by_cases c491 : v4 = 34
      · replace hK := ps_ifT c491 hK
        refine pm_tabIn (tgt := 1281) (off := 1248) d_L_law_33 (by rw [c491]; decide) (by rw [c491]; decide) (by rw [c491]; rfl) (by decide) ?_
        refine pm_ald d_L_law_1281 rfl ?_
        refine pm_ald d_L_law_1282 rfl ?_
        refine pm_ild d_L_law_1283 rfl ?_
        refine pm_ki d_L_law_1284 ?_
        refine pm_iadd d_L_law_1285 ?_
        obtain ⟨b493, hT⟩ := ps_gd hK
        replace hK := hT
        clear hT
        refine pl_sld d_L_law_1286 (ps_in_of b493) ?_
        refine ps_topI (fun v492 ev492 => ?_)
        replace hK := ps_ltE ev492 hK
        refine ps_cVI d_L_law_1287 mv_X8_image at_0 ob_0_0 rfl (As := [.int v492]) rfl rfl (pl_room (by decide) (by decide)) (Nat.le_of_ble_eq_true rfl) (C_X8_image v492 σ _ (ps_bdE hK)) ?_
        intro v494 σ495 hT
        clear hK
        have hK := hT
        clear hT
        refine pm_ald d_L_law_1290 rfl ?_
        refine pm_ald d_L_law_1291 rfl ?_
        refine pm_ild d_L_law_1292 rfl ?_
        refine pm_ki d_L_law_1293 ?_
        refine pm_iadd d_L_law_1294 ?_
        obtain ⟨b497, hT⟩ := ps_gd hK
        replace hK := hT
        clear hT
        refine pl_sld d_L_law_1295 (ps_in_of b497) ?_
        refine ps_topI (fun v496 ev496 => ?_)
        replace hK := ps_ltE ev496 hK
        refine ps_cVI d_L_law_1296 mv_X9_image at_327 ob_8_0 rfl (As := [.int v496]) rfl rfl (pl_room (by decide) (by decide)) (Nat.le_of_ble_eq_true rfl) (C_X9_image v496 σ495 _ (ps_bdE hK)) ?_
        intro v498 σ499 hT
        clear hK
        have hK := hT
        clear hT
        refine pm_icmp_eq d_L_law_1299 (fun c500 => ?_) (fun c500 => ?_)
        · replace hK := ps_ifT c500 hK
          refine pm_inc3 d_L_law_1350 rfl ?_
          obtain ⟨v501, ev501⟩ : ∃ y : Int32, y = x3 + 6 := ⟨_, rfl⟩
          rw [← ev501]
          replace hK := ps_ltE ev501 hK
          refine pm_goto d_L_law_1353 ?_
          exact ih _ _ hK
        · replace hK := ps_ifF c500 hK
          refine pm_ki d_L_law_1302 ?_
          exact absurd (ps_so hK) (by decide)
      replace hK := ps_ifF c491 hK
      by_cases c502 : v4 = 35
      · replace hK := ps_ifT c502 hK
        refine pm_tabIn (tgt := 1304) (off := 1271) d_L_law_33 (by rw [c502]; decide) (by rw [c502]; decide) (by rw [c502]; rfl) (by decide) ?_
        refine pm_ald d_L_law_1304 rfl ?_
        refine pm_ald d_L_law_1305 rfl ?_
        refine pm_ild d_L_law_1306 rfl ?_
        refine pm_ki d_L_law_1307 ?_
        refine pm_iadd d_L_law_1308 ?_
        obtain ⟨b504, hT⟩ := ps_gd hK
        replace hK := hT
        clear hT
        refine pl_sld d_L_law_1309 (ps_in_of b504) ?_
        refine ps_topI (fun v503 ev503 => ?_)
        replace hK := ps_ltE ev503 hK
        refine ps_cVI d_L_law_1310 mv_X8_restore at_0 ob_0_0 rfl (As := [.int v503]) rfl rfl (pl_room (by decide) (by decide)) (Nat.le_of_ble_eq_true rfl) (C_X8_restore v503 σ _ (ps_bdE hK)) ?_
        intro v505 σ506 hT
        clear hK
        have hK := hT
        clear hT
        refine pm_ald d_L_law_1313 rfl ?_
        refine pm_ald d_L_law_1314 rfl ?_
        refine pm_ild d_L_law_1315 rfl ?_
        refine pm_ki d_L_law_1316 ?_
        refine pm_iadd d_L_law_1317 ?_
        obtain ⟨b508, hT⟩ := ps_gd hK
        replace hK := hT
        clear hT
        refine pl_sld d_L_law_1318 (ps_in_of b508) ?_
        refine ps_topI (fun v507 ev507 => ?_)
        replace hK := ps_ltE ev507 hK
        refine ps_cVI d_L_law_1319 mv_X9_restore at_327 ob_8_0 rfl (As := [.int v507]) rfl rfl (pl_room (by decide) (by decide)) (Nat.le_of_ble_eq_true rfl) (C_X9_restore v507 σ506 _ (ps_bdE hK)) ?_
        intro v509 σ510 hT
        clear hK
        have hK := hT
        clear hT
        refine pm_icmp_eq d_L_law_1322 (fun c511 => ?_) (fun c511 => ?_)
        · replace hK := ps_ifT c511 hK
          refine pm_inc3 d_L_law_1350 rfl ?_
          obtain ⟨v512, ev512⟩ : ∃ y : Int32, y = x3 + 6 := ⟨_, rfl⟩
          rw [← ev512]
          replace hK := ps_ltE ev512 hK
          refine pm_goto d_L_law_1353 ?_
          exact ih _ _ hK
        · replace hK := ps_ifF c511 hK
          refine pm_ki d_L_law_1325 ?_
          exact absurd (ps_so hK) (by decide)
      replace hK := ps_ifF c502 hK
      by_cases c513 : v4 = 36
      · replace hK := ps_ifT c513 hK
        refine pm_tabIn (tgt := 1327) (off := 1294) d_L_law_33 (by rw [c513]; decide) (by rw [c513]; decide) (by rw [c513]; rfl) (by decide) ?_
        refine pm_ald d_L_law_1327 rfl ?_
        refine pm_ald d_L_law_1328 rfl ?_
        refine pm_ild d_L_law_1329 rfl ?_
        refine pm_ki d_L_law_1330 ?_
        refine pm_iadd d_L_law_1331 ?_
        obtain ⟨b515, hT⟩ := ps_gd hK
        replace hK := hT
        clear hT
        refine pl_sld d_L_law_1332 (ps_in_of b515) ?_
        refine ps_topI (fun v514 ev514 => ?_)
        replace hK := ps_ltE ev514 hK
        refine ps_cVI d_L_law_1333 mv_X8_count at_0 ob_0_0 rfl (As := [.int v514]) rfl rfl (pl_room (by decide) (by decide)) (Nat.le_of_ble_eq_true rfl) (C_X8_count v514 σ _ (ps_bdE hK)) ?_
        intro v516 σ517 hT
        clear hK
        have hK := hT
        clear hT
        refine pm_ald d_L_law_1336 rfl ?_
        refine pm_ald d_L_law_1337 rfl ?_
        refine pm_ild d_L_law_1338 rfl ?_
        refine pm_ki d_L_law_1339 ?_
        refine pm_iadd d_L_law_1340 ?_
        obtain ⟨b519, hT⟩ := ps_gd hK
        replace hK := hT
        clear hT
        refine pl_sld d_L_law_1341 (ps_in_of b519) ?_
        refine ps_topI (fun v518 ev518 => ?_)
        replace hK := ps_ltE ev518 hK
        refine ps_cVI d_L_law_1342 mv_X9_count at_327 ob_8_0 rfl (As := [.int v518]) rfl rfl (pl_room (by decide) (by decide)) (Nat.le_of_ble_eq_true rfl) (C_X9_count v518 σ517 _ (ps_bdE hK)) ?_
        intro v520 σ521 hT
        clear hK
        have hK := hT
        clear hT
        refine pm_icmp_eq d_L_law_1345 (fun c522 => ?_) (fun c522 => ?_)
        · replace hK := ps_ifT c522 hK
          refine pm_inc3 d_L_law_1350 rfl ?_
          obtain ⟨v523, ev523⟩ : ∃ y : Int32, y = x3 + 6 := ⟨_, rfl⟩
          rw [← ev523]
          replace hK := ps_ltE ev523 hK
          refine pm_goto d_L_law_1353 ?_
          exact ih _ _ hK
        · replace hK := ps_ifF c522 hK
          refine pm_ki d_L_law_1348 ?_
          exact absurd (ps_so hK) (by decide)
      replace hK := ps_ifF c513 hK
      refine pm_tabOut (tgt := 1350) d_L_law_33 (by decide) (ps_swout (lo := 0) (n := 37) (by decide) (by decide) (fun k hk => match k, hk with | 0, _ => c5 | 1, _ => c32 | 2, _ => c43 | 3, _ => c54 | 4, _ => c65 | 5, _ => c80 | 6, _ => c95 | 7, _ => c110 | 8, _ => c121 | 9, _ => c136 | 10, _ => c147 | 11, _ => c162 | 12, _ => c177 | 13, _ => c188 | 14, _ => c203 | 15, _ => c214 | 16, _ => c229 | 17, _ => c244 | 18, _ => c255 | 19, _ => c266 | 20, _ => c273 | 21, _ => c288 | 22, _ => c303 | 23, _ => c318 | 24, _ => c333 | 25, _ => c344 | 26, _ => c355 | 27, _ => c370 | 28, _ => c389 | 29, _ => c400 | 30, _ => c419 | 31, _ => c434 | 32, _ => c453 | 33, _ => c476 | 34, _ => c491 | 35, _ => c502 | 36, _ => c513 | k + 37, hk => absurd hk (by omega))) ?_
      refine pm_inc3 d_L_law_1350 rfl ?_
      obtain ⟨v524, ev524⟩ : ∃ y : Int32, y = x3 + 6 := ⟨_, rfl⟩
      rw [← ev524]
      replace hK := ps_ltE ev524 hK
      refine pm_goto d_L_law_1353 ?_
      exact ih _ _ hK
