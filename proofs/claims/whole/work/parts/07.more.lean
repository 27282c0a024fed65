/-! more rows: Math, arraycopy, Object's constructor, switches, Strings, what is made -/
section PMX
variable {g : pm_G} {M : pm_M} {F : pm_F} {cn sn pc pc' : Nat} {ls : List (Option Value)} {st : List Value} {N : Nat} {E : pm_E}
theorem pm_mmin {x y : Int32} (hd : pm_CS M pc mJ9_min_7cf53 pc') (hR : 1 ≤ F.1.frames ∧ 21 ≤ F.1.locals ∧ cn ≤ F.1.cells ∧ sn ≤ F.1.slots) (hs : (st.map fun v => v.category).sum ≤ 8) (k : pm_W g M F cn sn pc' ls (.int (if y < x then y else x) :: st) N E) : pm_W g M F cn sn pc ls (.int y :: .int x :: st) N E := by
  obtain ⟨idx, hdg, hl, rfl⟩ := hd
  intro p l e s m args below meth c hC H locs d0 L hd0 hL hWD hS hz
  exact va_mmin (s := s.setDrawn d0) (rest := st) hC.1 hC.2.1 (hC.2.2.1.trans hL.1.symm) hC.2.2.2.2.2.1 (dr_words hC.2.2.2.2.2.2.2.1 d0 _ hl) (dr_words hC.2.2.2.2.2.2.2.1 d0 _ w3_5) (dr_words hC.2.2.2.2.2.2.2.1 d0 _ w1_13) (dr_words hC.2.2.2.2.2.2.2.1 d0 _ w3_6) hR.1 (Nat.le_trans (Nat.add_le_add_right hs 13) hR.2.1) hR.2.2.1 hR.2.2.2 hdg (k p l e s m args below meth c hC H locs d0 L hd0 hL hWD hS hz)
theorem pm_mmax {x y : Int32} (hd : pm_CS M pc mJ9_max_7cf53 pc') (hR : 1 ≤ F.1.frames ∧ 21 ≤ F.1.locals ∧ cn ≤ F.1.cells ∧ sn ≤ F.1.slots) (hs : (st.map fun v => v.category).sum ≤ 8) (k : pm_W g M F cn sn pc' ls (.int (if x < y then y else x) :: st) N E) : pm_W g M F cn sn pc ls (.int y :: .int x :: st) N E := by
  obtain ⟨idx, hdg, hl, rfl⟩ := hd
  intro p l e s m args below meth c hC H locs d0 L hd0 hL hWD hS hz
  exact va_mmax (s := s.setDrawn d0) (rest := st) hC.1 hC.2.1 (hC.2.2.1.trans hL.1.symm) hC.2.2.2.2.2.1 (dr_words hC.2.2.2.2.2.2.2.1 d0 _ hl) (dr_words hC.2.2.2.2.2.2.2.1 d0 _ w3_59) (dr_words hC.2.2.2.2.2.2.2.1 d0 _ w1_13) (dr_words hC.2.2.2.2.2.2.2.1 d0 _ w3_60) hR.1 (Nat.le_trans (Nat.add_le_add_right hs 13) hR.2.1) hR.2.2.1 hR.2.2.2 hdg (k p l e s m args below meth c hC H locs d0 L hd0 hL hWD hS hz)
def pm_AC (M : pm_M) (pc pc' : Nat) : Prop := ∃ idx : Nat, decode M.2.2.1 pc = .ok (.invokestatic idx, 3) ∧ Cond.methodLink M.1 idx arraycopyName ∈ pm_T ∧ pc + 3 = pc'
theorem pm_copyi (q0 q1 : Nat) {n0 n1 : Nat} {f h : Nat → Int32} {sp dp n : Int32} (hd : pm_AC M pc pc') (hq0 : q0 < N) (hq1 : q1 < N) (hE0 : E q0 = .inl (g.2.1 0, n0, .inl f)) (hE1 : E q1 = .inl (g.2.1 0, n1, .inl h)) (h1 : ¬ sp < 0) (h2 : ¬ dp < 0) (h3 : ¬ n < 0) (h4 : sp.toNatClampNeg + n.toNatClampNeg ≤ n0) (h5 : dp.toNatClampNeg + n.toNatClampNeg ≤ n1) (hR : 1 ≤ F.1.frames ∧ 26 ≤ F.1.locals) (hs : (st.map fun v => v.category).sum ≤ 8) (k : pm_W g M F cn sn pc' ls st N (pm_up E q1 (.inl (g.2.1 0, n1, .inl (va_cpy f h sp.toNatClampNeg dp.toNatClampNeg n.toNatClampNeg))))) : pm_W g M F cn sn pc ls (.int n :: .int dp :: .ref (g.2.2.1 + q1) :: .int sp :: .ref (g.2.2.1 + q0) :: st) N E := by
  obtain ⟨idx, hdg, hl, rfl⟩ := hd
  intro p l e s m args below meth c hC H locs d0 L hd0 hL hWD hS hz
  exact va_copyi (s := s.setDrawn d0) (rest := st) (ty := .int) hC.1 hC.2.1 (hC.2.2.1.trans hL.1.symm) hC.2.2.2.2.2.1 (dr_words hC.2.2.2.2.2.2.2.1 d0 _ hl) (dr_words hC.2.2.2.2.2.2.2.1 d0 _ w2_175) (dr_words hC.2.2.2.2.2.2.2.1 d0 _ w2_174) (dr_words hC.2.2.2.2.2.2.2.1 d0 _ w1_11) (va_K.moved (u := s) (U := s.setDrawn d0) (Vm.Alike.refl s.vm) hC.2.2.2.2.2.2.2.2.1) hWD.2 (pm_DD g N E) (pm_self hS) q0 q1 0 0 (by rw [pm_wl_get hq0, hE0]) (by rw [pm_wl_get hq1, hE1]) rfl rfl rfl h1 h2 h3 h4 h5 (fun _ _ => rfl) hR.1 (by show _ + (7 + 11) ≤ _; omega) hdg (fun H1 locs1 hP1 _ hS1 => pm_wr hS1 hS hz (fun z hS2 => k p l e s m args below meth c hC H1 locs1 d0 L hd0 hL ⟨z.trans hWD.1, by rw [← pm_wl_set hq1]; exact hP1⟩ hS2 (z.trans hz)))
theorem pm_copyd (q0 q1 : Nat) {n0 n1 : Nat} {f h : Nat → UInt64} {sp dp n : Int32} (hd : pm_AC M pc pc') (hq0 : q0 < N) (hq1 : q1 < N) (hE0 : E q0 = .inl (g.2.1 4, n0, .inr (.inr (.inr (.inl f))))) (hE1 : E q1 = .inl (g.2.1 4, n1, .inr (.inr (.inr (.inl h))))) (h1 : ¬ sp < 0) (h2 : ¬ dp < 0) (h3 : ¬ n < 0) (h4 : sp.toNatClampNeg + n.toNatClampNeg ≤ n0) (h5 : dp.toNatClampNeg + n.toNatClampNeg ≤ n1) (hR : 1 ≤ F.1.frames ∧ 26 ≤ F.1.locals) (hs : (st.map fun v => v.category).sum ≤ 8) (k : pm_W g M F cn sn pc' ls st N (pm_up E q1 (.inl (g.2.1 4, n1, .inr (.inr (.inr (.inl (va_cpy f h sp.toNatClampNeg dp.toNatClampNeg n.toNatClampNeg)))))))) : pm_W g M F cn sn pc ls (.int n :: .int dp :: .ref (g.2.2.1 + q1) :: .int sp :: .ref (g.2.2.1 + q0) :: st) N E := by
  obtain ⟨idx, hdg, hl, rfl⟩ := hd
  intro p l e s m args below meth c hC H locs d0 L hd0 hL hWD hS hz
  exact va_copyd (s := s.setDrawn d0) (rest := st) (ty := .double) hC.1 hC.2.1 (hC.2.2.1.trans hL.1.symm) hC.2.2.2.2.2.1 (dr_words hC.2.2.2.2.2.2.2.1 d0 _ hl) (dr_words hC.2.2.2.2.2.2.2.1 d0 _ w2_175) (dr_words hC.2.2.2.2.2.2.2.1 d0 _ w2_174) (dr_words hC.2.2.2.2.2.2.2.1 d0 _ w1_11) (va_K.moved (u := s) (U := s.setDrawn d0) (Vm.Alike.refl s.vm) hC.2.2.2.2.2.2.2.2.1) hWD.2 (pm_DD g N E) (pm_self hS) q0 q1 4 4 (by rw [pm_wl_get hq0, hE0]) (by rw [pm_wl_get hq1, hE1]) rfl rfl rfl h1 h2 h3 h4 h5 (fun _ _ => rfl) hR.1 (by show _ + (7 + 11) ≤ _; omega) hdg (fun H1 locs1 hP1 _ hS1 => pm_wr hS1 hS hz (fun z hS2 => k p l e s m args below meth c hC H1 locs1 d0 L hd0 hL ⟨z.trans hWD.1, by rw [← pm_wl_set hq1]; exact hP1⟩ hS2 (z.trans hz)))
def pm_CO (M : pm_M) (pc pc' : Nat) : Prop := ∃ idx : Nat, decode M.2.2.1 pc = .ok (.invokespecial idx, 3) ∧ Cond.methodLink M.1 idx objectInit ∈ pm_T ∧ pc + 3 = pc'
theorem pm_obj {a : Nat} (hd : pm_CO M pc pc') (hR : 1 ≤ F.1.frames ∧ 20 ≤ F.1.locals) (hs : (st.map fun v => v.category).sum ≤ 8) (k : pm_W g M F cn sn pc' ls st N E) : pm_W g M F cn sn pc ls (.ref a :: st) N E := by
  obtain ⟨idx, hdg, hl, rfl⟩ := hd
  intro p l e s m args below meth c hC H locs d0 L hd0 hL hWD hS hz
  exact W.objInit (s := s.setDrawn d0) (rest := st) (g := F0 m pc L (.ref a :: st)) hC.1 hC.2.1 hC.2.2.2.2.2.1 (dr_words hC.2.2.2.2.2.2.2.1 d0 _ hl) (dr_words hC.2.2.2.2.2.2.2.1 d0 _ w1_25) (dr_words hC.2.2.2.2.2.2.2.1 d0 _ w1_26) rfl (hL.1.trans hC.2.2.1.symm) rfl hdg hR.1 (by show 2 * 0 + _ + 12 ≤ _; omega) (k p l e s m args below meth c hC H locs d0 L hd0 hL hWD hS hz)
theorem pm_tabOut {dflt lo hi : Int} {offs : Array Int} {len : Nat} {x : Int32} {tgt : Nat} (hd : decode M.2.2.1 pc = .ok (.tableswitch dflt lo hi offs, len)) (ht : (pc : Int) + dflt = (tgt : Int)) (h : x.toInt < lo ∨ hi < x.toInt) (k : pm_W g M F cn sn tgt ls st N E) : pm_W g M F cn sn pc ls (.int x :: st) N E := by
  intro p l e s m args below meth c hC H locs d0 L hd0 hL hWD hS hz
  exact lv_tableOut hC.1 hC.2.1 hd h ht (k p l e s m args below meth c hC H locs d0 L hd0 hL hWD hS hz)
theorem pm_tabIn {dflt lo hi : Int} {offs : Array Int} {len : Nat} {x : Int32} {off : Int} {tgt : Nat} (hd : decode M.2.2.1 pc = .ok (.tableswitch dflt lo hi offs, len)) (h1 : ¬ x.toInt < lo) (h2 : ¬ hi < x.toInt) (ho : offs[(x.toInt - lo).toNat]? = some off) (ht : (pc : Int) + off = (tgt : Int)) (k : pm_W g M F cn sn tgt ls st N E) : pm_W g M F cn sn pc ls (.int x :: st) N E := by
  intro p l e s m args below meth c hC H locs d0 L hd0 hL hWD hS hz
  exact lv_tableIn hC.1 hC.2.1 hd h1 h2 ho ht (k p l e s m args below meth c hC H locs d0 L hd0 hL hWD hS hz)
theorem pm_look {dflt : Int} {ps : Array (Int × Int)} {len : Nat} {x : Int32} {off : Int} {tgt : Nat} (hd : decode M.2.2.1 pc = .ok (.lookupswitch dflt ps, len)) (hp : (ps.toList.zip (ps.toList.drop 1)).all (fun (a, next) => a.1 < next.1) = true) (ho : Op.lookupswitch.offset ps.toList dflt x.toInt = off) (ht : (pc : Int) + off = (tgt : Int)) (k : pm_W g M F cn sn tgt ls st N E) : pm_W g M F cn sn pc ls (.int x :: st) N E := by
  intro p l e s m args below meth c hC H locs d0 L hd0 hL hWD hS hz
  exact lv_lookup hC.1 hC.2.1 hd hp ho ht (k p l e s m args below meth c hC H locs d0 L hd0 hL hWD hS hz)
/-- a field of java.lang.String, as String's own methods name it -/
def pm_GS (M : pm_M) (pc : Nat) (nm ds : String) (pc' : Nat) : Prop := ∃ idx : Nat, decode M.2.2.1 pc = .ok (.getfield idx, 3) ∧ Cond.fieldLink M.1 idx "java/lang/String" nm ds ∈ pm_T ∧ pc + 3 = pc'
def pm_GZ (M : pm_M) (pc : Nat) (cls nm ds : String) (pc' : Nat) : Prop := ∃ idx : Nat, decode M.2.2.1 pc = .ok (.getstatic idx, 3) ∧ Cond.fieldLink M.1 idx cls nm ds ∈ pm_T ∧ pc + 3 = pc'
theorem pm_scoder {i : Nat} (hi : i < 26) (hd : pm_GS M pc "coder" "B" pc') (k : pm_W g M F cn sn pc' ls (.int 0 :: st) N E) : pm_W g M F cn sn pc ls (.ref (g.2.2.2.1 i) :: st) N E := by
  obtain ⟨idx, hdg, hl, rfl⟩ := hd
  intro p l e s m args below meth c hC H locs d0 L hd0 hL hWD hS hz
  exact vk_getf hC.1 hC.2.1 ((vk_S.moved (u := s) (U := s.setDrawn d0) (Vm.Alike.refl s.vm) hC.2.2.2.2.2.2.2.2.2.1.1).1 i hi).2.1 hS hC.2.2.2.2.2.1 (dr_words hC.2.2.2.2.2.2.2.1 d0 _ hl) (fun _ h => h) hdg (k p l e s m args below meth c hC H locs d0 L hd0 hL hWD hS hz)
theorem pm_svalue {i : Nat} (hi : i < 26) (hd : pm_GS M pc "value" "[B" pc') (k : pm_W g M F cn sn pc' ls (.ref (g.2.2.2.2 i) :: st) N E) : pm_W g M F cn sn pc ls (.ref (g.2.2.2.1 i) :: st) N E := by
  obtain ⟨idx, hdg, hl, rfl⟩ := hd
  intro p l e s m args below meth c hC H locs d0 L hd0 hL hWD hS hz
  exact vk_getf hC.1 hC.2.1 ((vk_S.moved (u := s) (U := s.setDrawn d0) (Vm.Alike.refl s.vm) hC.2.2.2.2.2.2.2.2.2.1.1).1 i hi).2.2.1 hS hC.2.2.2.2.2.1 (dr_words hC.2.2.2.2.2.2.2.1 d0 _ hl) (fun _ h => h) hdg (k p l e s m args below meth c hC H locs d0 L hd0 hL hWD hS hz)
theorem pm_sbald {i : Nat} (hi : i < 26) {j : Int32} (hd : pm_D M.2.2.1 pc .baload 1 pc') (hin : vp_in j (pm_len.getD i 0)) (k : pm_W g M F cn sn pc' ls (.int ((pm_byt.getD i []).getD j.toNatClampNeg 0) :: st) N E) : pm_W g M F cn sn pc ls (.int j :: .ref (g.2.2.2.2 i) :: st) N E := by
  obtain ⟨hdg, rfl⟩ := hd
  intro p l e s m args below meth c hC H locs d0 L hd0 hL hWD hS hz
  exact va_tb hC.1 hC.2.1 ((vk_S.moved (u := s) (U := s.setDrawn d0) (Vm.Alike.refl s.vm) hC.2.2.2.2.2.2.2.2.2.1.1).1 i hi).2.2.2 hS hin rfl hdg (k p l e s m args below meth c hC H locs d0 L hd0 hL hWD hS hz)
theorem pm_salen {i : Nat} (hi : i < 26) {v : Int32} (hd : pm_D M.2.2.1 pc .arraylength 1 pc') (hv : Int32.ofNat (pm_len.getD i 0) = v) (k : pm_W g M F cn sn pc' ls (.int v :: st) N E) : pm_W g M F cn sn pc ls (.ref (g.2.2.2.2 i) :: st) N E := by
  obtain ⟨hdg, rfl⟩ := hd
  intro p l e s m args below meth c hC H locs d0 L hd0 hL hWD hS hz
  exact va_tlen hC.1 hC.2.1 ((vk_S.moved (u := s) (U := s.setDrawn d0) (Vm.Alike.refl s.vm) hC.2.2.2.2.2.2.2.2.2.1.1).1 i hi).2.2.2 hS hv hdg (k p l e s m args below meth c hC H locs d0 L hd0 hL hWD hS hz)
theorem pm_compact (hd : pm_GZ M pc "java/lang/String" "COMPACT_STRINGS" "Z" pc') (k : pm_W g M F cn sn pc' ls (.int 1 :: st) N E) : pm_W g M F cn sn pc ls st N E := by
  obtain ⟨idx, hdg, hl, rfl⟩ := hd
  intro p l e s m args below meth c hC H locs d0 L hd0 hL hWD hS hz
  exact va_gets hC.1 hC.2.1 (va_Z.moved (u := s) (U := s.setDrawn d0) (Vm.Alike.refl s.vm) hC.2.2.2.2.2.2.2.2.2.1.2.2.1) hS hC.2.2.2.2.2.1 (dr_words hC.2.2.2.2.2.2.2.1 d0 _ hl) (fun _ h => h) hdg (k p l e s m args below meth c hC H locs d0 L hd0 hL hWD hS hz)
theorem pm_format (hd : pm_GZ M pc "jdk/internal/util/Preconditions" "SIOOBE_FORMATTER" "Ljava/util/function/BiFunction;" pc') (k : ∀ v : Value, (v = .null ∨ ∃ t : Nat, v = .ref t) → pm_W g M F cn sn pc' ls (v :: st) N E) : pm_W g M F cn sn pc ls st N E := by
  obtain ⟨idx, hdg, hl, rfl⟩ := hd
  intro p l e s m args below meth c hC H locs d0 L hd0 hL hWD hS hz
  rcases hC.2.2.2.2.2.2.2.2.2.1.2.2.2.1 with hz1 | ⟨t, hz1⟩
  · exact va_gets hC.1 hC.2.1 (va_Z.moved (u := s) (U := s.setDrawn d0) (Vm.Alike.refl s.vm) hz1) hS hC.2.2.2.2.2.1 (dr_words hC.2.2.2.2.2.2.2.1 d0 _ hl) (fun _ h => h) hdg (k .null (Or.inl rfl) p l e s m args below meth c hC H locs d0 L hd0 hL hWD hS hz)
  · exact va_gets hC.1 hC.2.1 (va_Z.moved (u := s) (U := s.setDrawn d0) (Vm.Alike.refl s.vm) hz1) hS hC.2.2.2.2.2.1 (dr_words hC.2.2.2.2.2.2.2.1 d0 _ hl) (fun _ h => h) hdg (k (.ref t) (Or.inr ⟨t, rfl⟩) p l e s m args below meth c hC H locs d0 L hd0 hL hWD hS hz)
theorem pm_callT {M' : pm_M} {d' n i : Nat} {As st0 : List Value} {Q' : Option Value → pm_E → Prop} (hi : i < 26) (hd : pm_CV M pc M' pc') (hm : pm_MV M' n) (hcl : M'.2.1.cls = "java/lang/String") (hn : As.length = n) (hst : st0 = As.reverse ++ .ref (g.2.2.2.1 i) :: st)
    (hR : d' + 1 ≤ F.1.frames ∧ 8 + (M'.2.2.2.1 + 11) + 48 * d' ≤ F.1.locals) (hf : cn ≤ F.1.cells ∧ sn ≤ F.1.slots) (hs : (st.map fun v => v.category).sum ≤ 8) (hcon : pm_C g M' d' 0 0 (.ref (g.2.2.2.1 i) :: As) N E Q')
    (k : ∀ (r : Option Value) (E1 : pm_E), Q' r E1 → pm_W g M F cn sn pc' ls (r.toList ++ st) N E1) : pm_W g M F cn sn pc ls st0 N E := by
  obtain ⟨idx, hdg, hl, rfl⟩ := hd
  intro p l e s m args below meth c hC H locs d0 L hd0 hL hWD hS hz
  have hts := dr_words hC.2.2.2.2.2.2.2.1 d0
  have hG : GoodIn pm_T (wsV M.1 idx M'.2.1.cls M'.2.1 (pm_ws M')) := by
    intro w h
    rcases List.mem_append.mp h with h | h
    · simp only [List.mem_cons, List.not_mem_nil, or_false] at h
      rcases h with rfl | rfl | rfl | rfl
      · exact pm_good _ hl
      · exact pm_good _ hm.2.1
      · exact pm_good _ hm.2.2
      · exact pm_good _ hm.1.1
    · exact pm_wsgood hm.1 w h
  refine pm_aft (va_runV_D (As := As) (rest := st) ⟨hC.1, hC.2.1, hC.2.2.1, hC.2.2.2.2.2.1, hts⟩ (hcon l) (cwV n hts hG rfl rfl rfl ⟨rfl, hm.1.2.2⟩ hR) ⟨pm_blind g _ N E, by rw [hcl]; exact vk_recv (vk_S.moved (u := s) (U := s.setDrawn d0) (Vm.Alike.refl s.vm) hC.2.2.2.2.2.2.2.2.2.1.1) hi hS, fun U hU hW => pm_pre hC hWD hS U hU hW⟩ rfl hn hL.1 hst (lv_room hs) hdg hf) hd0 hWD hS hz ?_
  intro r E1 h1 H1 locs1 d1 g1 g2 g3 g4
  exact k r E1 h1 p l e s m args below meth c hC H1 locs1 d1 L g1 hL g2 g3 g4
/-- the cells with one more -/
theorem pm_WD.more {D : va_G} {H H1 : Heap} {e : va_E} (hg : D = g.1) (hWD : pm_WD g N E H) (z : H1.size = H.size + 1) (o1 : ∀ q : Nat, q < H.size → H1[q]? = H[q]?) (he : va_at D vwCl (g.2.2.1 + N, e) H1) : pm_WD g (N + 1) (pm_up E N e) H1 := by
  subst hg
  refine ⟨by rw [z, hWD.1]; omega, fun k x hk => ?_⟩
  obtain ⟨h1, rfl⟩ := pm_wl_inv hk
  by_cases hkN : k = N
  · subst hkN
    simp only [pm_up, if_true]
    exact he
  · have hlt : k < N := by omega
    have h2 := hWD.2 k _ (pm_wl_get hlt)
    simp only [pm_up, hkN, if_false]
    exact h2.kept (o1 _ h2.lt)
def pm_NW (M : pm_M) (pc ci : Nat) (n : Nat) (fs : List Value) (pc' : Nat) : Prop := ∃ (idx : Nat) (C : String) (T : u_T) (ty : Nat → FieldType), decode M.2.2.1 pc = .ok (.new idx, 3) ∧ vwCl[ci]? = some (C, T, n) ∧ (∀ w ∈ u_ws C T n, w ∈ pm_T) ∧ (∀ j, j < n → parseFieldDescriptor (T j).2.2.1 = some (ty j)) ∧ Cond.classLink M.1 idx C ∈ pm_T ∧ Cond.instantiable C n ∈ pm_T ∧ Cond.initialized C ∈ pm_T ∧ (∀ j, j < n → defaultValue (ty j) = vp_V fs j) ∧ pc + 3 = pc'
theorem pm_new {ci n : Nat} {fs : List Value} (hd : pm_NW M pc ci n fs pc') (hc : cn + 1 ≤ F.1.cells) (hsl : sn + n ≤ F.1.slots) (k : pm_W g M F (cn + 1) (sn + n) pc' ls (.ref (g.2.2.1 + N) :: st) (N + 1) (pm_up E N (.inr (ci, fs)))) : pm_W g M F cn sn pc ls st N E := by
  obtain ⟨idx, C, T, ty, hdg, h1, h2, h3, h4, h5, h6, h7, rfl⟩ := hd
  intro p l e s m args below meth c hC H locs d0 L hd0 hL hWD hS hz
  have hts := dr_words hC.2.2.2.2.2.2.2.1 d0
  have hK : va_K g.1 vwCl (pm_tys g) (s.setDrawn d0) := va_K.moved (u := s) (U := s.setDrawn d0) (Vm.Alike.refl s.vm) hC.2.2.2.2.2.2.2.2.1
  have hKn := hK.1 ci _ h1
  refine W.newcK (s := s.setDrawn d0) (g := F0 m pc L st) hC.1 hC.2.1 hC.2.2.2.2.2.1 (hts _ h4) (hts _ h5) (hts _ h6) rfl hdg hc hsl hKn.2.1 hWD.1 fun H1 kC hkC e1 z1 o1 => ?_
  have z2 : H1.size = H.size + 1 := by rw [hWD.1]; exact z1
  have o2 : ∀ q : Nat, q < H.size → H1[q]? = H[q]? := fun q hq => o1 q (by rw [hWD.1] at hq; exact hq)
  exact k p l e s m args below meth c hC H1 locs d0 L hd0 hL (hWD.more rfl z2 o2 ⟨_, h1, (u_born ty hts h2 hKn hkC e1 h3).to h7⟩) ⟨Nat.le_trans hS.1 (by omega), fun q g1 g2 => (o2 q (Nat.lt_of_lt_of_le g1 hS.1)).trans (hS.2.1 q g1 g2), hS.2.2⟩ (by omega)
theorem pm_newa_int {n : Int32} {nn : Nat} (hd : pm_D M.2.2.1 pc (.newarray .int) 2 pc') (hn : ¬ n < 0) (hN : n.toNatClampNeg = nn) (hb : nn ≤ 60000) (hc : cn + 1 ≤ F.1.cells) (hsl : sn + nn ≤ F.1.slots) (k : pm_W g M F (cn + 1) (sn + nn) pc' ls (.ref (g.2.2.1 + N) :: st) (N + 1) (pm_up E N (.inl (g.2.1 0, nn, .inl (fun _ => 0))))) : pm_W g M F cn sn pc ls (.int n :: st) N E := by
  obtain ⟨hdg, rfl⟩ := hd
  intro p l e s m args below meth c hC H locs d0 L hd0 hL hWD hS hz
  have hts := dr_words hC.2.2.2.2.2.2.2.1 d0
  have hK : va_K g.1 vwCl (pm_tys g) (s.setDrawn d0) := va_K.moved (u := s) (U := s.setDrawn d0) (Vm.Alike.refl s.vm) hC.2.2.2.2.2.2.2.2.1
  refine va_newaK (s := s.setDrawn d0) (g := F0 m pc L (.int n :: st)) (rest := st) (atype := .int) hC.1 hC.2.1 (hts _ w1_65) rfl hdg rfl hn hN (by show nn * _ ≤ _; exact Nat.le_trans (Nat.mul_le_mul hb (Nat.le_refl _)) (by decide)) hc hsl hWD.1 fun H1 cA e1 z1 o1 hAr hNm => ?_
  have hcA : cA = g.2.1 0 := Option.some.inj (hNm.symm.trans ((hK.2 0 _ rfl).2))
  subst hcA
  have z2 : H1.size = H.size + 1 := by rw [hWD.1]; exact z1
  have o2 : ∀ q : Nat, q < H.size → H1[q]? = H[q]? := fun q hq => o1 q (by rw [hWD.1] at hq; exact hq)
  exact k p l e s m args below meth c hC H1 locs d0 L hd0 hL (hWD.more rfl z2 o2 e1) ⟨Nat.le_trans hS.1 (by omega), fun q g1 g2 => (o2 q (Nat.lt_of_lt_of_le g1 hS.1)).trans (hS.2.1 q g1 g2), hS.2.2⟩ (by omega)
theorem pm_newa_byte {n : Int32} {nn : Nat} (hd : pm_D M.2.2.1 pc (.newarray .byte) 2 pc') (hn : ¬ n < 0) (hN : n.toNatClampNeg = nn) (hb : nn ≤ 60000) (hc : cn + 1 ≤ F.1.cells) (hsl : sn + nn ≤ F.1.slots) (k : pm_W g M F (cn + 1) (sn + nn) pc' ls (.ref (g.2.2.1 + N) :: st) (N + 1) (pm_up E N (.inl (g.2.1 1, nn, .inl (fun _ => 0))))) : pm_W g M F cn sn pc ls (.int n :: st) N E := by
  obtain ⟨hdg, rfl⟩ := hd
  intro p l e s m args below meth c hC H locs d0 L hd0 hL hWD hS hz
  have hts := dr_words hC.2.2.2.2.2.2.2.1 d0
  have hK : va_K g.1 vwCl (pm_tys g) (s.setDrawn d0) := va_K.moved (u := s) (U := s.setDrawn d0) (Vm.Alike.refl s.vm) hC.2.2.2.2.2.2.2.2.1
  refine va_newaK (s := s.setDrawn d0) (g := F0 m pc L (.int n :: st)) (rest := st) (atype := .byte) hC.1 hC.2.1 (hts _ w1_64) rfl hdg rfl hn hN (by show nn * _ ≤ _; exact Nat.le_trans (Nat.mul_le_mul hb (Nat.le_refl _)) (by decide)) hc hsl hWD.1 fun H1 cA e1 z1 o1 hAr hNm => ?_
  have hcA : cA = g.2.1 1 := Option.some.inj (hNm.symm.trans ((hK.2 1 _ rfl).2))
  subst hcA
  have z2 : H1.size = H.size + 1 := by rw [hWD.1]; exact z1
  have o2 : ∀ q : Nat, q < H.size → H1[q]? = H[q]? := fun q hq => o1 q (by rw [hWD.1] at hq; exact hq)
  exact k p l e s m args below meth c hC H1 locs d0 L hd0 hL (hWD.more rfl z2 o2 e1) ⟨Nat.le_trans hS.1 (by omega), fun q g1 g2 => (o2 q (Nat.lt_of_lt_of_le g1 hS.1)).trans (hS.2.1 q g1 g2), hS.2.2⟩ (by omega)
theorem pm_newa_boolean {n : Int32} {nn : Nat} (hd : pm_D M.2.2.1 pc (.newarray .boolean) 2 pc') (hn : ¬ n < 0) (hN : n.toNatClampNeg = nn) (hb : nn ≤ 60000) (hc : cn + 1 ≤ F.1.cells) (hsl : sn + nn ≤ F.1.slots) (k : pm_W g M F (cn + 1) (sn + nn) pc' ls (.ref (g.2.2.1 + N) :: st) (N + 1) (pm_up E N (.inl (g.2.1 2, nn, .inl (fun _ => 0))))) : pm_W g M F cn sn pc ls (.int n :: st) N E := by
  obtain ⟨hdg, rfl⟩ := hd
  intro p l e s m args below meth c hC H locs d0 L hd0 hL hWD hS hz
  have hts := dr_words hC.2.2.2.2.2.2.2.1 d0
  have hK : va_K g.1 vwCl (pm_tys g) (s.setDrawn d0) := va_K.moved (u := s) (U := s.setDrawn d0) (Vm.Alike.refl s.vm) hC.2.2.2.2.2.2.2.2.1
  refine va_newaK (s := s.setDrawn d0) (g := F0 m pc L (.int n :: st)) (rest := st) (atype := .boolean) hC.1 hC.2.1 (hts _ w2_161) rfl hdg rfl hn hN (by show nn * _ ≤ _; exact Nat.le_trans (Nat.mul_le_mul hb (Nat.le_refl _)) (by decide)) hc hsl hWD.1 fun H1 cA e1 z1 o1 hAr hNm => ?_
  have hcA : cA = g.2.1 2 := Option.some.inj (hNm.symm.trans ((hK.2 2 _ rfl).2))
  subst hcA
  have z2 : H1.size = H.size + 1 := by rw [hWD.1]; exact z1
  have o2 : ∀ q : Nat, q < H.size → H1[q]? = H[q]? := fun q hq => o1 q (by rw [hWD.1] at hq; exact hq)
  exact k p l e s m args below meth c hC H1 locs d0 L hd0 hL (hWD.more rfl z2 o2 e1) ⟨Nat.le_trans hS.1 (by omega), fun q g1 g2 => (o2 q (Nat.lt_of_lt_of_le g1 hS.1)).trans (hS.2.1 q g1 g2), hS.2.2⟩ (by omega)
theorem pm_newa_long {n : Int32} {nn : Nat} (hd : pm_D M.2.2.1 pc (.newarray .long) 2 pc') (hn : ¬ n < 0) (hN : n.toNatClampNeg = nn) (hb : nn ≤ 60000) (hc : cn + 1 ≤ F.1.cells) (hsl : sn + nn ≤ F.1.slots) (k : pm_W g M F (cn + 1) (sn + nn) pc' ls (.ref (g.2.2.1 + N) :: st) (N + 1) (pm_up E N (.inl (g.2.1 3, nn, .inr (.inl (fun _ => 0)))))) : pm_W g M F cn sn pc ls (.int n :: st) N E := by
  obtain ⟨hdg, rfl⟩ := hd
  intro p l e s m args below meth c hC H locs d0 L hd0 hL hWD hS hz
  have hts := dr_words hC.2.2.2.2.2.2.2.1 d0
  have hK : va_K g.1 vwCl (pm_tys g) (s.setDrawn d0) := va_K.moved (u := s) (U := s.setDrawn d0) (Vm.Alike.refl s.vm) hC.2.2.2.2.2.2.2.2.1
  refine va_newaK (s := s.setDrawn d0) (g := F0 m pc L (.int n :: st)) (rest := st) (atype := .long) hC.1 hC.2.1 (hts _ w2_162) rfl hdg rfl hn hN (by show nn * _ ≤ _; exact Nat.le_trans (Nat.mul_le_mul hb (Nat.le_refl _)) (by decide)) hc hsl hWD.1 fun H1 cA e1 z1 o1 hAr hNm => ?_
  have hcA : cA = g.2.1 3 := Option.some.inj (hNm.symm.trans ((hK.2 3 _ rfl).2))
  subst hcA
  have z2 : H1.size = H.size + 1 := by rw [hWD.1]; exact z1
  have o2 : ∀ q : Nat, q < H.size → H1[q]? = H[q]? := fun q hq => o1 q (by rw [hWD.1] at hq; exact hq)
  exact k p l e s m args below meth c hC H1 locs d0 L hd0 hL (hWD.more rfl z2 o2 e1) ⟨Nat.le_trans hS.1 (by omega), fun q g1 g2 => (o2 q (Nat.lt_of_lt_of_le g1 hS.1)).trans (hS.2.1 q g1 g2), hS.2.2⟩ (by omega)
theorem pm_newa_double {n : Int32} {nn : Nat} (hd : pm_D M.2.2.1 pc (.newarray .double) 2 pc') (hn : ¬ n < 0) (hN : n.toNatClampNeg = nn) (hb : nn ≤ 60000) (hc : cn + 1 ≤ F.1.cells) (hsl : sn + nn ≤ F.1.slots) (k : pm_W g M F (cn + 1) (sn + nn) pc' ls (.ref (g.2.2.1 + N) :: st) (N + 1) (pm_up E N (.inl (g.2.1 4, nn, .inr (.inr (.inr (.inl (fun _ => 0)))))))) : pm_W g M F cn sn pc ls (.int n :: st) N E := by
  obtain ⟨hdg, rfl⟩ := hd
  intro p l e s m args below meth c hC H locs d0 L hd0 hL hWD hS hz
  have hts := dr_words hC.2.2.2.2.2.2.2.1 d0
  have hK : va_K g.1 vwCl (pm_tys g) (s.setDrawn d0) := va_K.moved (u := s) (U := s.setDrawn d0) (Vm.Alike.refl s.vm) hC.2.2.2.2.2.2.2.2.1
  refine va_newaK (s := s.setDrawn d0) (g := F0 m pc L (.int n :: st)) (rest := st) (atype := .double) hC.1 hC.2.1 (hts _ w2_63) rfl hdg rfl hn hN (by show nn * _ ≤ _; exact Nat.le_trans (Nat.mul_le_mul hb (Nat.le_refl _)) (by decide)) hc hsl hWD.1 fun H1 cA e1 z1 o1 hAr hNm => ?_
  have hcA : cA = g.2.1 4 := Option.some.inj (hNm.symm.trans ((hK.2 4 _ rfl).2))
  subst hcA
  have z2 : H1.size = H.size + 1 := by rw [hWD.1]; exact z1
  have o2 : ∀ q : Nat, q < H.size → H1[q]? = H[q]? := fun q hq => o1 q (by rw [hWD.1] at hq; exact hq)
  exact k p l e s m args below meth c hC H1 locs d0 L hd0 hL (hWD.more rfl z2 o2 e1) ⟨Nat.le_trans hS.1 (by omega), fun q g1 g2 => (o2 q (Nat.lt_of_lt_of_le g1 hS.1)).trans (hS.2.1 q g1 g2), hS.2.2⟩ (by omega)
theorem pm_newq5 {n : Int32} {nn : Nat} (hd : ∃ idx, decode M.2.2.1 pc = .ok (.anewarray idx, 3) ∧ Cond.classLink M.1 idx RX6 ∈ pm_T ∧ pc + 3 = pc') (hn : ¬ n < 0) (hN : n.toNatClampNeg = nn) (hb : nn ≤ 60000) (hc : cn + 1 ≤ F.1.cells) (hsl : sn + nn ≤ F.1.slots) (k : pm_W g M F (cn + 1) (sn + nn) pc' ls (.ref (g.2.2.1 + N) :: st) (N + 1) (pm_up E N (.inl (g.2.1 5, nn, .inr (.inr (.inr (.inr (fun _ => none)))))))) : pm_W g M F cn sn pc ls (.int n :: st) N E := by
  obtain ⟨idx, hdg, hl, rfl⟩ := hd
  intro p l e s m args below meth c hC H locs d0 L hd0 hL hWD hS hz
  have hts := dr_words hC.2.2.2.2.2.2.2.1 d0
  have hK : va_K g.1 vwCl (pm_tys g) (s.setDrawn d0) := va_K.moved (u := s) (U := s.setDrawn d0) (Vm.Alike.refl s.vm) hC.2.2.2.2.2.2.2.2.1
  subst hN
  refine W.anew (s := s.setDrawn d0) (g := F0 m pc L (.int n :: st)) (rest := st) hC.1 hC.2.1 hC.2.2.2.2.2.1 (hts _ hl) (va_AO.use (va_AO.moved (u := s) (U := s.setDrawn d0) (Vm.Alike.refl s.vm) hC.2.2.2.2.2.2.2.2.2.1.2.2.2.2.2.1)) rfl hdg rfl hn (by omega) hc hsl fun cA kA comp f1 f2 f3 f4 => ?_
  obtain ⟨kA', comp', g1, g2, g3, g4⟩ := (hK.2 5 _ rfl).2
  have hcA : cA = g.2.1 5 := Option.some.inj (f1.symm.trans g4)
  subst hcA
  generalize hH1 : H.push ({ cls := g.2.1 5, slots := Array.replicate n.toNatClampNeg .null, vm := .none } : Cell) = H1
  have z2 : H1.size = H.size + 1 := by rw [← hH1, Array.size_push]
  have e1 : H1[H.size]? = some (arrV (g.2.1 5) n.toNatClampNeg (fun _ => .null)) := by rw [← hH1, Array.getElem?_push_size, ← arrV_new]
  have o2 : ∀ q : Nat, q < H.size → H1[q]? = H[q]? := fun q hq => by rw [← hH1, Array.getElem?_push, if_neg (Nat.ne_of_lt hq)]
  rw [hWD.1] at e1
  rw [hWD.1]
  exact k p l e s m args below meth c hC H1 locs d0 L hd0 hL (hWD.more rfl z2 o2 e1) ⟨Nat.le_trans hS.1 (by omega), fun q g1 g2 => (o2 q (Nat.lt_of_lt_of_le g1 hS.1)).trans (hS.2.1 q g1 g2), hS.2.2⟩ (by omega)
theorem pm_qast5 (q qk : Nat) {n : Nat} {vs : List Value} {f : Nat → Option Nat} {i : Int32} (hd : pm_D M.2.2.1 pc .aastore 1 pc') (hq : q < N) (hqk : qk < N) (hE : E q = .inl (g.2.1 5, n, .inr (.inr (.inr (.inr f))))) (hEk : E qk = .inr (6, vs)) (hin : vp_in i n) (k : pm_W g M F cn sn pc' ls st N (pm_up E q (.inl (g.2.1 5, n, .inr (.inr (.inr (.inr (va_up f i.toNatClampNeg (some (g.2.2.1 + qk)))))))))) : pm_W g M F cn sn pc ls (.ref (g.2.2.1 + qk) :: .int i :: .ref (g.2.2.1 + q) :: st) N E := by
  obtain ⟨hdg, rfl⟩ := hd
  intro p l e s m args below meth c hC H locs d0 L hd0 hL hWD hS hz
  exact va_astq (r := (RX6, TX6, 14)) hC.1 hC.2.1 (va_K.moved (u := s) (U := s.setDrawn d0) (Vm.Alike.refl s.vm) hC.2.2.2.2.2.2.2.2.1) hWD.2 (pm_DD g N E) (pm_self hS) q 5 qk 6 (by rw [pm_wl_get hq, hE]) rfl (by rw [pm_wl_get hqk, hEk]) rfl hin hdg (fun H1 locs1 hP1 _ hS1 => pm_wr hS1 hS hz (fun z hS2 => k p l e s m args below meth c hC H1 locs1 d0 L hd0 hL ⟨z.trans hWD.1, by rw [← pm_wl_set hq]; exact hP1⟩ hS2 (z.trans hz)))
theorem pm_newq6 {n : Int32} {nn : Nat} (hd : ∃ idx, decode M.2.2.1 pc = .ok (.anewarray idx, 3) ∧ Cond.classLink M.1 idx RX7 ∈ pm_T ∧ pc + 3 = pc') (hn : ¬ n < 0) (hN : n.toNatClampNeg = nn) (hb : nn ≤ 60000) (hc : cn + 1 ≤ F.1.cells) (hsl : sn + nn ≤ F.1.slots) (k : pm_W g M F (cn + 1) (sn + nn) pc' ls (.ref (g.2.2.1 + N) :: st) (N + 1) (pm_up E N (.inl (g.2.1 6, nn, .inr (.inr (.inr (.inr (fun _ => none)))))))) : pm_W g M F cn sn pc ls (.int n :: st) N E := by
  obtain ⟨idx, hdg, hl, rfl⟩ := hd
  intro p l e s m args below meth c hC H locs d0 L hd0 hL hWD hS hz
  have hts := dr_words hC.2.2.2.2.2.2.2.1 d0
  have hK : va_K g.1 vwCl (pm_tys g) (s.setDrawn d0) := va_K.moved (u := s) (U := s.setDrawn d0) (Vm.Alike.refl s.vm) hC.2.2.2.2.2.2.2.2.1
  subst hN
  refine W.anew (s := s.setDrawn d0) (g := F0 m pc L (.int n :: st)) (rest := st) hC.1 hC.2.1 hC.2.2.2.2.2.1 (hts _ hl) (va_AO.use (va_AO.moved (u := s) (U := s.setDrawn d0) (Vm.Alike.refl s.vm) hC.2.2.2.2.2.2.2.2.2.1.2.2.2.2.2.2.1)) rfl hdg rfl hn (by omega) hc hsl fun cA kA comp f1 f2 f3 f4 => ?_
  obtain ⟨kA', comp', g1, g2, g3, g4⟩ := (hK.2 6 _ rfl).2
  have hcA : cA = g.2.1 6 := Option.some.inj (f1.symm.trans g4)
  subst hcA
  generalize hH1 : H.push ({ cls := g.2.1 6, slots := Array.replicate n.toNatClampNeg .null, vm := .none } : Cell) = H1
  have z2 : H1.size = H.size + 1 := by rw [← hH1, Array.size_push]
  have e1 : H1[H.size]? = some (arrV (g.2.1 6) n.toNatClampNeg (fun _ => .null)) := by rw [← hH1, Array.getElem?_push_size, ← arrV_new]
  have o2 : ∀ q : Nat, q < H.size → H1[q]? = H[q]? := fun q hq => by rw [← hH1, Array.getElem?_push, if_neg (Nat.ne_of_lt hq)]
  rw [hWD.1] at e1
  rw [hWD.1]
  exact k p l e s m args below meth c hC H1 locs d0 L hd0 hL (hWD.more rfl z2 o2 e1) ⟨Nat.le_trans hS.1 (by omega), fun q g1 g2 => (o2 q (Nat.lt_of_lt_of_le g1 hS.1)).trans (hS.2.1 q g1 g2), hS.2.2⟩ (by omega)
theorem pm_qast6 (q qk : Nat) {n : Nat} {vs : List Value} {f : Nat → Option Nat} {i : Int32} (hd : pm_D M.2.2.1 pc .aastore 1 pc') (hq : q < N) (hqk : qk < N) (hE : E q = .inl (g.2.1 6, n, .inr (.inr (.inr (.inr f))))) (hEk : E qk = .inr (7, vs)) (hin : vp_in i n) (k : pm_W g M F cn sn pc' ls st N (pm_up E q (.inl (g.2.1 6, n, .inr (.inr (.inr (.inr (va_up f i.toNatClampNeg (some (g.2.2.1 + qk)))))))))) : pm_W g M F cn sn pc ls (.ref (g.2.2.1 + qk) :: .int i :: .ref (g.2.2.1 + q) :: st) N E := by
  obtain ⟨hdg, rfl⟩ := hd
  intro p l e s m args below meth c hC H locs d0 L hd0 hL hWD hS hz
  exact va_astq (r := (RX7, TX7, 4)) hC.1 hC.2.1 (va_K.moved (u := s) (U := s.setDrawn d0) (Vm.Alike.refl s.vm) hC.2.2.2.2.2.2.2.2.1) hWD.2 (pm_DD g N E) (pm_self hS) q 6 qk 7 (by rw [pm_wl_get hq, hE]) rfl (by rw [pm_wl_get hqk, hEk]) rfl hin hdg (fun H1 locs1 hP1 _ hS1 => pm_wr hS1 hS hz (fun z hS2 => k p l e s m args below meth c hC H1 locs1 d0 L hd0 hL ⟨z.trans hWD.1, by rw [← pm_wl_set hq]; exact hP1⟩ hS2 (z.trans hz)))
theorem pm_newq7 {n : Int32} {nn : Nat} (hd : ∃ idx, decode M.2.2.1 pc = .ok (.anewarray idx, 3) ∧ Cond.classLink M.1 idx RX2 ∈ pm_T ∧ pc + 3 = pc') (hn : ¬ n < 0) (hN : n.toNatClampNeg = nn) (hb : nn ≤ 60000) (hc : cn + 1 ≤ F.1.cells) (hsl : sn + nn ≤ F.1.slots) (k : pm_W g M F (cn + 1) (sn + nn) pc' ls (.ref (g.2.2.1 + N) :: st) (N + 1) (pm_up E N (.inl (g.2.1 7, nn, .inr (.inr (.inr (.inr (fun _ => none)))))))) : pm_W g M F cn sn pc ls (.int n :: st) N E := by
  obtain ⟨idx, hdg, hl, rfl⟩ := hd
  intro p l e s m args below meth c hC H locs d0 L hd0 hL hWD hS hz
  have hts := dr_words hC.2.2.2.2.2.2.2.1 d0
  have hK : va_K g.1 vwCl (pm_tys g) (s.setDrawn d0) := va_K.moved (u := s) (U := s.setDrawn d0) (Vm.Alike.refl s.vm) hC.2.2.2.2.2.2.2.2.1
  subst hN
  refine W.anew (s := s.setDrawn d0) (g := F0 m pc L (.int n :: st)) (rest := st) hC.1 hC.2.1 hC.2.2.2.2.2.1 (hts _ hl) (va_AO.use (va_AO.moved (u := s) (U := s.setDrawn d0) (Vm.Alike.refl s.vm) hC.2.2.2.2.2.2.2.2.2.1.2.2.2.2.2.2.2)) rfl hdg rfl hn (by omega) hc hsl fun cA kA comp f1 f2 f3 f4 => ?_
  obtain ⟨kA', comp', g1, g2, g3, g4⟩ := (hK.2 7 _ rfl).2
  have hcA : cA = g.2.1 7 := Option.some.inj (f1.symm.trans g4)
  subst hcA
  generalize hH1 : H.push ({ cls := g.2.1 7, slots := Array.replicate n.toNatClampNeg .null, vm := .none } : Cell) = H1
  have z2 : H1.size = H.size + 1 := by rw [← hH1, Array.size_push]
  have e1 : H1[H.size]? = some (arrV (g.2.1 7) n.toNatClampNeg (fun _ => .null)) := by rw [← hH1, Array.getElem?_push_size, ← arrV_new]
  have o2 : ∀ q : Nat, q < H.size → H1[q]? = H[q]? := fun q hq => by rw [← hH1, Array.getElem?_push, if_neg (Nat.ne_of_lt hq)]
  rw [hWD.1] at e1
  rw [hWD.1]
  exact k p l e s m args below meth c hC H1 locs d0 L hd0 hL (hWD.more rfl z2 o2 e1) ⟨Nat.le_trans hS.1 (by omega), fun q g1 g2 => (o2 q (Nat.lt_of_lt_of_le g1 hS.1)).trans (hS.2.1 q g1 g2), hS.2.2⟩ (by omega)
theorem pm_qast7 (q qk : Nat) {n : Nat} {vs : List Value} {f : Nat → Option Nat} {i : Int32} (hd : pm_D M.2.2.1 pc .aastore 1 pc') (hq : q < N) (hqk : qk < N) (hE : E q = .inl (g.2.1 7, n, .inr (.inr (.inr (.inr f))))) (hEk : E qk = .inr (2, vs)) (hin : vp_in i n) (k : pm_W g M F cn sn pc' ls st N (pm_up E q (.inl (g.2.1 7, n, .inr (.inr (.inr (.inr (va_up f i.toNatClampNeg (some (g.2.2.1 + qk)))))))))) : pm_W g M F cn sn pc ls (.ref (g.2.2.1 + qk) :: .int i :: .ref (g.2.2.1 + q) :: st) N E := by
  obtain ⟨hdg, rfl⟩ := hd
  intro p l e s m args below meth c hC H locs d0 L hd0 hL hWD hS hz
  exact va_astq (r := (RX2, TX2, 18)) hC.1 hC.2.1 (va_K.moved (u := s) (U := s.setDrawn d0) (Vm.Alike.refl s.vm) hC.2.2.2.2.2.2.2.2.1) hWD.2 (pm_DD g N E) (pm_self hS) q 7 qk 2 (by rw [pm_wl_get hq, hE]) rfl (by rw [pm_wl_get hqk, hEk]) rfl hin hdg (fun H1 locs1 hP1 _ hS1 => pm_wr hS1 hS hz (fun z hS2 => k p l e s m args below meth c hC H1 locs1 d0 L hd0 hL ⟨z.trans hWD.1, by rw [← pm_wl_set hq]; exact hP1⟩ hS2 (z.trans hz)))
end PMX
