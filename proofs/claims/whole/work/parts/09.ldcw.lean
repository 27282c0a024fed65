/-! ldc_w of a String constant -/
theorem pm_wpS {Q : Unit → Pre} {E : CtlPost} {e : Env} {d : Bool} {acts : List Action} {s : State} {f : JFrame} {index i a : Nat} {k : Class} {cf} (hs : s.topJava?.isSome) (hk : s.vm.classes[f.method.cls]? = some k) (hcf : k.cf = some cf) (hc : cf.constantPool[index]? = some (.string i)) (hr : k.resolved[index]? = some (some (.string a))) :
    wp (ldc_w.sem index) Q E e d acts (s.setTop f) ↔ Q () true acts (s.setTop { f with stack := .ref a :: f.stack }) := ldc.wp_string hs hk hcf hc hr
section PMS
variable {p : Program} {l : Launch} {e : Env} {R : Room} {s : State} {m : MethodId} {args : Array Value} {below : List Frame} {meth : Method} {c : Code} {T : State} {locs : List Loc} {cells slots : Nat}
theorem pm_ldcwX (X : Stand p l e R s m args below meth c T locs cells slots) (hexec : p.tables.exec = Jvm.exec) {own text : String} {index : Nat} {a : Addr} (hown : s.vm.findClass own = some m.cls)
    (hconst : (Cond.stringRef own index text).before args s = true) (hev : (Term.string own index).eval args s none [] s = some (.ref a)) {g : JFrame} (hg : g.method = m) (hdg : decode c.code g.pc = .ok (.ldc_w index, 3)) :
    ∀ target, Steps p.tables e below (T.setTop { g with pc := g.pc + 3, stack := .ref a :: g.stack }) target → Steps p.tables e below (T.setTop g) target := by
  obtain ⟨k, cf, i, a', hk, hcf, hcp, -, hr, hev'⟩ := Cond.stringRef_spec hown hconst
  cases hev.symm.trans hev'
  obtain ⟨k', hk', he⟩ := X.warmed.alike.2.2 _ _ hk
  have hr' : k'.resolved[index]? = some (some (.string a)) := by
    rcases X.warmed.entry hk hk' index with h | ⟨h, -⟩
    · rw [h]; exact hr
    · rw [hr] at h; cases h
  intro target hrest
  subst hg
  jvm_step X.here [hexec, hdg, pm_wpS (e := e) (s := T) (f := g) X.here.top hk' (by rw [he]; exact hcf) hcp hr']
  exact hrest
variable {H : Heap} {Q : State → Prop} {cc : ByteArray} {pc : Nat} {ls : Array Slot} {rest : List Value}
theorem pm_ldcwS (hexec : p.tables.exec = Jvm.exec) (hb : c.code = cc) {own tx : String} {index q : Nat} (hown : s.vm.findClass own = some m.cls) (hZ : vk_R own index tx q s) (hdg : decode cc pc = .ok (.ldc_w index, 3))
    (k : W p l e R s m args below meth c H locs cells slots Q (F0 m (pc + 3) ls (.ref q :: rest))) : W p l e R s m args below meth c H locs cells slots Q (F0 m pc ls rest) := by
  intro T hT X
  obtain ⟨t, a1, b1⟩ := k T hT X
  exact ⟨t, pm_ldcwX X hexec hown (text := tx) (a := q) hZ.1 hZ.2 (g := F0 m pc ls rest) rfl (by rw [hb]; exact hdg) t a1, b1⟩
end PMS
def pm_KSW (M : pm_M) (pc i pc' : Nat) : Prop := ∃ (k : Nat) (tx : String), decode M.2.2.1 pc = .ok (.ldc_w k, 3) ∧ (M.1, k, tx, i) ∈ pm_str ∧ pc + 3 = pc'
theorem pm_ksw {g : pm_G} {M : pm_M} {F : pm_F} {cn sn pc pc' : Nat} {ls : List (Option Value)} {st : List Value} {N : Nat} {E : pm_E} {i : Nat} (hd : pm_KSW M pc i pc') (k : pm_W g M F cn sn pc' ls (.ref (g.2.2.2.1 i) :: st) N E) : pm_W g M F cn sn pc ls st N E := by
  intro p l e s m args below meth c hC H locs d0 L hd0 hL hWD hS hz
  obtain ⟨q, tx, hdg, hm, rfl⟩ := hd
  exact pm_ldcwS hC.1 hC.2.1 hC.2.2.2.2.2.1 (vk_R.same (u := s) rfl (hC.2.2.2.2.2.2.2.2.2.1.2.1 _ hm)) hdg (k p l e s m args below meth c hC H locs d0 L hd0 hL hWD hS hz)
