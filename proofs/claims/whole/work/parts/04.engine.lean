/-- the String constants: class, entry, text, number -/
def pm_str : List (String × Nat × String × Nat) := [("WriterPace$Reader", 256, ";:+-*()[]=<>", 0), ("WriterPace$Reader", 72, "host", 1), ("WriterPace$Reader", 78, "limit", 2), ("WriterPace$Reader", 86, "background", 3), ("WriterPace$Reader", 90, "age", 4), ("WriterPace$Reader", 94, "pause", 5), ("WriterPace$Reader", 99, "window", 6), ("WriterPace$Reader", 103, "chunk", 7), ("WriterPace$Reader", 107, "queue", 8), ("WriterPace$Reader", 118, "device", 9), ("WriterPace$Reader", 142, "speed", 10), ("WriterPace$Reader", 126, "file", 11), ("WriterPace$Reader", 158, "on", 12), ("WriterPace$Reader", 131, "writer", 13), ("WriterPace$Reader", 166, "to", 14), ("WriterPace$Reader", 136, "wants", 15), ("WriterPace$Reader", 201, "if", 16), ("WriterPace$Reader", 233, "not", 17), ("WriterPace$Reader", 231, "and", 18), ("WriterPace$Reader", 226, "or", 19), ("WriterPace$Reader", 217, "then", 20), ("WriterPace$Reader", 219, "else", 21), ("WriterPace$Reader", 221, "end", 22), ("WriterPace$Reader", 210, "time", 23), ("WriterPace$Reader", 212, "told", 24), ("WriterPaceModel", 81, " host limit background age pause window chunk queue device speed file on writer to wants if then else end time told and or not ", 25), ("WriterPaceModel", 119, ";:+-*()[]=<>", 0)]
def pm_len : List Nat := [12, 4, 5, 10, 3, 5, 6, 5, 5, 6, 5, 4, 2, 6, 2, 5, 2, 3, 3, 2, 4, 4, 3, 4, 4, 127]
def pm_byt : List (List Int32) := [[59, 58, 43, 45, 42, 40, 41, 91, 93, 61, 60, 62], [104, 111, 115, 116], [108, 105, 109, 105, 116], [98, 97, 99, 107, 103, 114, 111, 117, 110, 100], [97, 103, 101], [112, 97, 117, 115, 101], [119, 105, 110, 100, 111, 119], [99, 104, 117, 110, 107], [113, 117, 101, 117, 101], [100, 101, 118, 105, 99, 101], [115, 112, 101, 101, 100], [102, 105, 108, 101], [111, 110], [119, 114, 105, 116, 101, 114], [116, 111], [119, 97, 110, 116, 115], [105, 102], [110, 111, 116], [97, 110, 100], [111, 114], [116, 104, 101, 110], [101, 108, 115, 101], [101, 110, 100], [116, 105, 109, 101], [116, 111, 108, 100], [32, 104, 111, 115, 116, 32, 108, 105, 109, 105, 116, 32, 98, 97, 99, 107, 103, 114, 111, 117, 110, 100, 32, 97, 103, 101, 32, 112, 97, 117, 115, 101, 32, 119, 105, 110, 100, 111, 119, 32, 99, 104, 117, 110, 107, 32, 113, 117, 101, 117, 101, 32, 100, 101, 118, 105, 99, 101, 32, 115, 112, 101, 101, 100, 32, 102, 105, 108, 101, 32, 111, 110, 32, 119, 114, 105, 116, 101, 114, 32, 116, 111, 32, 119, 97, 110, 116, 115, 32, 105, 102, 32, 116, 104, 101, 110, 32, 101, 108, 115, 101, 32, 101, 110, 100, 32, 116, 105, 109, 101, 32, 116, 111, 108, 100, 32, 97, 110, 100, 32, 111, 114, 32, 110, 111, 116, 32]]

/-- the fixed surroundings: class ids and field slots; array classes; the address of cell 0; where String constants and their bytes lie -/
abbrev pm_G : Type := va_G × (Nat → ClassId) × Nat × (Nat → Nat) × (Nat → Nat)
abbrev pm_E : Type := Nat → va_E
/-- how a walk ends: its room, what holds at its end, what more is known of its start -/
abbrev pm_F : Type := Room × (List Frame → Array Value → State → State → Prop) × (State → Prop)
def pm_A (g : pm_G) : Nat → Prop := fun q => g.2.2.1 ≤ q
def pm_tys (g : pm_G) : List (ClassId × FieldType) := [(g.2.1 0, .int), (g.2.1 1, .byte), (g.2.1 2, .boolean), (g.2.1 3, .long), (g.2.1 4, .double), (g.2.1 5, .object RX6), (g.2.1 6, .object RX7), (g.2.1 7, .object RX2)]
def pm_wl (b N : Nat) (E : pm_E) : va_W := (List.range N).map (fun k => (b + k, E k))
def pm_up (E : pm_E) (k : Nat) (e : va_E) : pm_E := fun j => if j = k then e else E j
theorem pm_wl_get {b N : Nat} {E : pm_E} {k : Nat} (h : k < N) : (pm_wl b N E)[k]? = some (b + k, E k) := by
  unfold pm_wl
  rw [List.getElem?_map, List.getElem?_range h]
  rfl
theorem pm_wl_none {b N : Nat} {E : pm_E} {k : Nat} (h : N ≤ k) : (pm_wl b N E)[k]? = none := by
  unfold pm_wl
  rw [List.getElem?_map, List.getElem?_eq_none (by rw [List.length_range]; exact h)]
  rfl
theorem pm_wl_inv {b N : Nat} {E : pm_E} {k : Nat} {x : Nat × va_E} (h : (pm_wl b N E)[k]? = some x) : k < N ∧ x = (b + k, E k) := by
  by_cases hk : k < N
  · rw [pm_wl_get hk] at h
    exact ⟨hk, (Option.some.inj h).symm⟩
  · rw [pm_wl_none (Nat.le_of_not_lt hk)] at h
    cases h
theorem pm_wl_set {b N : Nat} {E : pm_E} {k : Nat} {e : va_E} (h : k < N) : (pm_wl b N E).set k (b + k, e) = pm_wl b N (pm_up E k e) := by
  apply List.ext_getElem?
  intro j
  by_cases hj : j = k
  · subst hj
    rw [List.getElem?_set_self (by unfold pm_wl; rw [List.length_map, List.length_range]; exact h), pm_wl_get h]
    simp [pm_up]
  · rw [List.getElem?_set_ne (Ne.symm hj)]
    by_cases hN : j < N
    · rw [pm_wl_get hN, pm_wl_get hN]
      simp [pm_up, hj]
    · rw [pm_wl_none (Nat.le_of_not_lt hN), pm_wl_none (Nat.le_of_not_lt hN)]
/-- the heap holds the N cells -/
def pm_WD (g : pm_G) (N : Nat) (E : pm_E) (H : Heap) : Prop := H.size = g.2.2.1 + N ∧ va_P g.1 vwCl (pm_wl g.2.2.1 N E) H
theorem pm_DD (g : pm_G) (N : Nat) (E : pm_E) : va_D (pm_A g) (pm_wl g.2.2.1 N E) := by
  refine ⟨fun i j x y hi hj e => ?_, fun k x hk => ?_⟩
  · obtain ⟨-, rfl⟩ := pm_wl_inv hi
    obtain ⟨-, rfl⟩ := pm_wl_inv hj
    exact Nat.add_left_cancel e
  · obtain ⟨-, rfl⟩ := pm_wl_inv hk
    exact Nat.le_add_right _ _
/-- links to private constructors, array classes of objects -/
def pm_nest : List (String × Nat × MethodName × String) := [("WriterPace", 19, yX2_init, "WriterPace"), ("WriterPace$Host", 66, yX3_init, "WriterPace"), ("WriterPace", 47, yX6_init, "WriterPace"), ("WriterPace$State", 11, yX1_init, "WriterPace"), ("WriterPace", 88, yX7_init, "WriterPace")]
/-- what lies outside the cells, and is never written -/
def pm_X (g : pm_G) (U : State) (H : Heap) : Prop :=
  vk_S 26 pm_len pm_byt g.2.2.2.1 g.2.2.2.2 (pm_A g) U H ∧ (∀ q ∈ pm_str, vk_R q.1 q.2.1 q.2.2.1 (g.2.2.2.1 q.2.2.2) U) ∧
  va_Z "java/lang/String" "COMPACT_STRINGS" "Z" (.int 1) (pm_A g) U H ∧ va_Zq "jdk/internal/util/Preconditions" "SIOOBE_FORMATTER" "Ljava/util/function/BiFunction;" (pm_A g) U H ∧
  (∀ q ∈ pm_nest, va_Nw (.methodLinkNest q.1 q.2.1 q.2.2.1 q.2.2.2) U) ∧ va_AO RX6 U ∧ va_AO RX7 U ∧ va_AO RX2 U
theorem pm_X.next {g : pm_G} {s U : State} (h : pm_X g s s.heap) (hW : s.WarmedH U.vm) (hk : ∀ a : Nat, a < s.heap.size → ¬ pm_A g a → U.heap[a]? = s.heap[a]?) : pm_X g U U.heap := by
  obtain ⟨h1, h2, h3, h4, h5, h6, h7, h8⟩ := h
  exact ⟨(vk_S.moved hW.alike h1).kept hk, fun q hq => vk_R.warm hW (h2 q hq), (va_Z.moved hW.alike h3).kept hk, (va_Zq.moved hW.alike h4).kept hk, fun q hq => va_Nw.warmM hW (h5 q hq), va_AO.moved hW.alike h6, va_AO.moved hW.alike h7, va_AO.moved hW.alike h8⟩
theorem pm_X.same {g : pm_G} {u U : State} {H : Heap} (hv : u.vm = U.vm) (h : pm_X g u H) : pm_X g U H := by
  obtain ⟨h1, h2, h3, h4, h5, h6, h7, h8⟩ := h
  have hA : u.vm.Alike U.vm := by rw [hv]; exact Vm.Alike.refl _
  exact ⟨vk_S.moved hA h1, fun q hq => vk_R.same hv.symm (h2 q hq), va_Z.moved hA h3, va_Zq.moved hA h4, fun q hq => va_Nw.same rfl hv (h5 q hq), va_AO.moved hA h6, va_AO.moved hA h7, va_AO.moved hA h8⟩
/-- what a walk of method M stands on -/
def pm_CX (g : pm_G) (M : pm_M) (X : State → Prop) (p : Program) (s : State) (m : MethodId) (args : Array Value) (meth : Method) (c : Code) : Prop :=
  p.tables.exec = Jvm.exec ∧ c.code = M.2.2.1 ∧ c.maxLocals = M.2.2.2.1 ∧ meth.sig.returnType = M.2.2.2.2 ∧ meth.locks = false ∧ s.vm.findClass M.1 = some m.cls ∧ (M.2.1.name = "<init>" → meth.name = M.2.1.name) ∧ (∀ w ∈ pm_T, w.before args s = true) ∧ va_K g.1 vwCl (pm_tys g) s ∧ pm_X g s s.heap ∧ g.2.2.1 ≤ s.heap.size ∧ X s
/-- locals, place by place -/
def pm_at : List (Option Value) → Nat → Option Value
  | [], _ => none
  | a :: _, 0 => a
  | _ :: t, n + 1 => pm_at t n
def pm_set : List (Option Value) → Nat → Value → List (Option Value)
  | [], _, _ => []
  | _ :: t, 0, v => some v :: t
  | a :: t, n + 1, v => a :: pm_set t n v
def pm_set2 : List (Option Value) → Nat → Value → List (Option Value)
  | [], _, _ => []
  | [_], 0, v => [some v]
  | _ :: _ :: t, 0, v => some v :: none :: t
  | a :: t, n + 1, v => a :: pm_set2 t n v
/-- no long or double stands there -/
def pm_nw : Option Value → Bool
  | some (.long _) => false
  | some (.double _) => false
  | _ => true
def pm_ok : List (Option Value) → Nat → Bool
  | _, 0 => true
  | ls, n + 1 => pm_nw (pm_at ls n)
def pm_lh (L : Array Slot) (n : Nat) (ls : List (Option Value)) : Prop := L.size = n ∧ lv_wf L ∧ ∀ (i : Nat) (v : Value), pm_at ls i = some v → L[i]? = some (.val v)
theorem pm_nw_cat {v : Value} (h : pm_nw (some v) = true) : ¬ v.category = 2 := by
  cases v <;> simp [pm_nw, Value.category] at *
theorem pm_at_set : ∀ (ls : List (Option Value)) (i j : Nat) (v w : Value), pm_at (pm_set ls i v) j = some w → (j = i ∧ w = v) ∨ (j ≠ i ∧ pm_at ls j = some w)
  | [], _, _, _, _, h => by simp [pm_set, pm_at] at h
  | _ :: t, 0, 0, v, w, h => by simp [pm_set, pm_at] at h; exact Or.inl ⟨rfl, h.symm⟩
  | _ :: t, 0, j + 1, v, w, h => Or.inr ⟨by omega, by simpa [pm_set, pm_at] using h⟩
  | a :: t, i + 1, 0, v, w, h => Or.inr ⟨by omega, by simpa [pm_set, pm_at] using h⟩
  | a :: t, i + 1, j + 1, v, w, h => by
    have h1 : pm_at (pm_set t i v) j = some w := by simpa [pm_set, pm_at] using h
    rcases pm_at_set t i j v w h1 with ⟨q1, q2⟩ | ⟨q1, q2⟩
    · exact Or.inl ⟨by omega, q2⟩
    · exact Or.inr ⟨by omega, by simpa [pm_at] using q2⟩
theorem pm_at_set2 : ∀ (ls : List (Option Value)) (i j : Nat) (v w : Value), pm_at (pm_set2 ls i v) j = some w → (j = i ∧ w = v) ∨ (j ≠ i ∧ j ≠ i + 1 ∧ pm_at ls j = some w)
  | [], _, _, _, _, h => by simp [pm_set2, pm_at] at h
  | [a], 0, 0, v, w, h => by simp [pm_set2, pm_at] at h; exact Or.inl ⟨rfl, h.symm⟩
  | [a], 0, j + 1, v, w, h => by simp [pm_set2, pm_at] at h
  | _ :: _ :: t, 0, 0, v, w, h => by simp [pm_set2, pm_at] at h; exact Or.inl ⟨rfl, h.symm⟩
  | _ :: _ :: t, 0, 1, v, w, h => by simp [pm_set2, pm_at] at h
  | _ :: _ :: t, 0, j + 2, v, w, h => Or.inr ⟨by omega, by omega, by simpa [pm_set2, pm_at] using h⟩
  | [a], i + 1, 0, v, w, h => Or.inr ⟨by omega, by omega, by simpa [pm_set2, pm_at] using h⟩
  | [a], i + 1, j + 1, v, w, h => by simp [pm_set2, pm_at] at h
  | a :: b :: t, i + 1, 0, v, w, h => Or.inr ⟨by omega, by omega, by simpa [pm_set2, pm_at] using h⟩
  | a :: b :: t, i + 1, j + 1, v, w, h => by
    have h1 : pm_at (pm_set2 (b :: t) i v) j = some w := by simpa [pm_set2, pm_at] using h
    rcases pm_at_set2 (b :: t) i j v w h1 with ⟨q1, q2⟩ | ⟨q1, q2, q3⟩
    · exact Or.inl ⟨by omega, q2⟩
    · exact Or.inr ⟨by omega, by omega, by simpa [pm_at] using q3⟩
def pm_prs (n : Nat) (ls : List (Option Value)) : List (Nat × Value) := (List.range n).filterMap (fun i => (pm_at ls i).map (fun v => (i, v)))
theorem pm_prs_in {n : Nat} {ls : List (Option Value)} {q : Nat × Value} : q ∈ pm_prs n ls ↔ q.1 < n ∧ pm_at ls q.1 = some q.2 := by
  unfold pm_prs
  rw [List.mem_filterMap]
  constructor
  · rintro ⟨i, h1, h2⟩
    rw [List.mem_range] at h1
    cases h : pm_at ls i with
    | none => rw [h] at h2; cases h2
    | some v =>
      rw [h] at h2
      cases h2
      exact ⟨h1, h⟩
  · rintro ⟨h1, h2⟩
    exact ⟨q.1, List.mem_range.mpr h1, by rw [h2]; rfl⟩
theorem pm_lh.has {L : Array Slot} {n : Nat} {ls : List (Option Value)} (h : pm_lh L n ls) : lv_has L n (pm_prs n ls) := ⟨h.1, h.2.1, fun q hq => h.2.2 q.1 q.2 (pm_prs_in.mp hq).2⟩
theorem pm_lh.lt {L : Array Slot} {n : Nat} {ls : List (Option Value)} (h : pm_lh L n ls) {i : Nat} {v : Value} (hi : pm_at ls i = some v) : i < n := by
  have := (Array.getElem?_eq_some_iff.mp (h.2.2 i v hi)).1
  rw [h.1] at this
  exact this
theorem pm_lh.set1 {L' : Array Slot} {L : Array Slot} {n i : Nat} {ls : List (Option Value)} {v : Value} (h : pm_lh L n ls) (hok : pm_ok ls i = true) (h' : lv_has L' n ((i, v) :: (pm_prs n ls).filter (fun q => !(q.1 == i) && !(q.1 + 1 == i && q.2.category == 2)))) : pm_lh L' n (pm_set ls i v) := by
  refine ⟨h'.1, h'.2.1, fun j w hj => ?_⟩
  rcases pm_at_set ls i j v w hj with ⟨rfl, rfl⟩ | ⟨h1, h2⟩
  · exact h'.2.2 (j, w) List.mem_cons_self
  · refine h'.2.2 (j, w) (List.mem_cons_of_mem _ (List.mem_filter.mpr ⟨pm_prs_in.mpr ⟨h.lt h2, h2⟩, ?_⟩))
    simp only [Bool.and_eq_true, Bool.not_eq_true', beq_eq_false_iff_ne, ne_eq, Bool.and_eq_false_iff]
    refine ⟨h1, ?_⟩
    by_cases q : j + 1 = i
    · subst q
      right
      have h3 : pm_nw (pm_at ls j) = true := hok
      rw [h2] at h3
      exact pm_nw_cat h3
    · left
      exact q
theorem pm_lh.set2 {L' : Array Slot} {L : Array Slot} {n i : Nat} {ls : List (Option Value)} {v : Value} (h : pm_lh L n ls) (hok : pm_ok ls i = true) (h' : lv_has L' n ((i, v) :: (pm_prs n ls).filter (fun q => !(q.1 == i) && (!(q.1 == i + 1) && !(q.1 + 1 == i && q.2.category == 2))))) : pm_lh L' n (pm_set2 ls i v) := by
  refine ⟨h'.1, h'.2.1, fun j w hj => ?_⟩
  rcases pm_at_set2 ls i j v w hj with ⟨rfl, rfl⟩ | ⟨h1, h4, h2⟩
  · exact h'.2.2 (j, w) List.mem_cons_self
  · refine h'.2.2 (j, w) (List.mem_cons_of_mem _ (List.mem_filter.mpr ⟨pm_prs_in.mpr ⟨h.lt h2, h2⟩, ?_⟩))
    simp only [Bool.and_eq_true, Bool.not_eq_true', beq_eq_false_iff_ne, ne_eq, Bool.and_eq_false_iff]
    refine ⟨h1, h4, ?_⟩
    by_cases q : j + 1 = i
    · subst q
      right
      have h3 : pm_nw (pm_at ls j) = true := hok
      rw [h2] at h3
      exact pm_nw_cat h3
    · left
      exact q
/-- THE JUDGEMENT: from pc, with these locals, stack and cells, the walk of M comes to an end as F says -/
def pm_W (g : pm_G) (M : pm_M) (F : pm_F) (cn sn pc : Nat) (ls : List (Option Value)) (st : List Value) (N : Nat) (E : pm_E) : Prop :=
  ∀ (p : Program) (l : Launch) (e : Env) (s : State) (m : MethodId) (args : Array Value) (below : List Frame) (meth : Method) (c : Code), pm_CX g M F.2.2 p s m args meth c →
  ∀ (H : Heap) (locs : List Loc) (d0 : Drawn) (L : Array Slot), s.drawn.sameBut d0 lw_cs → pm_lh L M.2.2.2.1 ls → pm_WD g N E H → va_S (pm_A g) s.heap H locs → H.size = s.heap.size + cn →
  W p l e F.1 (s.setDrawn d0) m args below meth c H locs cn sn (F.2.1 below args s) (F0 m pc L st)
/-- behind a row that writes: sizes and frame out of the heap's own book -/
theorem pm_wr {p : Program} {l : Launch} {e : Env} {R : Room} {s : State} {m : MethodId} {args : Array Value} {below : List Frame} {meth : Method} {c : Code} {H H1 : Heap} {locs1 locs : List Loc} {cn sn : Nat} {Q : State → Prop} {fr : JFrame} {d0 : Drawn} {A : Nat → Prop} (hS1 : va_S A H H1 locs1) (hS : va_S A s.heap H locs) (hz : H.size = s.heap.size + cn)
    (k : H1.size = H.size → va_S A s.heap H1 locs1 → W p l e R (s.setDrawn d0) m args below meth c H1 locs1 cn sn Q fr) : W p l e R (s.setDrawn d0) m args below meth c H1 locs1 cn sn Q fr := by
  intro T hT X
  have h1 : T.heap.size ≤ s.heap.size + cn := X.heapSize
  have h2 := hS1.1
  rw [hT] at h1
  refine k (by omega) ⟨Nat.le_trans hS.1 h2, fun q hq hA => ?_, hS1.2.2⟩ T hT X
  rw [hS1.2.1 q (Nat.lt_of_lt_of_le hq hS.1) hA]
  exact hS.2.1 q hq hA
theorem pm_self {A : Nat → Prop} {H0 H : Heap} {locs : List Loc} (hS : va_S A H0 H locs) : va_S A H H locs := ⟨Nat.le_refl _, fun _ _ _ => rfl, hS.2.2⟩

