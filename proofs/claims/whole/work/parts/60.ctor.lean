/-! what constructors make: a block of cells behind the others -/
def pd (E0 : pm_E) (N0 : Nat) (lst : List va_E) : pm_E := fun k => if k < N0 then E0 k else (lst[k - N0]?).getD (.inr (0, []))
theorem pd_at {E0 : pm_E} {N0 j : Nat} {lst : List va_E} {e : va_E} (h : lst[j]? = some e) : pd E0 N0 lst (N0 + j) = e := by
  unfold pd
  rw [if_neg (by omega), show N0 + j - N0 = j by omega, h]
  rfl
theorem pd_lt {E0 : pm_E} {N0 k : Nat} {lst : List va_E} (h : k < N0) : pd E0 N0 lst k = E0 k := by
  unfold pd
  rw [if_pos h]
theorem pd_new {E0 : pm_E} {N0 n : Nat} {lst : List va_E} {e : va_E} (h : lst.length = n) : pm_up (pd E0 N0 lst) (N0 + n) e = pd E0 N0 (lst ++ [e]) := by
  subst h
  funext k
  unfold pm_up pd
  by_cases h1 : k = N0 + lst.length
  · subst h1
    rw [if_pos rfl, if_neg (by omega), show N0 + lst.length - N0 = lst.length by omega, List.getElem?_append_right (Nat.le_refl _), Nat.sub_self]
    rfl
  · rw [if_neg h1]
    by_cases h2 : k < N0
    · rw [if_pos h2, if_pos h2]
    · rw [if_neg h2, if_neg h2]
      by_cases h3 : k - N0 < lst.length
      · rw [List.getElem?_append_left h3]
      · rw [List.getElem?_eq_none (by omega), List.getElem?_eq_none (by rw [List.length_append, List.length_singleton]; omega)]
theorem pd_set {E0 : pm_E} {N0 j : Nat} {lst : List va_E} {e : va_E} (h : j < lst.length) : pm_up (pd E0 N0 lst) (N0 + j) e = pd E0 N0 (lst.set j e) := by
  funext k
  unfold pm_up pd
  by_cases h1 : k = N0 + j
  · subst h1
    rw [if_pos rfl, if_neg (by omega), show N0 + j - N0 = j by omega, List.getElem?_set_self h]
    rfl
  · rw [if_neg h1]
    by_cases h2 : k < N0
    · rw [if_pos h2, if_pos h2]
    · rw [if_neg h2, if_neg h2, List.getElem?_set_ne (by omega)]
theorem pd_app {E0 : pm_E} {N0 n : Nat} {l1 l2 : List va_E} (h : l1.length = n) : pd E0 N0 (l1 ++ l2) = pd (pd E0 N0 l1) (N0 + n) l2 := by
  subst h
  funext k
  unfold pd
  by_cases h2 : k < N0
  · rw [if_pos h2, if_pos (by omega), if_pos h2]
  · rw [if_neg h2]
    by_cases h3 : k < N0 + l1.length
    · rw [if_pos h3, if_neg h2, List.getElem?_append_left (by omega)]
    · rw [if_neg h3, List.getElem?_append_right (by omega), show k - N0 - l1.length = k - (N0 + l1.length) by omega]
/-- only the N cells matter -/
theorem pm_Econg {g : pm_G} {M : pm_M} {F : pm_F} {cn sn pc : Nat} {ls : List (Option Value)} {st : List Value} {N : Nat} {E E' : pm_E} (h : ∀ k, k < N → E k = E' k) (K : pm_W g M F cn sn pc ls st N E') : pm_W g M F cn sn pc ls st N E := by
  have e : pm_wl g.2.2.1 N E = pm_wl g.2.2.1 N E' := by
    apply List.ext_getElem?
    intro j
    by_cases hj : j < N
    · rw [pm_wl_get hj, pm_wl_get hj, h j hj]
    · rw [pm_wl_none (Nat.le_of_not_lt hj), pm_wl_none (Nat.le_of_not_lt hj)]
  intro p l e1 s m args below meth c hC H locs d0 L hd0 hL hWD hS hz
  exact K p l e1 s m args below meth c hC H locs d0 L hd0 hL ⟨hWD.1, by rw [← e]; exact hWD.2⟩ hS hz
section PDR
variable {g : pm_G} {M : pm_M} {F : pm_F} {cn sn pc pc' : Nat} {ls : List (Option Value)} {st : List Value} {E0 : pm_E} {N0 m : Nat} {lst lst' : List va_E}
theorem pd_neww {ci n : Nat} {fs : List Value} (hd : pm_NW M pc ci n fs pc') (hc : cn + 1 ≤ F.1.cells) (hsl : sn + n ≤ F.1.slots) (hm : lst.length = m) (hl : lst ++ [.inr (ci, fs)] = lst') (k : pm_W g M F (cn + 1) (sn + n) pc' ls (.ref (g.2.2.1 + (N0 + m)) :: st) (N0 + (m + 1)) (pd E0 N0 lst')) : pm_W g M F cn sn pc ls st (N0 + m) (pd E0 N0 lst) := by
  refine pm_new hd hc hsl ?_
  rw [pd_new hm, hl]
  exact k
theorem pd_newa_int {n : Int32} {nn : Nat} (hd : pm_D M.2.2.1 pc (.newarray .int) 2 pc') (hn : ¬ n < 0) (hN : n.toNatClampNeg = nn) (hb : nn ≤ 60000) (hc : cn + 1 ≤ F.1.cells) (hsl : sn + nn ≤ F.1.slots) (hm : lst.length = m) (hl : lst ++ [.inl (g.2.1 0, nn, .inl (fun _ => 0))] = lst') (k : pm_W g M F (cn + 1) (sn + nn) pc' ls (.ref (g.2.2.1 + (N0 + m)) :: st) (N0 + (m + 1)) (pd E0 N0 lst')) : pm_W g M F cn sn pc ls (.int n :: st) (N0 + m) (pd E0 N0 lst) := by
  refine pm_newa_int hd hn hN hb hc hsl ?_
  rw [pd_new hm, hl]
  exact k
theorem pd_newa_byte {n : Int32} {nn : Nat} (hd : pm_D M.2.2.1 pc (.newarray .byte) 2 pc') (hn : ¬ n < 0) (hN : n.toNatClampNeg = nn) (hb : nn ≤ 60000) (hc : cn + 1 ≤ F.1.cells) (hsl : sn + nn ≤ F.1.slots) (hm : lst.length = m) (hl : lst ++ [.inl (g.2.1 1, nn, .inl (fun _ => 0))] = lst') (k : pm_W g M F (cn + 1) (sn + nn) pc' ls (.ref (g.2.2.1 + (N0 + m)) :: st) (N0 + (m + 1)) (pd E0 N0 lst')) : pm_W g M F cn sn pc ls (.int n :: st) (N0 + m) (pd E0 N0 lst) := by
  refine pm_newa_byte hd hn hN hb hc hsl ?_
  rw [pd_new hm, hl]
  exact k
theorem pd_newa_boolean {n : Int32} {nn : Nat} (hd : pm_D M.2.2.1 pc (.newarray .boolean) 2 pc') (hn : ¬ n < 0) (hN : n.toNatClampNeg = nn) (hb : nn ≤ 60000) (hc : cn + 1 ≤ F.1.cells) (hsl : sn + nn ≤ F.1.slots) (hm : lst.length = m) (hl : lst ++ [.inl (g.2.1 2, nn, .inl (fun _ => 0))] = lst') (k : pm_W g M F (cn + 1) (sn + nn) pc' ls (.ref (g.2.2.1 + (N0 + m)) :: st) (N0 + (m + 1)) (pd E0 N0 lst')) : pm_W g M F cn sn pc ls (.int n :: st) (N0 + m) (pd E0 N0 lst) := by
  refine pm_newa_boolean hd hn hN hb hc hsl ?_
  rw [pd_new hm, hl]
  exact k
theorem pd_newa_long {n : Int32} {nn : Nat} (hd : pm_D M.2.2.1 pc (.newarray .long) 2 pc') (hn : ¬ n < 0) (hN : n.toNatClampNeg = nn) (hb : nn ≤ 60000) (hc : cn + 1 ≤ F.1.cells) (hsl : sn + nn ≤ F.1.slots) (hm : lst.length = m) (hl : lst ++ [.inl (g.2.1 3, nn, .inr (.inl (fun _ => 0)))] = lst') (k : pm_W g M F (cn + 1) (sn + nn) pc' ls (.ref (g.2.2.1 + (N0 + m)) :: st) (N0 + (m + 1)) (pd E0 N0 lst')) : pm_W g M F cn sn pc ls (.int n :: st) (N0 + m) (pd E0 N0 lst) := by
  refine pm_newa_long hd hn hN hb hc hsl ?_
  rw [pd_new hm, hl]
  exact k
theorem pd_newa_double {n : Int32} {nn : Nat} (hd : pm_D M.2.2.1 pc (.newarray .double) 2 pc') (hn : ¬ n < 0) (hN : n.toNatClampNeg = nn) (hb : nn ≤ 60000) (hc : cn + 1 ≤ F.1.cells) (hsl : sn + nn ≤ F.1.slots) (hm : lst.length = m) (hl : lst ++ [.inl (g.2.1 4, nn, .inr (.inr (.inr (.inl (fun _ => 0)))))] = lst') (k : pm_W g M F (cn + 1) (sn + nn) pc' ls (.ref (g.2.2.1 + (N0 + m)) :: st) (N0 + (m + 1)) (pd E0 N0 lst')) : pm_W g M F cn sn pc ls (.int n :: st) (N0 + m) (pd E0 N0 lst) := by
  refine pm_newa_double hd hn hN hb hc hsl ?_
  rw [pd_new hm, hl]
  exact k
theorem pd_put (j : Nat) {ci i : Nat} {ty : FieldType} {fs : List Value} {v : Value} (hd : pm_PF M pc ci i ty pc') (hE : lst[j]? = some (.inr (ci, fs))) (hm : lst.length = m) (hi : i < fs.length) (hn : narrow ty v = v) (hf : fits ty v = true) (hl : lst.set j (.inr (ci, fs.set i v)) = lst') (k : pm_W g M F cn sn pc' ls st (N0 + m) (pd E0 N0 lst')) : pm_W g M F cn sn pc ls (v :: .ref (g.2.2.1 + (N0 + j)) :: st) (N0 + m) (pd E0 N0 lst) := by
  have hj : j < lst.length := (List.getElem?_eq_some_iff.mp hE).1
  refine pm_put (N0 + j) hd (by omega) (pd_at hE) hi hn hf ?_
  rw [pd_set hj, hl]
  exact k
theorem pd_putF (j : Nat) {ci i : Nat} {ty : FieldType} {fs : List Value} {v : Value} (hd : pm_PFF M pc ci i ty pc') (hE : lst[j]? = some (.inr (ci, fs))) (hm : lst.length = m) (hi : i < fs.length) (hn : narrow ty v = v) (hf : fits ty v = true) (hl : lst.set j (.inr (ci, fs.set i v)) = lst') (k : pm_W g M F cn sn pc' ls st (N0 + m) (pd E0 N0 lst')) : pm_W g M F cn sn pc ls (v :: .ref (g.2.2.1 + (N0 + j)) :: st) (N0 + m) (pd E0 N0 lst) := by
  have hj : j < lst.length := (List.getElem?_eq_some_iff.mp hE).1
  refine pm_putF (N0 + j) hd (by omega) (pd_at hE) hi hn hf ?_
  rw [pd_set hj, hl]
  exact k
theorem pd_get (j : Nat) {ci i : Nat} {fs : List Value} {v : Value} (hd : pm_GF M pc ci i pc') (hE : lst[j]? = some (.inr (ci, fs))) (hm : lst.length = m) (hv : fs[i]? = some v) (k : pm_W g M F cn sn pc' ls (v :: st) (N0 + m) (pd E0 N0 lst)) : pm_W g M F cn sn pc ls (.ref (g.2.2.1 + (N0 + j)) :: st) (N0 + m) (pd E0 N0 lst) := by
  have hj : j < lst.length := (List.getElem?_eq_some_iff.mp hE).1
  exact pm_get (N0 + j) hd (by omega) (pd_at hE) hv k
/-- a constructor of a block of its own, called behind 'new' -/
theorem pd_callN {y : MethodName} {cc : ByteArray} {nL : Nat} {d' mc' ms' n : Nat} {own : String} {As st0 : List Value} {pre post : List va_E} {dfl : va_E} (hd : pm_CN M pc (own, y, cc, nL, none) pc') (hm : pm_MI (own, y, cc, nL, none) n) (hn : As.length = n) (hp : pre.length = m) (hst : st0 = As.reverse ++ .ref (g.2.2.1 + (N0 + m)) :: st)
    (hR : d' + 1 ≤ F.1.frames ∧ 8 + (nL + 11) + 48 * d' ≤ F.1.locals) (hf : cn + mc' ≤ F.1.cells ∧ sn + ms' ≤ F.1.slots) (hs : (st.map fun v => v.category).sum ≤ 8) (hL : lst = pre ++ [dfl]) (hcon : pm_C g (own, y, cc, nL, none) d' mc' ms' (.ref (g.2.2.1 + (N0 + m)) :: As) (N0 + m + 1) (pd (pd E0 N0 pre) (N0 + m) [dfl]) (fun r E => r = none ∧ E = pd (pd E0 N0 pre) (N0 + m) post))
    (hl : pre ++ post = lst') (k : pm_W g M F (cn + mc') (sn + ms') pc' ls st (N0 + (m + 1 + mc')) (pd E0 N0 lst')) : pm_W g M F cn sn pc ls st0 (N0 + (m + 1)) (pd E0 N0 lst) := by
  rw [hL, pd_app hp]
  refine pm_callN hd hm hn hst hR hf hs hcon (fun r E1 ⟨h1, h2⟩ => ?_)
  subst h1
  subst h2
  rw [← pd_app hp, hl, Nat.add_assoc N0 (m + 1) mc']
  exact k
theorem pd_callI {y : MethodName} {cc : ByteArray} {nL : Nat} {d' mc' ms' n : Nat} {own : String} {As st0 : List Value} {pre post : List va_E} {dfl : va_E} (hd : pm_CI M pc (own, y, cc, nL, none) pc') (hm : pm_MI (own, y, cc, nL, none) n) (hn : As.length = n) (hp : pre.length = m) (hst : st0 = As.reverse ++ .ref (g.2.2.1 + (N0 + m)) :: st)
    (hR : d' + 1 ≤ F.1.frames ∧ 8 + (nL + 11) + 48 * d' ≤ F.1.locals) (hf : cn + mc' ≤ F.1.cells ∧ sn + ms' ≤ F.1.slots) (hs : (st.map fun v => v.category).sum ≤ 8) (hL : lst = pre ++ [dfl]) (hcon : pm_C g (own, y, cc, nL, none) d' mc' ms' (.ref (g.2.2.1 + (N0 + m)) :: As) (N0 + m + 1) (pd (pd E0 N0 pre) (N0 + m) [dfl]) (fun r E => r = none ∧ E = pd (pd E0 N0 pre) (N0 + m) post))
    (hl : pre ++ post = lst') (k : pm_W g M F (cn + mc') (sn + ms') pc' ls st (N0 + (m + 1 + mc')) (pd E0 N0 lst')) : pm_W g M F cn sn pc ls st0 (N0 + (m + 1)) (pd E0 N0 lst) := by
  rw [hL, pd_app hp]
  refine pm_callI hd hm hn hst hR hf hs hcon (fun r E1 ⟨h1, h2⟩ => ?_)
  subst h1
  subst h2
  rw [← pd_app hp, hl, Nat.add_assoc N0 (m + 1) mc']
  exact k
theorem pd_roomO {d mc ms : Nat} {Q : Option Value → pm_E → Prop} (h : 1 ≤ d) : 1 ≤ (pm_Fm g d mc ms N0 Q).1.frames ∧ 20 ≤ (pm_Fm g d mc ms N0 Q).1.locals := ⟨h, by show 20 ≤ 48 * d; omega⟩
end PDR
/-! Arrays.fill of ints, over any cells -/
def pf_fill (f : Nat → Int32) (v : Int32) (n : Nat) : Nat → Int32 := fun j => if j < n then v else f j
theorem pf_0 (f : Nat → Int32) (v : Int32) : pf_fill f v 0 = f := by funext j; simp [pf_fill]
theorem pf_s (f : Nat → Int32) (v : Int32) (n : Nat) : upd (pf_fill f v n) n v = pf_fill f v (n + 1) := by
  funext j
  unfold upd pf_fill
  by_cases h : j = n
  · subst h; rw [if_pos rfl, if_pos (by omega)]
  · rw [if_neg h]
    by_cases h2 : j < n
    · rw [if_pos h2, if_pos (by omega)]
    · rw [if_neg h2, if_neg (by omega)]
set_option maxRecDepth 100000 in
theorem K_fill {g : pm_G} (q n N : Nat) (E : pm_E) (f : Nat → Int32) (v : Int32) (hq : q < N) (hE : E q = .inl (g.2.1 0, n, .inl f)) (hn : n < 2 ^ 31) : pm_C g mJ7_fill_53178 1 0 0 [.ref (g.2.2.1 + q), .int v] N E (fun r E' => r = none ∧ E' = pm_up E q (.inl (g.2.1 0, n, .inl (pf_fill f v n)))) := by
  refine pm_C.of (ls := [some (.ref (g.2.2.1 + q)), some (.int v), none, none]) 2 (by decide) rfl (Nat.le_of_ble_eq_true rfl) rfl ?_
  refine pm_ki d_J7_fill_53178_0 ?_
  refine pm_ist2 d_J7_fill_53178_1 rfl (by decide) ?_
  refine pm_ald d_J7_fill_53178_2 rfl ?_
  refine pm_alen q 0 (v := nI n) d_J7_fill_53178_3 hq hE rfl rfl ?_
  refine pm_ist3 d_J7_fill_53178_4 rfl (by decide) ?_
  have main : ∀ (k i : Nat), i + k = n → pm_W g mJ7_fill_53178 (pm_Fm g 1 0 0 N (fun r E' => r = none ∧ E' = pm_up E q (.inl (g.2.1 0, n, .inl (pf_fill f v n))))) 0 0 5 [some (.ref (g.2.2.1 + q)), some (.int v), some (.int (nI i)), some (.int (nI n))] [] N (pm_up E q (.inl (g.2.1 0, n, .inl (pf_fill f v i)))) := by
    intro k
    induction k with
    | zero =>
      intro i hi
      have hin : i = n := by omega
      subst hin
      refine pm_ild d_J7_fill_53178_5 rfl ?_
      refine pm_ild d_J7_fill_53178_6 rfl ?_
      refine pm_icmp_ge d_J7_fill_53178_7 (fun c => ?_) (fun c => ?_)
      · exact pm_vret rfl d_J7_fill_53178_20 rfl (Nat.le_refl _) ⟨rfl, rfl⟩
      · exact absurd (nI_le (Nat.le_refl i) hn) c
    | succ k ih =>
      intro i hi
      refine pm_ild d_J7_fill_53178_5 rfl ?_
      refine pm_ild d_J7_fill_53178_6 rfl ?_
      refine pm_icmp_ge d_J7_fill_53178_7 (fun c => ?_) (fun c => ?_)
      · exact absurd c (nI_ge (by omega) hn)
      · refine pm_ald d_J7_fill_53178_10 rfl ?_
        refine pm_ild d_J7_fill_53178_11 rfl ?_
        refine pm_ild d_J7_fill_53178_12 rfl ?_
        refine pm_iast q (n := n) (f := pf_fill f v i) d_J7_fill_53178_13 hq (by simp [pm_up]) (vp_in_nI (by omega) hn) ?_
        refine pm_inc2 d_J7_fill_53178_14 rfl ?_
        refine pm_goto d_J7_fill_53178_17 ?_
        have e1 : pm_up (pm_up E q (.inl (g.2.1 0, n, .inl (pf_fill f v i)))) q (.inl (g.2.1 0, n, .inl (upd (pf_fill f v i) (nI i).toNatClampNeg v))) = pm_up E q (.inl (g.2.1 0, n, .inl (pf_fill f v (i + 1)))) := by
          rw [nI_clamp (by omega), pf_s]
          funext j
          unfold pm_up
          by_cases h : j = q
          · rw [if_pos h, if_pos h]
          · rw [if_neg h, if_neg h, if_neg h]
        rw [e1, nI_1]
        exact ih (i + 1) (by omega)
  have e0 : E = pm_up E q (.inl (g.2.1 0, n, .inl (pf_fill f v 0))) := by
    rw [pf_0]
    funext j
    unfold pm_up
    by_cases h : j = q
    · rw [if_pos h, h, hE]
    · rw [if_neg h]
  have h9 := main n 0 (by omega)
  rw [nI_0] at h9
  exact pm_Econg (fun j _ => congrFun e0 j) h9
theorem d_X0_init_10 : pm_NW mX0_init 10 4 4 [.null, .null, .null, .null] 13 := ⟨15, RX4, TX4, tyX4, by decide +kernel, rfl, in_X4, tyX4_ok, w1_215, w1_216, w1_6, fun j hj => match j, hj with | 0, _ => rfl | 1, _ => rfl | 2, _ => rfl | 3, _ => rfl | j + 4, h => absurd h (by omega), rfl⟩
theorem d_X2_init_112 : pm_NW mX2_init 112 3 6 [.null, .int 0, .int 0, .int 0, .int 0, .int 0] 115 := ⟨64, RX3, TX3, tyX3, by decide +kernel, rfl, in_X3, tyX3_ok, w1_33, w1_34, w1_3, fun j hj => match j, hj with | 0, _ => rfl | 1, _ => rfl | 2, _ => rfl | 3, _ => rfl | 4, _ => rfl | 5, _ => rfl | j + 6, h => absurd h (by omega), rfl⟩
theorem d_X6_init_5 : pm_NW mX6_init 5 1 9 [.null, .null, .null, .null, .null, .null, .null, .null, .null] 8 := ⟨9, RX1, TX1, tyX1, by decide +kernel, rfl, in_X1, tyX1_ok, w2_10, w2_11, w1_9, fun j hj => match j, hj with | 0, _ => rfl | 1, _ => rfl | 2, _ => rfl | 3, _ => rfl | 4, _ => rfl | 5, _ => rfl | 6, _ => rfl | 7, _ => rfl | 8, _ => rfl | j + 9, h => absurd h (by omega), rfl⟩
theorem d_X8_init_19 : pm_NW mX8_init 19 2 18 [.int 0, .int 0, .int 0, .int 0, .int 0, .int 0, .int 0, .int 0, .int 0, .int 0, .int 0, .null, .null, .null, .null, .null, .null, .null] 22 := ⟨17, RX2, TX2, tyX2, by decide +kernel, rfl, in_X2, tyX2_ok, w1_27, w1_28, w1_2, fun j hj => match j, hj with | 0, _ => rfl | 1, _ => rfl | 2, _ => rfl | 3, _ => rfl | 4, _ => rfl | 5, _ => rfl | 6, _ => rfl | 7, _ => rfl | 8, _ => rfl | 9, _ => rfl | 10, _ => rfl | 11, _ => rfl | 12, _ => rfl | 13, _ => rfl | 14, _ => rfl | 15, _ => rfl | 16, _ => rfl | 17, _ => rfl | j + 18, h => absurd h (by omega), rfl⟩
theorem d_X8_init_30 : pm_NW mX8_init 30 5 12 [.int 0, .int 0, .null, .null, .int 0, .int 0, .int 0, .int 0, .int 0, .int 0, .int 0, .int 0] 33 := ⟨24, RX5, TX5, tyX5, by decide +kernel, rfl, in_X5, tyX5_ok, w1_164, w1_165, w1_4, fun j hj => match j, hj with | 0, _ => rfl | 1, _ => rfl | 2, _ => rfl | 3, _ => rfl | 4, _ => rfl | 5, _ => rfl | 6, _ => rfl | 7, _ => rfl | 8, _ => rfl | 9, _ => rfl | 10, _ => rfl | 11, _ => rfl | j + 12, h => absurd h (by omega), rfl⟩
theorem d_X8_init_49 : pm_NW mX8_init 49 2 18 [.int 0, .int 0, .int 0, .int 0, .int 0, .int 0, .int 0, .int 0, .int 0, .int 0, .int 0, .null, .null, .null, .null, .null, .null, .null] 52 := ⟨17, RX2, TX2, tyX2, by decide +kernel, rfl, in_X2, tyX2_ok, w1_27, w1_28, w1_2, fun j hj => match j, hj with | 0, _ => rfl | 1, _ => rfl | 2, _ => rfl | 3, _ => rfl | 4, _ => rfl | 5, _ => rfl | 6, _ => rfl | 7, _ => rfl | 8, _ => rfl | 9, _ => rfl | 10, _ => rfl | 11, _ => rfl | 12, _ => rfl | 13, _ => rfl | 14, _ => rfl | 15, _ => rfl | 16, _ => rfl | 17, _ => rfl | j + 18, h => absurd h (by omega), rfl⟩
theorem d_X8_init_60 : pm_NW mX8_init 60 0 2 [.null, .null] 63 := ⟨36, RX0, TX0, tyX0, by decide +kernel, rfl, in_X0, tyX0_ok, w1_209, w1_210, w1_5, fun j hj => match j, hj with | 0, _ => rfl | 1, _ => rfl | j + 2, h => absurd h (by omega), rfl⟩
theorem d_X8_init_75 : pm_NW mX8_init 75 6 14 [.null, .null, .null, .null, .null, .null, .null, .null, .int 0, .int 0, .int 0, .int 0, .int 0, .int 0] 78 := ⟨45, RX6, TX6, tyX6, by decide +kernel, rfl, in_X6, tyX6_ok, w2_4, w2_5, w1_8, fun j hj => match j, hj with | 0, _ => rfl | 1, _ => rfl | 2, _ => rfl | 3, _ => rfl | 4, _ => rfl | 5, _ => rfl | 6, _ => rfl | 7, _ => rfl | 8, _ => rfl | 9, _ => rfl | 10, _ => rfl | 11, _ => rfl | 12, _ => rfl | 13, _ => rfl | j + 14, h => absurd h (by omega), rfl⟩
theorem d_X8_init_86 : pm_NW mX8_init 86 6 14 [.null, .null, .null, .null, .null, .null, .null, .null, .int 0, .int 0, .int 0, .int 0, .int 0, .int 0] 89 := ⟨45, RX6, TX6, tyX6, by decide +kernel, rfl, in_X6, tyX6_ok, w2_4, w2_5, w1_8, fun j hj => match j, hj with | 0, _ => rfl | 1, _ => rfl | 2, _ => rfl | 3, _ => rfl | 4, _ => rfl | 5, _ => rfl | 6, _ => rfl | 7, _ => rfl | 8, _ => rfl | 9, _ => rfl | 10, _ => rfl | 11, _ => rfl | 12, _ => rfl | 13, _ => rfl | j + 14, h => absurd h (by omega), rfl⟩
theorem d_X8_init_97 : pm_NW mX8_init 97 6 14 [.null, .null, .null, .null, .null, .null, .null, .null, .int 0, .int 0, .int 0, .int 0, .int 0, .int 0] 100 := ⟨45, RX6, TX6, tyX6, by decide +kernel, rfl, in_X6, tyX6_ok, w2_4, w2_5, w1_8, fun j hj => match j, hj with | 0, _ => rfl | 1, _ => rfl | 2, _ => rfl | 3, _ => rfl | 4, _ => rfl | 5, _ => rfl | 6, _ => rfl | 7, _ => rfl | 8, _ => rfl | 9, _ => rfl | 10, _ => rfl | 11, _ => rfl | 12, _ => rfl | 13, _ => rfl | j + 14, h => absurd h (by omega), rfl⟩
theorem d_X8_init_175 : pm_NW mX8_init 175 6 14 [.null, .null, .null, .null, .null, .null, .null, .null, .int 0, .int 0, .int 0, .int 0, .int 0, .int 0] 178 := ⟨45, RX6, TX6, tyX6, by decide +kernel, rfl, in_X6, tyX6_ok, w2_4, w2_5, w1_8, fun j hj => match j, hj with | 0, _ => rfl | 1, _ => rfl | 2, _ => rfl | 3, _ => rfl | 4, _ => rfl | 5, _ => rfl | 6, _ => rfl | 7, _ => rfl | 8, _ => rfl | 9, _ => rfl | 10, _ => rfl | 11, _ => rfl | 12, _ => rfl | 13, _ => rfl | j + 14, h => absurd h (by omega), rfl⟩
theorem d_X8_init_201 : pm_NW mX8_init 201 7 4 [.null, .int 0, .int 0, .int 0] 204 := ⟨68, RX7, TX7, tyX7, by decide +kernel, rfl, in_X7, tyX7_ok, w2_137, w2_140, w1_10, fun j hj => match j, hj with | 0, _ => rfl | 1, _ => rfl | 2, _ => rfl | 3, _ => rfl | j + 4, h => absurd h (by omega), rfl⟩
theorem d_X8_init_227 : pm_NW mX8_init 227 2 18 [.int 0, .int 0, .int 0, .int 0, .int 0, .int 0, .int 0, .int 0, .int 0, .int 0, .int 0, .null, .null, .null, .null, .null, .null, .null] 230 := ⟨17, RX2, TX2, tyX2, by decide +kernel, rfl, in_X2, tyX2_ok, w1_27, w1_28, w1_2, fun j hj => match j, hj with | 0, _ => rfl | 1, _ => rfl | 2, _ => rfl | 3, _ => rfl | 4, _ => rfl | 5, _ => rfl | 6, _ => rfl | 7, _ => rfl | 8, _ => rfl | 9, _ => rfl | 10, _ => rfl | 11, _ => rfl | 12, _ => rfl | 13, _ => rfl | 14, _ => rfl | 15, _ => rfl | 16, _ => rfl | 17, _ => rfl | j + 18, h => absurd h (by omega), rfl⟩
theorem d_X8_init_240 : pm_NW mX8_init 240 6 14 [.null, .null, .null, .null, .null, .null, .null, .null, .int 0, .int 0, .int 0, .int 0, .int 0, .int 0] 243 := ⟨45, RX6, TX6, tyX6, by decide +kernel, rfl, in_X6, tyX6_ok, w2_4, w2_5, w1_8, fun j hj => match j, hj with | 0, _ => rfl | 1, _ => rfl | 2, _ => rfl | 3, _ => rfl | 4, _ => rfl | 5, _ => rfl | 6, _ => rfl | 7, _ => rfl | 8, _ => rfl | 9, _ => rfl | 10, _ => rfl | 11, _ => rfl | 12, _ => rfl | 13, _ => rfl | j + 14, h => absurd h (by omega), rfl⟩
theorem d_L_law_0 : pm_NW mL_law 0 8 17 [.null, .int 0, .null, .null, .null, .null, .null, .null, .null, .null, .int 0, .int 0, .null, .null, .null, .null, .int 0] 3 := ⟨7, RX8, TX8, tyX8, by decide +kernel, rfl, in_X8, tyX8_ok, w1_19, w1_20, w1_1, fun j hj => match j, hj with | 0, _ => rfl | 1, _ => rfl | 2, _ => rfl | 3, _ => rfl | 4, _ => rfl | 5, _ => rfl | 6, _ => rfl | 7, _ => rfl | 8, _ => rfl | 9, _ => rfl | 10, _ => rfl | 11, _ => rfl | 12, _ => rfl | 13, _ => rfl | 14, _ => rfl | 15, _ => rfl | 16, _ => rfl | j + 17, h => absurd h (by omega), rfl⟩
theorem d_L_law_8 : pm_NW mL_law 8 9 38 [.int 0, .null, .null, .null, .null, .null, .int 0, .int 0, .int 0, .int 0, .int 0, .int 0, .int 0, .int 0, .int 0, .int 0, .int 0, .null, .null, .null, .null, .int 0, .int 0, .int 0, .int 0, .int 0, .null, .null, .int 0, .int 0, .null, .null, .null, .long 0, .long 0, .null, .null, .null] 11 := ⟨10, RX9, TX9, tyX9, by decide +kernel, rfl, in_X9, tyX9_ok, w5_164, w5_165, w1_12, fun j hj => match j, hj with | 0, _ => rfl | 1, _ => rfl | 2, _ => rfl | 3, _ => rfl | 4, _ => rfl | 5, _ => rfl | 6, _ => rfl | 7, _ => rfl | 8, _ => rfl | 9, _ => rfl | 10, _ => rfl | 11, _ => rfl | 12, _ => rfl | 13, _ => rfl | 14, _ => rfl | 15, _ => rfl | 16, _ => rfl | 17, _ => rfl | 18, _ => rfl | 19, _ => rfl | 20, _ => rfl | 21, _ => rfl | 22, _ => rfl | 23, _ => rfl | 24, _ => rfl | 25, _ => rfl | 26, _ => rfl | 27, _ => rfl | 28, _ => rfl | 29, _ => rfl | 30, _ => rfl | 31, _ => rfl | 32, _ => rfl | 33, _ => rfl | 34, _ => rfl | 35, _ => rfl | 36, _ => rfl | 37, _ => rfl | j + 38, h => absurd h (by omega), rfl⟩
set_option maxRecDepth 100000 in
theorem K_X3 {g : pm_G} (N0 : Nat) (E0 : pm_E)  : pm_C g mX3_init 1 1 900 [.ref (g.2.2.1 + N0)] (N0 + 1) (pd E0 N0 [.inr (3, [.null, .int 0, .int 0, .int 0, .int 0, .int 0])]) (fun r E => r = none ∧ E = pd E0 N0 [.inr (3, [.ref (g.2.2.1 + (N0 + 1)), .int 0, .int 0, .int 0, .int 0, .int 0]), .inl (g.2.1 0, 900, .inl (fun _ => 0))]) := by
  refine pm_C.of (ls := [some (.ref (g.2.2.1 + N0))]) 0 (by decide) rfl (Nat.le_of_ble_eq_true rfl) rfl ?_
  refine pm_ald d_X3_init_0 rfl ?_
  refine pm_obj d_X3_init_1 (pd_roomO (by decide)) (Nat.le_of_ble_eq_true rfl) ?_
  refine pm_ald d_X3_init_4 rfl ?_
  refine pm_ki d_X3_init_5 ?_
  refine pd_newa_int (nn := 900) (lst' := [.inr (3, [.null, .int 0, .int 0, .int 0, .int 0, .int 0]), .inl (g.2.1 0, 900, .inl (fun _ => 0))]) d_X3_init_8 (by decide) rfl (by decide) (Nat.le_of_ble_eq_true rfl) (Nat.le_of_ble_eq_true rfl) rfl rfl ?_
  refine pd_putF 0 (lst' := [.inr (3, [.ref (g.2.2.1 + (N0 + 1)), .int 0, .int 0, .int 0, .int 0, .int 0]), .inl (g.2.1 0, 900, .inl (fun _ => 0))]) d_X3_init_10 rfl rfl (Nat.le_of_ble_eq_true rfl) rfl rfl rfl ?_
  refine pm_ald d_X3_init_13 rfl ?_
  refine pm_ki d_X3_init_14 ?_
  refine pd_put 0 (lst' := [.inr (3, [.ref (g.2.2.1 + (N0 + 1)), .int 0, .int 0, .int 0, .int 0, .int 0]), .inl (g.2.1 0, 900, .inl (fun _ => 0))]) d_X3_init_15 rfl rfl (Nat.le_of_ble_eq_true rfl) rfl rfl rfl ?_
  refine pm_ald d_X3_init_18 rfl ?_
  refine pm_ki d_X3_init_19 ?_
  refine pd_put 0 (lst' := [.inr (3, [.ref (g.2.2.1 + (N0 + 1)), .int 0, .int 0, .int 0, .int 0, .int 0]), .inl (g.2.1 0, 900, .inl (fun _ => 0))]) d_X3_init_20 rfl rfl (Nat.le_of_ble_eq_true rfl) rfl rfl rfl ?_
  refine pm_ald d_X3_init_23 rfl ?_
  refine pm_ki d_X3_init_24 ?_
  refine pd_put 0 (lst' := [.inr (3, [.ref (g.2.2.1 + (N0 + 1)), .int 0, .int 0, .int 0, .int 0, .int 0]), .inl (g.2.1 0, 900, .inl (fun _ => 0))]) d_X3_init_25 rfl rfl (Nat.le_of_ble_eq_true rfl) rfl rfl rfl ?_
  refine pm_ald d_X3_init_28 rfl ?_
  refine pm_ki d_X3_init_29 ?_
  refine pd_put 0 (lst' := [.inr (3, [.ref (g.2.2.1 + (N0 + 1)), .int 0, .int 0, .int 0, .int 0, .int 0]), .inl (g.2.1 0, 900, .inl (fun _ => 0))]) d_X3_init_30 rfl rfl (Nat.le_of_ble_eq_true rfl) rfl rfl rfl ?_
  refine pm_ald d_X3_init_33 rfl ?_
  refine pm_ki d_X3_init_34 ?_
  refine pd_put 0 (lst' := [.inr (3, [.ref (g.2.2.1 + (N0 + 1)), .int 0, .int 0, .int 0, .int 0, .int 0]), .inl (g.2.1 0, 900, .inl (fun _ => 0))]) d_X3_init_35 rfl rfl (Nat.le_of_ble_eq_true rfl) rfl rfl rfl ?_
  exact pm_vret rfl d_X3_init_38 (by omega) (Nat.le_refl _) ⟨rfl, rfl⟩
set_option maxRecDepth 100000 in
theorem K_X2 {g : pm_G} (N0 : Nat) (E0 : pm_E)  : pm_C g mX2_init 2 8 944 [.ref (g.2.2.1 + N0)] (N0 + 1) (pd E0 N0 [.inr (2, [.int 0, .int 0, .int 0, .int 0, .int 0, .int 0, .int 0, .int 0, .int 0, .int 0, .int 0, .null, .null, .null, .null, .null, .null, .null])]) (fun r E => r = none ∧ E = pd E0 N0 [.inr (2, [.int 100, .int 10, .int 30, .int 20, .int 10, .int 4, .int 8, .int 0, .int 0, .int 0, .int 0, .ref (g.2.2.1 + (N0 + 1)), .ref (g.2.2.1 + (N0 + 2)), .ref (g.2.2.1 + (N0 + 3)), .ref (g.2.2.1 + (N0 + 4)), .ref (g.2.2.1 + (N0 + 5)), .ref (g.2.2.1 + (N0 + 6)), .ref (g.2.2.1 + (N0 + 7))]), .inl (g.2.1 0, 4, .inl (fun _ => 0)), .inl (g.2.1 0, 4, .inl (fun _ => 0)), .inl (g.2.1 0, 12, .inl (fun _ => 0)), .inl (g.2.1 0, 6, .inl (fun _ => 0)), .inl (g.2.1 0, 6, .inl (fun _ => 0)), .inl (g.2.1 0, 6, .inl (fun _ => 0)), .inr (3, [.ref (g.2.2.1 + (N0 + 8)), .int 0, .int 0, .int 0, .int 0, .int 0]), .inl (g.2.1 0, 900, .inl (fun _ => 0))]) := by
  refine pm_C.of (ls := [some (.ref (g.2.2.1 + N0))]) 0 (by decide) rfl (Nat.le_of_ble_eq_true rfl) rfl ?_
  refine pm_ald d_X2_init_0 rfl ?_
  refine pm_obj d_X2_init_1 (pd_roomO (by decide)) (Nat.le_of_ble_eq_true rfl) ?_
  refine pm_ald d_X2_init_4 rfl ?_
  refine pm_ki d_X2_init_5 ?_
  refine pd_put 0 (lst' := [.inr (2, [.int 100, .int 0, .int 0, .int 0, .int 0, .int 0, .int 0, .int 0, .int 0, .int 0, .int 0, .null, .null, .null, .null, .null, .null, .null])]) d_X2_init_7 rfl rfl (Nat.le_of_ble_eq_true rfl) rfl rfl rfl ?_
  refine pm_ald d_X2_init_10 rfl ?_
  refine pm_ki d_X2_init_11 ?_
  refine pd_put 0 (lst' := [.inr (2, [.int 100, .int 10, .int 0, .int 0, .int 0, .int 0, .int 0, .int 0, .int 0, .int 0, .int 0, .null, .null, .null, .null, .null, .null, .null])]) d_X2_init_13 rfl rfl (Nat.le_of_ble_eq_true rfl) rfl rfl rfl ?_
  refine pm_ald d_X2_init_16 rfl ?_
  refine pm_ki d_X2_init_17 ?_
  refine pd_put 0 (lst' := [.inr (2, [.int 100, .int 10, .int 30, .int 0, .int 0, .int 0, .int 0, .int 0, .int 0, .int 0, .int 0, .null, .null, .null, .null, .null, .null, .null])]) d_X2_init_19 rfl rfl (Nat.le_of_ble_eq_true rfl) rfl rfl rfl ?_
  refine pm_ald d_X2_init_22 rfl ?_
  refine pm_ki d_X2_init_23 ?_
  refine pd_put 0 (lst' := [.inr (2, [.int 100, .int 10, .int 30, .int 20, .int 0, .int 0, .int 0, .int 0, .int 0, .int 0, .int 0, .null, .null, .null, .null, .null, .null, .null])]) d_X2_init_25 rfl rfl (Nat.le_of_ble_eq_true rfl) rfl rfl rfl ?_
  refine pm_ald d_X2_init_28 rfl ?_
  refine pm_ki d_X2_init_29 ?_
  refine pd_put 0 (lst' := [.inr (2, [.int 100, .int 10, .int 30, .int 20, .int 10, .int 0, .int 0, .int 0, .int 0, .int 0, .int 0, .null, .null, .null, .null, .null, .null, .null])]) d_X2_init_31 rfl rfl (Nat.le_of_ble_eq_true rfl) rfl rfl rfl ?_
  refine pm_ald d_X2_init_34 rfl ?_
  refine pm_ki d_X2_init_35 ?_
  refine pd_put 0 (lst' := [.inr (2, [.int 100, .int 10, .int 30, .int 20, .int 10, .int 4, .int 0, .int 0, .int 0, .int 0, .int 0, .null, .null, .null, .null, .null, .null, .null])]) d_X2_init_36 rfl rfl (Nat.le_of_ble_eq_true rfl) rfl rfl rfl ?_
  refine pm_ald d_X2_init_39 rfl ?_
  refine pm_ki d_X2_init_40 ?_
  refine pd_put 0 (lst' := [.inr (2, [.int 100, .int 10, .int 30, .int 20, .int 10, .int 4, .int 8, .int 0, .int 0, .int 0, .int 0, .null, .null, .null, .null, .null, .null, .null])]) d_X2_init_42 rfl rfl (Nat.le_of_ble_eq_true rfl) rfl rfl rfl ?_
  refine pm_ald d_X2_init_45 rfl ?_
  refine pm_ki d_X2_init_46 ?_
  refine pd_put 0 (lst' := [.inr (2, [.int 100, .int 10, .int 30, .int 20, .int 10, .int 4, .int 8, .int 0, .int 0, .int 0, .int 0, .null, .null, .null, .null, .null, .null, .null])]) d_X2_init_47 rfl rfl (Nat.le_of_ble_eq_true rfl) rfl rfl rfl ?_
  refine pm_ald d_X2_init_50 rfl ?_
  refine pm_ki d_X2_init_51 ?_
  refine pd_put 0 (lst' := [.inr (2, [.int 100, .int 10, .int 30, .int 20, .int 10, .int 4, .int 8, .int 0, .int 0, .int 0, .int 0, .null, .null, .null, .null, .null, .null, .null])]) d_X2_init_52 rfl rfl (Nat.le_of_ble_eq_true rfl) rfl rfl rfl ?_
  refine pm_ald d_X2_init_55 rfl ?_
  refine pm_ki d_X2_init_56 ?_
  refine pd_put 0 (lst' := [.inr (2, [.int 100, .int 10, .int 30, .int 20, .int 10, .int 4, .int 8, .int 0, .int 0, .int 0, .int 0, .null, .null, .null, .null, .null, .null, .null])]) d_X2_init_57 rfl rfl (Nat.le_of_ble_eq_true rfl) rfl rfl rfl ?_
  refine pm_ald d_X2_init_60 rfl ?_
  refine pm_ki d_X2_init_61 ?_
  refine pd_put 0 (lst' := [.inr (2, [.int 100, .int 10, .int 30, .int 20, .int 10, .int 4, .int 8, .int 0, .int 0, .int 0, .int 0, .null, .null, .null, .null, .null, .null, .null])]) d_X2_init_62 rfl rfl (Nat.le_of_ble_eq_true rfl) rfl rfl rfl ?_
  refine pm_ald d_X2_init_65 rfl ?_
  refine pm_ki d_X2_init_66 ?_
  refine pd_newa_int (nn := 4) (lst' := [.inr (2, [.int 100, .int 10, .int 30, .int 20, .int 10, .int 4, .int 8, .int 0, .int 0, .int 0, .int 0, .null, .null, .null, .null, .null, .null, .null]), .inl (g.2.1 0, 4, .inl (fun _ => 0))]) d_X2_init_67 (by decide) rfl (by decide) (Nat.le_of_ble_eq_true rfl) (Nat.le_of_ble_eq_true rfl) rfl rfl ?_
  refine pd_putF 0 (lst' := [.inr (2, [.int 100, .int 10, .int 30, .int 20, .int 10, .int 4, .int 8, .int 0, .int 0, .int 0, .int 0, .ref (g.2.2.1 + (N0 + 1)), .null, .null, .null, .null, .null, .null]), .inl (g.2.1 0, 4, .inl (fun _ => 0))]) d_X2_init_69 rfl rfl (Nat.le_of_ble_eq_true rfl) rfl rfl rfl ?_
  refine pm_ald d_X2_init_72 rfl ?_
  refine pm_ki d_X2_init_73 ?_
  refine pd_newa_int (nn := 4) (lst' := [.inr (2, [.int 100, .int 10, .int 30, .int 20, .int 10, .int 4, .int 8, .int 0, .int 0, .int 0, .int 0, .ref (g.2.2.1 + (N0 + 1)), .null, .null, .null, .null, .null, .null]), .inl (g.2.1 0, 4, .inl (fun _ => 0)), .inl (g.2.1 0, 4, .inl (fun _ => 0))]) d_X2_init_74 (by decide) rfl (by decide) (Nat.le_of_ble_eq_true rfl) (Nat.le_of_ble_eq_true rfl) rfl rfl ?_
  refine pd_putF 0 (lst' := [.inr (2, [.int 100, .int 10, .int 30, .int 20, .int 10, .int 4, .int 8, .int 0, .int 0, .int 0, .int 0, .ref (g.2.2.1 + (N0 + 1)), .ref (g.2.2.1 + (N0 + 2)), .null, .null, .null, .null, .null]), .inl (g.2.1 0, 4, .inl (fun _ => 0)), .inl (g.2.1 0, 4, .inl (fun _ => 0))]) d_X2_init_76 rfl rfl (Nat.le_of_ble_eq_true rfl) rfl rfl rfl ?_
  refine pm_ald d_X2_init_79 rfl ?_
  refine pm_ki d_X2_init_80 ?_
  refine pd_newa_int (nn := 12) (lst' := [.inr (2, [.int 100, .int 10, .int 30, .int 20, .int 10, .int 4, .int 8, .int 0, .int 0, .int 0, .int 0, .ref (g.2.2.1 + (N0 + 1)), .ref (g.2.2.1 + (N0 + 2)), .null, .null, .null, .null, .null]), .inl (g.2.1 0, 4, .inl (fun _ => 0)), .inl (g.2.1 0, 4, .inl (fun _ => 0)), .inl (g.2.1 0, 12, .inl (fun _ => 0))]) d_X2_init_82 (by decide) rfl (by decide) (Nat.le_of_ble_eq_true rfl) (Nat.le_of_ble_eq_true rfl) rfl rfl ?_
  refine pd_putF 0 (lst' := [.inr (2, [.int 100, .int 10, .int 30, .int 20, .int 10, .int 4, .int 8, .int 0, .int 0, .int 0, .int 0, .ref (g.2.2.1 + (N0 + 1)), .ref (g.2.2.1 + (N0 + 2)), .ref (g.2.2.1 + (N0 + 3)), .null, .null, .null, .null]), .inl (g.2.1 0, 4, .inl (fun _ => 0)), .inl (g.2.1 0, 4, .inl (fun _ => 0)), .inl (g.2.1 0, 12, .inl (fun _ => 0))]) d_X2_init_84 rfl rfl (Nat.le_of_ble_eq_true rfl) rfl rfl rfl ?_
  refine pm_ald d_X2_init_87 rfl ?_
  refine pm_ki d_X2_init_88 ?_
  refine pd_newa_int (nn := 6) (lst' := [.inr (2, [.int 100, .int 10, .int 30, .int 20, .int 10, .int 4, .int 8, .int 0, .int 0, .int 0, .int 0, .ref (g.2.2.1 + (N0 + 1)), .ref (g.2.2.1 + (N0 + 2)), .ref (g.2.2.1 + (N0 + 3)), .null, .null, .null, .null]), .inl (g.2.1 0, 4, .inl (fun _ => 0)), .inl (g.2.1 0, 4, .inl (fun _ => 0)), .inl (g.2.1 0, 12, .inl (fun _ => 0)), .inl (g.2.1 0, 6, .inl (fun _ => 0))]) d_X2_init_90 (by decide) rfl (by decide) (Nat.le_of_ble_eq_true rfl) (Nat.le_of_ble_eq_true rfl) rfl rfl ?_
  refine pd_putF 0 (lst' := [.inr (2, [.int 100, .int 10, .int 30, .int 20, .int 10, .int 4, .int 8, .int 0, .int 0, .int 0, .int 0, .ref (g.2.2.1 + (N0 + 1)), .ref (g.2.2.1 + (N0 + 2)), .ref (g.2.2.1 + (N0 + 3)), .ref (g.2.2.1 + (N0 + 4)), .null, .null, .null]), .inl (g.2.1 0, 4, .inl (fun _ => 0)), .inl (g.2.1 0, 4, .inl (fun _ => 0)), .inl (g.2.1 0, 12, .inl (fun _ => 0)), .inl (g.2.1 0, 6, .inl (fun _ => 0))]) d_X2_init_92 rfl rfl (Nat.le_of_ble_eq_true rfl) rfl rfl rfl ?_
  refine pm_ald d_X2_init_95 rfl ?_
  refine pm_ki d_X2_init_96 ?_
  refine pd_newa_int (nn := 6) (lst' := [.inr (2, [.int 100, .int 10, .int 30, .int 20, .int 10, .int 4, .int 8, .int 0, .int 0, .int 0, .int 0, .ref (g.2.2.1 + (N0 + 1)), .ref (g.2.2.1 + (N0 + 2)), .ref (g.2.2.1 + (N0 + 3)), .ref (g.2.2.1 + (N0 + 4)), .null, .null, .null]), .inl (g.2.1 0, 4, .inl (fun _ => 0)), .inl (g.2.1 0, 4, .inl (fun _ => 0)), .inl (g.2.1 0, 12, .inl (fun _ => 0)), .inl (g.2.1 0, 6, .inl (fun _ => 0)), .inl (g.2.1 0, 6, .inl (fun _ => 0))]) d_X2_init_98 (by decide) rfl (by decide) (Nat.le_of_ble_eq_true rfl) (Nat.le_of_ble_eq_true rfl) rfl rfl ?_
  refine pd_putF 0 (lst' := [.inr (2, [.int 100, .int 10, .int 30, .int 20, .int 10, .int 4, .int 8, .int 0, .int 0, .int 0, .int 0, .ref (g.2.2.1 + (N0 + 1)), .ref (g.2.2.1 + (N0 + 2)), .ref (g.2.2.1 + (N0 + 3)), .ref (g.2.2.1 + (N0 + 4)), .ref (g.2.2.1 + (N0 + 5)), .null, .null]), .inl (g.2.1 0, 4, .inl (fun _ => 0)), .inl (g.2.1 0, 4, .inl (fun _ => 0)), .inl (g.2.1 0, 12, .inl (fun _ => 0)), .inl (g.2.1 0, 6, .inl (fun _ => 0)), .inl (g.2.1 0, 6, .inl (fun _ => 0))]) d_X2_init_100 rfl rfl (Nat.le_of_ble_eq_true rfl) rfl rfl rfl ?_
  refine pm_ald d_X2_init_103 rfl ?_
  refine pm_ki d_X2_init_104 ?_
  refine pd_newa_int (nn := 6) (lst' := [.inr (2, [.int 100, .int 10, .int 30, .int 20, .int 10, .int 4, .int 8, .int 0, .int 0, .int 0, .int 0, .ref (g.2.2.1 + (N0 + 1)), .ref (g.2.2.1 + (N0 + 2)), .ref (g.2.2.1 + (N0 + 3)), .ref (g.2.2.1 + (N0 + 4)), .ref (g.2.2.1 + (N0 + 5)), .null, .null]), .inl (g.2.1 0, 4, .inl (fun _ => 0)), .inl (g.2.1 0, 4, .inl (fun _ => 0)), .inl (g.2.1 0, 12, .inl (fun _ => 0)), .inl (g.2.1 0, 6, .inl (fun _ => 0)), .inl (g.2.1 0, 6, .inl (fun _ => 0)), .inl (g.2.1 0, 6, .inl (fun _ => 0))]) d_X2_init_106 (by decide) rfl (by decide) (Nat.le_of_ble_eq_true rfl) (Nat.le_of_ble_eq_true rfl) rfl rfl ?_
  refine pd_putF 0 (lst' := [.inr (2, [.int 100, .int 10, .int 30, .int 20, .int 10, .int 4, .int 8, .int 0, .int 0, .int 0, .int 0, .ref (g.2.2.1 + (N0 + 1)), .ref (g.2.2.1 + (N0 + 2)), .ref (g.2.2.1 + (N0 + 3)), .ref (g.2.2.1 + (N0 + 4)), .ref (g.2.2.1 + (N0 + 5)), .ref (g.2.2.1 + (N0 + 6)), .null]), .inl (g.2.1 0, 4, .inl (fun _ => 0)), .inl (g.2.1 0, 4, .inl (fun _ => 0)), .inl (g.2.1 0, 12, .inl (fun _ => 0)), .inl (g.2.1 0, 6, .inl (fun _ => 0)), .inl (g.2.1 0, 6, .inl (fun _ => 0)), .inl (g.2.1 0, 6, .inl (fun _ => 0))]) d_X2_init_108 rfl rfl (Nat.le_of_ble_eq_true rfl) rfl rfl rfl ?_
  refine pm_ald d_X2_init_111 rfl ?_
  refine pd_neww (lst' := [.inr (2, [.int 100, .int 10, .int 30, .int 20, .int 10, .int 4, .int 8, .int 0, .int 0, .int 0, .int 0, .ref (g.2.2.1 + (N0 + 1)), .ref (g.2.2.1 + (N0 + 2)), .ref (g.2.2.1 + (N0 + 3)), .ref (g.2.2.1 + (N0 + 4)), .ref (g.2.2.1 + (N0 + 5)), .ref (g.2.2.1 + (N0 + 6)), .null]), .inl (g.2.1 0, 4, .inl (fun _ => 0)), .inl (g.2.1 0, 4, .inl (fun _ => 0)), .inl (g.2.1 0, 12, .inl (fun _ => 0)), .inl (g.2.1 0, 6, .inl (fun _ => 0)), .inl (g.2.1 0, 6, .inl (fun _ => 0)), .inl (g.2.1 0, 6, .inl (fun _ => 0)), .inr (3, [.null, .int 0, .int 0, .int 0, .int 0, .int 0])]) d_X2_init_112 (Nat.le_of_ble_eq_true rfl) (Nat.le_of_ble_eq_true rfl) rfl rfl ?_
  refine pm_dup d_X2_init_115 rfl ?_
  refine pd_callN (pre := [.inr (2, [.int 100, .int 10, .int 30, .int 20, .int 10, .int 4, .int 8, .int 0, .int 0, .int 0, .int 0, .ref (g.2.2.1 + (N0 + 1)), .ref (g.2.2.1 + (N0 + 2)), .ref (g.2.2.1 + (N0 + 3)), .ref (g.2.2.1 + (N0 + 4)), .ref (g.2.2.1 + (N0 + 5)), .ref (g.2.2.1 + (N0 + 6)), .null]), .inl (g.2.1 0, 4, .inl (fun _ => 0)), .inl (g.2.1 0, 4, .inl (fun _ => 0)), .inl (g.2.1 0, 12, .inl (fun _ => 0)), .inl (g.2.1 0, 6, .inl (fun _ => 0)), .inl (g.2.1 0, 6, .inl (fun _ => 0)), .inl (g.2.1 0, 6, .inl (fun _ => 0))]) (dfl := .inr (3, [.null, .int 0, .int 0, .int 0, .int 0, .int 0])) (post := [.inr (3, [.ref (g.2.2.1 + (N0 + 8)), .int 0, .int 0, .int 0, .int 0, .int 0]), .inl (g.2.1 0, 900, .inl (fun _ => 0))]) (As := []) (lst' := [.inr (2, [.int 100, .int 10, .int 30, .int 20, .int 10, .int 4, .int 8, .int 0, .int 0, .int 0, .int 0, .ref (g.2.2.1 + (N0 + 1)), .ref (g.2.2.1 + (N0 + 2)), .ref (g.2.2.1 + (N0 + 3)), .ref (g.2.2.1 + (N0 + 4)), .ref (g.2.2.1 + (N0 + 5)), .ref (g.2.2.1 + (N0 + 6)), .null]), .inl (g.2.1 0, 4, .inl (fun _ => 0)), .inl (g.2.1 0, 4, .inl (fun _ => 0)), .inl (g.2.1 0, 12, .inl (fun _ => 0)), .inl (g.2.1 0, 6, .inl (fun _ => 0)), .inl (g.2.1 0, 6, .inl (fun _ => 0)), .inl (g.2.1 0, 6, .inl (fun _ => 0)), .inr (3, [.ref (g.2.2.1 + (N0 + 8)), .int 0, .int 0, .int 0, .int 0, .int 0]), .inl (g.2.1 0, 900, .inl (fun _ => 0))]) d_X2_init_116 mi_X3_init rfl rfl rfl ⟨Nat.le_of_ble_eq_true rfl, Nat.le_of_ble_eq_true rfl⟩ ⟨Nat.le_of_ble_eq_true rfl, Nat.le_of_ble_eq_true rfl⟩ (Nat.le_of_ble_eq_true rfl) rfl (K_X3 (N0 + 7) _) rfl ?_
  refine pd_putF 0 (lst' := [.inr (2, [.int 100, .int 10, .int 30, .int 20, .int 10, .int 4, .int 8, .int 0, .int 0, .int 0, .int 0, .ref (g.2.2.1 + (N0 + 1)), .ref (g.2.2.1 + (N0 + 2)), .ref (g.2.2.1 + (N0 + 3)), .ref (g.2.2.1 + (N0 + 4)), .ref (g.2.2.1 + (N0 + 5)), .ref (g.2.2.1 + (N0 + 6)), .ref (g.2.2.1 + (N0 + 7))]), .inl (g.2.1 0, 4, .inl (fun _ => 0)), .inl (g.2.1 0, 4, .inl (fun _ => 0)), .inl (g.2.1 0, 12, .inl (fun _ => 0)), .inl (g.2.1 0, 6, .inl (fun _ => 0)), .inl (g.2.1 0, 6, .inl (fun _ => 0)), .inl (g.2.1 0, 6, .inl (fun _ => 0)), .inr (3, [.ref (g.2.2.1 + (N0 + 8)), .int 0, .int 0, .int 0, .int 0, .int 0]), .inl (g.2.1 0, 900, .inl (fun _ => 0))]) d_X2_init_119 rfl rfl (Nat.le_of_ble_eq_true rfl) rfl rfl rfl ?_
  exact pm_vret rfl d_X2_init_122 (by omega) (Nat.le_refl _) ⟨rfl, rfl⟩
set_option maxRecDepth 100000 in
theorem K_X1 {g : pm_G} (N0 : Nat) (E0 : pm_E)  : pm_C g mX1_init 1 9 36 [.ref (g.2.2.1 + N0)] (N0 + 1) (pd E0 N0 [.inr (1, [.null, .null, .null, .null, .null, .null, .null, .null, .null])]) (fun r E => r = none ∧ E = pd E0 N0 [.inr (1, [.ref (g.2.2.1 + (N0 + 1)), .ref (g.2.2.1 + (N0 + 2)), .ref (g.2.2.1 + (N0 + 3)), .ref (g.2.2.1 + (N0 + 4)), .ref (g.2.2.1 + (N0 + 5)), .ref (g.2.2.1 + (N0 + 6)), .ref (g.2.2.1 + (N0 + 7)), .ref (g.2.2.1 + (N0 + 8)), .ref (g.2.2.1 + (N0 + 9))]), .inl (g.2.1 0, 4, .inl (fun _ => 0)), .inl (g.2.1 0, 4, .inl (fun _ => 0)), .inl (g.2.1 0, 4, .inl (fun _ => 0)), .inl (g.2.1 0, 4, .inl (fun _ => 0)), .inl (g.2.1 4, 4, .inr (.inr (.inr (.inl (fun _ => 0))))), .inl (g.2.1 0, 4, .inl (fun _ => 0)), .inl (g.2.1 0, 4, .inl (fun _ => 0)), .inl (g.2.1 0, 4, .inl (fun _ => 0)), .inl (g.2.1 0, 4, .inl (fun _ => 0))]) := by
  refine pm_C.of (ls := [some (.ref (g.2.2.1 + N0))]) 0 (by decide) rfl (Nat.le_of_ble_eq_true rfl) rfl ?_
  refine pm_ald d_X1_init_0 rfl ?_
  refine pm_obj d_X1_init_1 (pd_roomO (by decide)) (Nat.le_of_ble_eq_true rfl) ?_
  refine pm_ald d_X1_init_4 rfl ?_
  refine pm_ki d_X1_init_5 ?_
  refine pd_newa_int (nn := 4) (lst' := [.inr (1, [.null, .null, .null, .null, .null, .null, .null, .null, .null]), .inl (g.2.1 0, 4, .inl (fun _ => 0))]) d_X1_init_6 (by decide) rfl (by decide) (Nat.le_of_ble_eq_true rfl) (Nat.le_of_ble_eq_true rfl) rfl rfl ?_
  refine pd_putF 0 (lst' := [.inr (1, [.ref (g.2.2.1 + (N0 + 1)), .null, .null, .null, .null, .null, .null, .null, .null]), .inl (g.2.1 0, 4, .inl (fun _ => 0))]) d_X1_init_8 rfl rfl (Nat.le_of_ble_eq_true rfl) rfl rfl rfl ?_
  refine pm_ald d_X1_init_11 rfl ?_
  refine pm_ki d_X1_init_12 ?_
  refine pd_newa_int (nn := 4) (lst' := [.inr (1, [.ref (g.2.2.1 + (N0 + 1)), .null, .null, .null, .null, .null, .null, .null, .null]), .inl (g.2.1 0, 4, .inl (fun _ => 0)), .inl (g.2.1 0, 4, .inl (fun _ => 0))]) d_X1_init_13 (by decide) rfl (by decide) (Nat.le_of_ble_eq_true rfl) (Nat.le_of_ble_eq_true rfl) rfl rfl ?_
  refine pd_putF 0 (lst' := [.inr (1, [.ref (g.2.2.1 + (N0 + 1)), .ref (g.2.2.1 + (N0 + 2)), .null, .null, .null, .null, .null, .null, .null]), .inl (g.2.1 0, 4, .inl (fun _ => 0)), .inl (g.2.1 0, 4, .inl (fun _ => 0))]) d_X1_init_15 rfl rfl (Nat.le_of_ble_eq_true rfl) rfl rfl rfl ?_
  refine pm_ald d_X1_init_18 rfl ?_
  refine pm_ki d_X1_init_19 ?_
  refine pd_newa_int (nn := 4) (lst' := [.inr (1, [.ref (g.2.2.1 + (N0 + 1)), .ref (g.2.2.1 + (N0 + 2)), .null, .null, .null, .null, .null, .null, .null]), .inl (g.2.1 0, 4, .inl (fun _ => 0)), .inl (g.2.1 0, 4, .inl (fun _ => 0)), .inl (g.2.1 0, 4, .inl (fun _ => 0))]) d_X1_init_20 (by decide) rfl (by decide) (Nat.le_of_ble_eq_true rfl) (Nat.le_of_ble_eq_true rfl) rfl rfl ?_
  refine pd_putF 0 (lst' := [.inr (1, [.ref (g.2.2.1 + (N0 + 1)), .ref (g.2.2.1 + (N0 + 2)), .ref (g.2.2.1 + (N0 + 3)), .null, .null, .null, .null, .null, .null]), .inl (g.2.1 0, 4, .inl (fun _ => 0)), .inl (g.2.1 0, 4, .inl (fun _ => 0)), .inl (g.2.1 0, 4, .inl (fun _ => 0))]) d_X1_init_22 rfl rfl (Nat.le_of_ble_eq_true rfl) rfl rfl rfl ?_
  refine pm_ald d_X1_init_25 rfl ?_
  refine pm_ki d_X1_init_26 ?_
  refine pd_newa_int (nn := 4) (lst' := [.inr (1, [.ref (g.2.2.1 + (N0 + 1)), .ref (g.2.2.1 + (N0 + 2)), .ref (g.2.2.1 + (N0 + 3)), .null, .null, .null, .null, .null, .null]), .inl (g.2.1 0, 4, .inl (fun _ => 0)), .inl (g.2.1 0, 4, .inl (fun _ => 0)), .inl (g.2.1 0, 4, .inl (fun _ => 0)), .inl (g.2.1 0, 4, .inl (fun _ => 0))]) d_X1_init_27 (by decide) rfl (by decide) (Nat.le_of_ble_eq_true rfl) (Nat.le_of_ble_eq_true rfl) rfl rfl ?_
  refine pd_putF 0 (lst' := [.inr (1, [.ref (g.2.2.1 + (N0 + 1)), .ref (g.2.2.1 + (N0 + 2)), .ref (g.2.2.1 + (N0 + 3)), .ref (g.2.2.1 + (N0 + 4)), .null, .null, .null, .null, .null]), .inl (g.2.1 0, 4, .inl (fun _ => 0)), .inl (g.2.1 0, 4, .inl (fun _ => 0)), .inl (g.2.1 0, 4, .inl (fun _ => 0)), .inl (g.2.1 0, 4, .inl (fun _ => 0))]) d_X1_init_29 rfl rfl (Nat.le_of_ble_eq_true rfl) rfl rfl rfl ?_
  refine pm_ald d_X1_init_32 rfl ?_
  refine pm_ki d_X1_init_33 ?_
  refine pd_newa_double (nn := 4) (lst' := [.inr (1, [.ref (g.2.2.1 + (N0 + 1)), .ref (g.2.2.1 + (N0 + 2)), .ref (g.2.2.1 + (N0 + 3)), .ref (g.2.2.1 + (N0 + 4)), .null, .null, .null, .null, .null]), .inl (g.2.1 0, 4, .inl (fun _ => 0)), .inl (g.2.1 0, 4, .inl (fun _ => 0)), .inl (g.2.1 0, 4, .inl (fun _ => 0)), .inl (g.2.1 0, 4, .inl (fun _ => 0)), .inl (g.2.1 4, 4, .inr (.inr (.inr (.inl (fun _ => 0)))))]) d_X1_init_34 (by decide) rfl (by decide) (Nat.le_of_ble_eq_true rfl) (Nat.le_of_ble_eq_true rfl) rfl rfl ?_
  refine pd_putF 0 (lst' := [.inr (1, [.ref (g.2.2.1 + (N0 + 1)), .ref (g.2.2.1 + (N0 + 2)), .ref (g.2.2.1 + (N0 + 3)), .ref (g.2.2.1 + (N0 + 4)), .ref (g.2.2.1 + (N0 + 5)), .null, .null, .null, .null]), .inl (g.2.1 0, 4, .inl (fun _ => 0)), .inl (g.2.1 0, 4, .inl (fun _ => 0)), .inl (g.2.1 0, 4, .inl (fun _ => 0)), .inl (g.2.1 0, 4, .inl (fun _ => 0)), .inl (g.2.1 4, 4, .inr (.inr (.inr (.inl (fun _ => 0)))))]) d_X1_init_36 rfl rfl (Nat.le_of_ble_eq_true rfl) rfl rfl rfl ?_
  refine pm_ald d_X1_init_39 rfl ?_
  refine pm_ki d_X1_init_40 ?_
  refine pd_newa_int (nn := 4) (lst' := [.inr (1, [.ref (g.2.2.1 + (N0 + 1)), .ref (g.2.2.1 + (N0 + 2)), .ref (g.2.2.1 + (N0 + 3)), .ref (g.2.2.1 + (N0 + 4)), .ref (g.2.2.1 + (N0 + 5)), .null, .null, .null, .null]), .inl (g.2.1 0, 4, .inl (fun _ => 0)), .inl (g.2.1 0, 4, .inl (fun _ => 0)), .inl (g.2.1 0, 4, .inl (fun _ => 0)), .inl (g.2.1 0, 4, .inl (fun _ => 0)), .inl (g.2.1 4, 4, .inr (.inr (.inr (.inl (fun _ => 0))))), .inl (g.2.1 0, 4, .inl (fun _ => 0))]) d_X1_init_41 (by decide) rfl (by decide) (Nat.le_of_ble_eq_true rfl) (Nat.le_of_ble_eq_true rfl) rfl rfl ?_
  refine pd_putF 0 (lst' := [.inr (1, [.ref (g.2.2.1 + (N0 + 1)), .ref (g.2.2.1 + (N0 + 2)), .ref (g.2.2.1 + (N0 + 3)), .ref (g.2.2.1 + (N0 + 4)), .ref (g.2.2.1 + (N0 + 5)), .ref (g.2.2.1 + (N0 + 6)), .null, .null, .null]), .inl (g.2.1 0, 4, .inl (fun _ => 0)), .inl (g.2.1 0, 4, .inl (fun _ => 0)), .inl (g.2.1 0, 4, .inl (fun _ => 0)), .inl (g.2.1 0, 4, .inl (fun _ => 0)), .inl (g.2.1 4, 4, .inr (.inr (.inr (.inl (fun _ => 0))))), .inl (g.2.1 0, 4, .inl (fun _ => 0))]) d_X1_init_43 rfl rfl (Nat.le_of_ble_eq_true rfl) rfl rfl rfl ?_
  refine pm_ald d_X1_init_46 rfl ?_
  refine pm_ki d_X1_init_47 ?_
  refine pd_newa_int (nn := 4) (lst' := [.inr (1, [.ref (g.2.2.1 + (N0 + 1)), .ref (g.2.2.1 + (N0 + 2)), .ref (g.2.2.1 + (N0 + 3)), .ref (g.2.2.1 + (N0 + 4)), .ref (g.2.2.1 + (N0 + 5)), .ref (g.2.2.1 + (N0 + 6)), .null, .null, .null]), .inl (g.2.1 0, 4, .inl (fun _ => 0)), .inl (g.2.1 0, 4, .inl (fun _ => 0)), .inl (g.2.1 0, 4, .inl (fun _ => 0)), .inl (g.2.1 0, 4, .inl (fun _ => 0)), .inl (g.2.1 4, 4, .inr (.inr (.inr (.inl (fun _ => 0))))), .inl (g.2.1 0, 4, .inl (fun _ => 0)), .inl (g.2.1 0, 4, .inl (fun _ => 0))]) d_X1_init_48 (by decide) rfl (by decide) (Nat.le_of_ble_eq_true rfl) (Nat.le_of_ble_eq_true rfl) rfl rfl ?_
  refine pd_putF 0 (lst' := [.inr (1, [.ref (g.2.2.1 + (N0 + 1)), .ref (g.2.2.1 + (N0 + 2)), .ref (g.2.2.1 + (N0 + 3)), .ref (g.2.2.1 + (N0 + 4)), .ref (g.2.2.1 + (N0 + 5)), .ref (g.2.2.1 + (N0 + 6)), .ref (g.2.2.1 + (N0 + 7)), .null, .null]), .inl (g.2.1 0, 4, .inl (fun _ => 0)), .inl (g.2.1 0, 4, .inl (fun _ => 0)), .inl (g.2.1 0, 4, .inl (fun _ => 0)), .inl (g.2.1 0, 4, .inl (fun _ => 0)), .inl (g.2.1 4, 4, .inr (.inr (.inr (.inl (fun _ => 0))))), .inl (g.2.1 0, 4, .inl (fun _ => 0)), .inl (g.2.1 0, 4, .inl (fun _ => 0))]) d_X1_init_50 rfl rfl (Nat.le_of_ble_eq_true rfl) rfl rfl rfl ?_
  refine pm_ald d_X1_init_53 rfl ?_
  refine pm_ki d_X1_init_54 ?_
  refine pd_newa_int (nn := 4) (lst' := [.inr (1, [.ref (g.2.2.1 + (N0 + 1)), .ref (g.2.2.1 + (N0 + 2)), .ref (g.2.2.1 + (N0 + 3)), .ref (g.2.2.1 + (N0 + 4)), .ref (g.2.2.1 + (N0 + 5)), .ref (g.2.2.1 + (N0 + 6)), .ref (g.2.2.1 + (N0 + 7)), .null, .null]), .inl (g.2.1 0, 4, .inl (fun _ => 0)), .inl (g.2.1 0, 4, .inl (fun _ => 0)), .inl (g.2.1 0, 4, .inl (fun _ => 0)), .inl (g.2.1 0, 4, .inl (fun _ => 0)), .inl (g.2.1 4, 4, .inr (.inr (.inr (.inl (fun _ => 0))))), .inl (g.2.1 0, 4, .inl (fun _ => 0)), .inl (g.2.1 0, 4, .inl (fun _ => 0)), .inl (g.2.1 0, 4, .inl (fun _ => 0))]) d_X1_init_55 (by decide) rfl (by decide) (Nat.le_of_ble_eq_true rfl) (Nat.le_of_ble_eq_true rfl) rfl rfl ?_
  refine pd_putF 0 (lst' := [.inr (1, [.ref (g.2.2.1 + (N0 + 1)), .ref (g.2.2.1 + (N0 + 2)), .ref (g.2.2.1 + (N0 + 3)), .ref (g.2.2.1 + (N0 + 4)), .ref (g.2.2.1 + (N0 + 5)), .ref (g.2.2.1 + (N0 + 6)), .ref (g.2.2.1 + (N0 + 7)), .ref (g.2.2.1 + (N0 + 8)), .null]), .inl (g.2.1 0, 4, .inl (fun _ => 0)), .inl (g.2.1 0, 4, .inl (fun _ => 0)), .inl (g.2.1 0, 4, .inl (fun _ => 0)), .inl (g.2.1 0, 4, .inl (fun _ => 0)), .inl (g.2.1 4, 4, .inr (.inr (.inr (.inl (fun _ => 0))))), .inl (g.2.1 0, 4, .inl (fun _ => 0)), .inl (g.2.1 0, 4, .inl (fun _ => 0)), .inl (g.2.1 0, 4, .inl (fun _ => 0))]) d_X1_init_57 rfl rfl (Nat.le_of_ble_eq_true rfl) rfl rfl rfl ?_
  refine pm_ald d_X1_init_60 rfl ?_
  refine pm_ki d_X1_init_61 ?_
  refine pd_newa_int (nn := 4) (lst' := [.inr (1, [.ref (g.2.2.1 + (N0 + 1)), .ref (g.2.2.1 + (N0 + 2)), .ref (g.2.2.1 + (N0 + 3)), .ref (g.2.2.1 + (N0 + 4)), .ref (g.2.2.1 + (N0 + 5)), .ref (g.2.2.1 + (N0 + 6)), .ref (g.2.2.1 + (N0 + 7)), .ref (g.2.2.1 + (N0 + 8)), .null]), .inl (g.2.1 0, 4, .inl (fun _ => 0)), .inl (g.2.1 0, 4, .inl (fun _ => 0)), .inl (g.2.1 0, 4, .inl (fun _ => 0)), .inl (g.2.1 0, 4, .inl (fun _ => 0)), .inl (g.2.1 4, 4, .inr (.inr (.inr (.inl (fun _ => 0))))), .inl (g.2.1 0, 4, .inl (fun _ => 0)), .inl (g.2.1 0, 4, .inl (fun _ => 0)), .inl (g.2.1 0, 4, .inl (fun _ => 0)), .inl (g.2.1 0, 4, .inl (fun _ => 0))]) d_X1_init_62 (by decide) rfl (by decide) (Nat.le_of_ble_eq_true rfl) (Nat.le_of_ble_eq_true rfl) rfl rfl ?_
  refine pd_putF 0 (lst' := [.inr (1, [.ref (g.2.2.1 + (N0 + 1)), .ref (g.2.2.1 + (N0 + 2)), .ref (g.2.2.1 + (N0 + 3)), .ref (g.2.2.1 + (N0 + 4)), .ref (g.2.2.1 + (N0 + 5)), .ref (g.2.2.1 + (N0 + 6)), .ref (g.2.2.1 + (N0 + 7)), .ref (g.2.2.1 + (N0 + 8)), .ref (g.2.2.1 + (N0 + 9))]), .inl (g.2.1 0, 4, .inl (fun _ => 0)), .inl (g.2.1 0, 4, .inl (fun _ => 0)), .inl (g.2.1 0, 4, .inl (fun _ => 0)), .inl (g.2.1 0, 4, .inl (fun _ => 0)), .inl (g.2.1 4, 4, .inr (.inr (.inr (.inl (fun _ => 0))))), .inl (g.2.1 0, 4, .inl (fun _ => 0)), .inl (g.2.1 0, 4, .inl (fun _ => 0)), .inl (g.2.1 0, 4, .inl (fun _ => 0)), .inl (g.2.1 0, 4, .inl (fun _ => 0))]) d_X1_init_64 rfl rfl (Nat.le_of_ble_eq_true rfl) rfl rfl rfl ?_
  exact pm_vret rfl d_X1_init_67 (by omega) (Nat.le_refl _) ⟨rfl, rfl⟩
set_option maxRecDepth 100000 in
theorem K_X6 {g : pm_G} (N0 : Nat) (E0 : pm_E)  : pm_C g mX6_init 2 17 99 [.ref (g.2.2.1 + N0)] (N0 + 1) (pd E0 N0 [.inr (6, [.null, .null, .null, .null, .null, .null, .null, .null, .int 0, .int 0, .int 0, .int 0, .int 0, .int 0])]) (fun r E => r = none ∧ E = pd E0 N0 [.inr (6, [.ref (g.2.2.1 + (N0 + 1)), .ref (g.2.2.1 + (N0 + 11)), .ref (g.2.2.1 + (N0 + 12)), .ref (g.2.2.1 + (N0 + 13)), .ref (g.2.2.1 + (N0 + 14)), .ref (g.2.2.1 + (N0 + 15)), .ref (g.2.2.1 + (N0 + 16)), .ref (g.2.2.1 + (N0 + 17)), .int 0, .int 0, .int 0, .int (-1), .int (-1), .int 0]), .inr (1, [.ref (g.2.2.1 + (N0 + 2)), .ref (g.2.2.1 + (N0 + 3)), .ref (g.2.2.1 + (N0 + 4)), .ref (g.2.2.1 + (N0 + 5)), .ref (g.2.2.1 + (N0 + 6)), .ref (g.2.2.1 + (N0 + 7)), .ref (g.2.2.1 + (N0 + 8)), .ref (g.2.2.1 + (N0 + 9)), .ref (g.2.2.1 + (N0 + 10))]), .inl (g.2.1 0, 4, .inl (fun _ => 0)), .inl (g.2.1 0, 4, .inl (fun _ => 0)), .inl (g.2.1 0, 4, .inl (fun _ => 0)), .inl (g.2.1 0, 4, .inl (fun _ => 0)), .inl (g.2.1 4, 4, .inr (.inr (.inr (.inl (fun _ => 0))))), .inl (g.2.1 0, 4, .inl (fun _ => 0)), .inl (g.2.1 0, 4, .inl (fun _ => 0)), .inl (g.2.1 0, 4, .inl (fun _ => 0)), .inl (g.2.1 0, 4, .inl (fun _ => 0)), .inl (g.2.1 0, 12, .inl (fun _ => 0)), .inl (g.2.1 0, 12, .inl (fun _ => 0)), .inl (g.2.1 0, 6, .inl (fun _ => 0)), .inl (g.2.1 0, 6, .inl (fun _ => 0)), .inl (g.2.1 0, 6, .inl (fun _ => 0)), .inl (g.2.1 0, 6, .inl (fun _ => 0)), .inl (g.2.1 0, 6, .inl (fun _ => 0))]) := by
  refine pm_C.of (ls := [some (.ref (g.2.2.1 + N0))]) 0 (by decide) rfl (Nat.le_of_ble_eq_true rfl) rfl ?_
  refine pm_ald d_X6_init_0 rfl ?_
  refine pm_obj d_X6_init_1 (pd_roomO (by decide)) (Nat.le_of_ble_eq_true rfl) ?_
  refine pm_ald d_X6_init_4 rfl ?_
  refine pd_neww (lst' := [.inr (6, [.null, .null, .null, .null, .null, .null, .null, .null, .int 0, .int 0, .int 0, .int 0, .int 0, .int 0]), .inr (1, [.null, .null, .null, .null, .null, .null, .null, .null, .null])]) d_X6_init_5 (Nat.le_of_ble_eq_true rfl) (Nat.le_of_ble_eq_true rfl) rfl rfl ?_
  refine pm_dup d_X6_init_8 rfl ?_
  refine pd_callN (pre := [.inr (6, [.null, .null, .null, .null, .null, .null, .null, .null, .int 0, .int 0, .int 0, .int 0, .int 0, .int 0])]) (dfl := .inr (1, [.null, .null, .null, .null, .null, .null, .null, .null, .null])) (post := [.inr (1, [.ref (g.2.2.1 + (N0 + 2)), .ref (g.2.2.1 + (N0 + 3)), .ref (g.2.2.1 + (N0 + 4)), .ref (g.2.2.1 + (N0 + 5)), .ref (g.2.2.1 + (N0 + 6)), .ref (g.2.2.1 + (N0 + 7)), .ref (g.2.2.1 + (N0 + 8)), .ref (g.2.2.1 + (N0 + 9)), .ref (g.2.2.1 + (N0 + 10))]), .inl (g.2.1 0, 4, .inl (fun _ => 0)), .inl (g.2.1 0, 4, .inl (fun _ => 0)), .inl (g.2.1 0, 4, .inl (fun _ => 0)), .inl (g.2.1 0, 4, .inl (fun _ => 0)), .inl (g.2.1 4, 4, .inr (.inr (.inr (.inl (fun _ => 0))))), .inl (g.2.1 0, 4, .inl (fun _ => 0)), .inl (g.2.1 0, 4, .inl (fun _ => 0)), .inl (g.2.1 0, 4, .inl (fun _ => 0)), .inl (g.2.1 0, 4, .inl (fun _ => 0))]) (As := []) (lst' := [.inr (6, [.null, .null, .null, .null, .null, .null, .null, .null, .int 0, .int 0, .int 0, .int 0, .int 0, .int 0]), .inr (1, [.ref (g.2.2.1 + (N0 + 2)), .ref (g.2.2.1 + (N0 + 3)), .ref (g.2.2.1 + (N0 + 4)), .ref (g.2.2.1 + (N0 + 5)), .ref (g.2.2.1 + (N0 + 6)), .ref (g.2.2.1 + (N0 + 7)), .ref (g.2.2.1 + (N0 + 8)), .ref (g.2.2.1 + (N0 + 9)), .ref (g.2.2.1 + (N0 + 10))]), .inl (g.2.1 0, 4, .inl (fun _ => 0)), .inl (g.2.1 0, 4, .inl (fun _ => 0)), .inl (g.2.1 0, 4, .inl (fun _ => 0)), .inl (g.2.1 0, 4, .inl (fun _ => 0)), .inl (g.2.1 4, 4, .inr (.inr (.inr (.inl (fun _ => 0))))), .inl (g.2.1 0, 4, .inl (fun _ => 0)), .inl (g.2.1 0, 4, .inl (fun _ => 0)), .inl (g.2.1 0, 4, .inl (fun _ => 0)), .inl (g.2.1 0, 4, .inl (fun _ => 0))]) d_X6_init_9 mi_X1_init rfl rfl rfl ⟨Nat.le_of_ble_eq_true rfl, Nat.le_of_ble_eq_true rfl⟩ ⟨Nat.le_of_ble_eq_true rfl, Nat.le_of_ble_eq_true rfl⟩ (Nat.le_of_ble_eq_true rfl) rfl (K_X1 (N0 + 1) _) rfl ?_
  refine pd_putF 0 (lst' := [.inr (6, [.ref (g.2.2.1 + (N0 + 1)), .null, .null, .null, .null, .null, .null, .null, .int 0, .int 0, .int 0, .int 0, .int 0, .int 0]), .inr (1, [.ref (g.2.2.1 + (N0 + 2)), .ref (g.2.2.1 + (N0 + 3)), .ref (g.2.2.1 + (N0 + 4)), .ref (g.2.2.1 + (N0 + 5)), .ref (g.2.2.1 + (N0 + 6)), .ref (g.2.2.1 + (N0 + 7)), .ref (g.2.2.1 + (N0 + 8)), .ref (g.2.2.1 + (N0 + 9)), .ref (g.2.2.1 + (N0 + 10))]), .inl (g.2.1 0, 4, .inl (fun _ => 0)), .inl (g.2.1 0, 4, .inl (fun _ => 0)), .inl (g.2.1 0, 4, .inl (fun _ => 0)), .inl (g.2.1 0, 4, .inl (fun _ => 0)), .inl (g.2.1 4, 4, .inr (.inr (.inr (.inl (fun _ => 0))))), .inl (g.2.1 0, 4, .inl (fun _ => 0)), .inl (g.2.1 0, 4, .inl (fun _ => 0)), .inl (g.2.1 0, 4, .inl (fun _ => 0)), .inl (g.2.1 0, 4, .inl (fun _ => 0))]) d_X6_init_12 rfl rfl (Nat.le_of_ble_eq_true rfl) rfl rfl rfl ?_
  refine pm_ald d_X6_init_15 rfl ?_
  refine pm_ki d_X6_init_16 ?_
  refine pd_newa_int (nn := 12) (lst' := [.inr (6, [.ref (g.2.2.1 + (N0 + 1)), .null, .null, .null, .null, .null, .null, .null, .int 0, .int 0, .int 0, .int 0, .int 0, .int 0]), .inr (1, [.ref (g.2.2.1 + (N0 + 2)), .ref (g.2.2.1 + (N0 + 3)), .ref (g.2.2.1 + (N0 + 4)), .ref (g.2.2.1 + (N0 + 5)), .ref (g.2.2.1 + (N0 + 6)), .ref (g.2.2.1 + (N0 + 7)), .ref (g.2.2.1 + (N0 + 8)), .ref (g.2.2.1 + (N0 + 9)), .ref (g.2.2.1 + (N0 + 10))]), .inl (g.2.1 0, 4, .inl (fun _ => 0)), .inl (g.2.1 0, 4, .inl (fun _ => 0)), .inl (g.2.1 0, 4, .inl (fun _ => 0)), .inl (g.2.1 0, 4, .inl (fun _ => 0)), .inl (g.2.1 4, 4, .inr (.inr (.inr (.inl (fun _ => 0))))), .inl (g.2.1 0, 4, .inl (fun _ => 0)), .inl (g.2.1 0, 4, .inl (fun _ => 0)), .inl (g.2.1 0, 4, .inl (fun _ => 0)), .inl (g.2.1 0, 4, .inl (fun _ => 0)), .inl (g.2.1 0, 12, .inl (fun _ => 0))]) d_X6_init_18 (by decide) rfl (by decide) (Nat.le_of_ble_eq_true rfl) (Nat.le_of_ble_eq_true rfl) rfl rfl ?_
  refine pd_putF 0 (lst' := [.inr (6, [.ref (g.2.2.1 + (N0 + 1)), .ref (g.2.2.1 + (N0 + 11)), .null, .null, .null, .null, .null, .null, .int 0, .int 0, .int 0, .int 0, .int 0, .int 0]), .inr (1, [.ref (g.2.2.1 + (N0 + 2)), .ref (g.2.2.1 + (N0 + 3)), .ref (g.2.2.1 + (N0 + 4)), .ref (g.2.2.1 + (N0 + 5)), .ref (g.2.2.1 + (N0 + 6)), .ref (g.2.2.1 + (N0 + 7)), .ref (g.2.2.1 + (N0 + 8)), .ref (g.2.2.1 + (N0 + 9)), .ref (g.2.2.1 + (N0 + 10))]), .inl (g.2.1 0, 4, .inl (fun _ => 0)), .inl (g.2.1 0, 4, .inl (fun _ => 0)), .inl (g.2.1 0, 4, .inl (fun _ => 0)), .inl (g.2.1 0, 4, .inl (fun _ => 0)), .inl (g.2.1 4, 4, .inr (.inr (.inr (.inl (fun _ => 0))))), .inl (g.2.1 0, 4, .inl (fun _ => 0)), .inl (g.2.1 0, 4, .inl (fun _ => 0)), .inl (g.2.1 0, 4, .inl (fun _ => 0)), .inl (g.2.1 0, 4, .inl (fun _ => 0)), .inl (g.2.1 0, 12, .inl (fun _ => 0))]) d_X6_init_20 rfl rfl (Nat.le_of_ble_eq_true rfl) rfl rfl rfl ?_
  refine pm_ald d_X6_init_23 rfl ?_
  refine pm_ki d_X6_init_24 ?_
  refine pd_newa_int (nn := 12) (lst' := [.inr (6, [.ref (g.2.2.1 + (N0 + 1)), .ref (g.2.2.1 + (N0 + 11)), .null, .null, .null, .null, .null, .null, .int 0, .int 0, .int 0, .int 0, .int 0, .int 0]), .inr (1, [.ref (g.2.2.1 + (N0 + 2)), .ref (g.2.2.1 + (N0 + 3)), .ref (g.2.2.1 + (N0 + 4)), .ref (g.2.2.1 + (N0 + 5)), .ref (g.2.2.1 + (N0 + 6)), .ref (g.2.2.1 + (N0 + 7)), .ref (g.2.2.1 + (N0 + 8)), .ref (g.2.2.1 + (N0 + 9)), .ref (g.2.2.1 + (N0 + 10))]), .inl (g.2.1 0, 4, .inl (fun _ => 0)), .inl (g.2.1 0, 4, .inl (fun _ => 0)), .inl (g.2.1 0, 4, .inl (fun _ => 0)), .inl (g.2.1 0, 4, .inl (fun _ => 0)), .inl (g.2.1 4, 4, .inr (.inr (.inr (.inl (fun _ => 0))))), .inl (g.2.1 0, 4, .inl (fun _ => 0)), .inl (g.2.1 0, 4, .inl (fun _ => 0)), .inl (g.2.1 0, 4, .inl (fun _ => 0)), .inl (g.2.1 0, 4, .inl (fun _ => 0)), .inl (g.2.1 0, 12, .inl (fun _ => 0)), .inl (g.2.1 0, 12, .inl (fun _ => 0))]) d_X6_init_26 (by decide) rfl (by decide) (Nat.le_of_ble_eq_true rfl) (Nat.le_of_ble_eq_true rfl) rfl rfl ?_
  refine pd_putF 0 (lst' := [.inr (6, [.ref (g.2.2.1 + (N0 + 1)), .ref (g.2.2.1 + (N0 + 11)), .ref (g.2.2.1 + (N0 + 12)), .null, .null, .null, .null, .null, .int 0, .int 0, .int 0, .int 0, .int 0, .int 0]), .inr (1, [.ref (g.2.2.1 + (N0 + 2)), .ref (g.2.2.1 + (N0 + 3)), .ref (g.2.2.1 + (N0 + 4)), .ref (g.2.2.1 + (N0 + 5)), .ref (g.2.2.1 + (N0 + 6)), .ref (g.2.2.1 + (N0 + 7)), .ref (g.2.2.1 + (N0 + 8)), .ref (g.2.2.1 + (N0 + 9)), .ref (g.2.2.1 + (N0 + 10))]), .inl (g.2.1 0, 4, .inl (fun _ => 0)), .inl (g.2.1 0, 4, .inl (fun _ => 0)), .inl (g.2.1 0, 4, .inl (fun _ => 0)), .inl (g.2.1 0, 4, .inl (fun _ => 0)), .inl (g.2.1 4, 4, .inr (.inr (.inr (.inl (fun _ => 0))))), .inl (g.2.1 0, 4, .inl (fun _ => 0)), .inl (g.2.1 0, 4, .inl (fun _ => 0)), .inl (g.2.1 0, 4, .inl (fun _ => 0)), .inl (g.2.1 0, 4, .inl (fun _ => 0)), .inl (g.2.1 0, 12, .inl (fun _ => 0)), .inl (g.2.1 0, 12, .inl (fun _ => 0))]) d_X6_init_28 rfl rfl (Nat.le_of_ble_eq_true rfl) rfl rfl rfl ?_
  refine pm_ald d_X6_init_31 rfl ?_
  refine pm_ki d_X6_init_32 ?_
  refine pd_newa_int (nn := 6) (lst' := [.inr (6, [.ref (g.2.2.1 + (N0 + 1)), .ref (g.2.2.1 + (N0 + 11)), .ref (g.2.2.1 + (N0 + 12)), .null, .null, .null, .null, .null, .int 0, .int 0, .int 0, .int 0, .int 0, .int 0]), .inr (1, [.ref (g.2.2.1 + (N0 + 2)), .ref (g.2.2.1 + (N0 + 3)), .ref (g.2.2.1 + (N0 + 4)), .ref (g.2.2.1 + (N0 + 5)), .ref (g.2.2.1 + (N0 + 6)), .ref (g.2.2.1 + (N0 + 7)), .ref (g.2.2.1 + (N0 + 8)), .ref (g.2.2.1 + (N0 + 9)), .ref (g.2.2.1 + (N0 + 10))]), .inl (g.2.1 0, 4, .inl (fun _ => 0)), .inl (g.2.1 0, 4, .inl (fun _ => 0)), .inl (g.2.1 0, 4, .inl (fun _ => 0)), .inl (g.2.1 0, 4, .inl (fun _ => 0)), .inl (g.2.1 4, 4, .inr (.inr (.inr (.inl (fun _ => 0))))), .inl (g.2.1 0, 4, .inl (fun _ => 0)), .inl (g.2.1 0, 4, .inl (fun _ => 0)), .inl (g.2.1 0, 4, .inl (fun _ => 0)), .inl (g.2.1 0, 4, .inl (fun _ => 0)), .inl (g.2.1 0, 12, .inl (fun _ => 0)), .inl (g.2.1 0, 12, .inl (fun _ => 0)), .inl (g.2.1 0, 6, .inl (fun _ => 0))]) d_X6_init_34 (by decide) rfl (by decide) (Nat.le_of_ble_eq_true rfl) (Nat.le_of_ble_eq_true rfl) rfl rfl ?_
  refine pd_putF 0 (lst' := [.inr (6, [.ref (g.2.2.1 + (N0 + 1)), .ref (g.2.2.1 + (N0 + 11)), .ref (g.2.2.1 + (N0 + 12)), .ref (g.2.2.1 + (N0 + 13)), .null, .null, .null, .null, .int 0, .int 0, .int 0, .int 0, .int 0, .int 0]), .inr (1, [.ref (g.2.2.1 + (N0 + 2)), .ref (g.2.2.1 + (N0 + 3)), .ref (g.2.2.1 + (N0 + 4)), .ref (g.2.2.1 + (N0 + 5)), .ref (g.2.2.1 + (N0 + 6)), .ref (g.2.2.1 + (N0 + 7)), .ref (g.2.2.1 + (N0 + 8)), .ref (g.2.2.1 + (N0 + 9)), .ref (g.2.2.1 + (N0 + 10))]), .inl (g.2.1 0, 4, .inl (fun _ => 0)), .inl (g.2.1 0, 4, .inl (fun _ => 0)), .inl (g.2.1 0, 4, .inl (fun _ => 0)), .inl (g.2.1 0, 4, .inl (fun _ => 0)), .inl (g.2.1 4, 4, .inr (.inr (.inr (.inl (fun _ => 0))))), .inl (g.2.1 0, 4, .inl (fun _ => 0)), .inl (g.2.1 0, 4, .inl (fun _ => 0)), .inl (g.2.1 0, 4, .inl (fun _ => 0)), .inl (g.2.1 0, 4, .inl (fun _ => 0)), .inl (g.2.1 0, 12, .inl (fun _ => 0)), .inl (g.2.1 0, 12, .inl (fun _ => 0)), .inl (g.2.1 0, 6, .inl (fun _ => 0))]) d_X6_init_36 rfl rfl (Nat.le_of_ble_eq_true rfl) rfl rfl rfl ?_
  refine pm_ald d_X6_init_39 rfl ?_
  refine pm_ki d_X6_init_40 ?_
  refine pd_newa_int (nn := 6) (lst' := [.inr (6, [.ref (g.2.2.1 + (N0 + 1)), .ref (g.2.2.1 + (N0 + 11)), .ref (g.2.2.1 + (N0 + 12)), .ref (g.2.2.1 + (N0 + 13)), .null, .null, .null, .null, .int 0, .int 0, .int 0, .int 0, .int 0, .int 0]), .inr (1, [.ref (g.2.2.1 + (N0 + 2)), .ref (g.2.2.1 + (N0 + 3)), .ref (g.2.2.1 + (N0 + 4)), .ref (g.2.2.1 + (N0 + 5)), .ref (g.2.2.1 + (N0 + 6)), .ref (g.2.2.1 + (N0 + 7)), .ref (g.2.2.1 + (N0 + 8)), .ref (g.2.2.1 + (N0 + 9)), .ref (g.2.2.1 + (N0 + 10))]), .inl (g.2.1 0, 4, .inl (fun _ => 0)), .inl (g.2.1 0, 4, .inl (fun _ => 0)), .inl (g.2.1 0, 4, .inl (fun _ => 0)), .inl (g.2.1 0, 4, .inl (fun _ => 0)), .inl (g.2.1 4, 4, .inr (.inr (.inr (.inl (fun _ => 0))))), .inl (g.2.1 0, 4, .inl (fun _ => 0)), .inl (g.2.1 0, 4, .inl (fun _ => 0)), .inl (g.2.1 0, 4, .inl (fun _ => 0)), .inl (g.2.1 0, 4, .inl (fun _ => 0)), .inl (g.2.1 0, 12, .inl (fun _ => 0)), .inl (g.2.1 0, 12, .inl (fun _ => 0)), .inl (g.2.1 0, 6, .inl (fun _ => 0)), .inl (g.2.1 0, 6, .inl (fun _ => 0))]) d_X6_init_42 (by decide) rfl (by decide) (Nat.le_of_ble_eq_true rfl) (Nat.le_of_ble_eq_true rfl) rfl rfl ?_
  refine pd_putF 0 (lst' := [.inr (6, [.ref (g.2.2.1 + (N0 + 1)), .ref (g.2.2.1 + (N0 + 11)), .ref (g.2.2.1 + (N0 + 12)), .ref (g.2.2.1 + (N0 + 13)), .ref (g.2.2.1 + (N0 + 14)), .null, .null, .null, .int 0, .int 0, .int 0, .int 0, .int 0, .int 0]), .inr (1, [.ref (g.2.2.1 + (N0 + 2)), .ref (g.2.2.1 + (N0 + 3)), .ref (g.2.2.1 + (N0 + 4)), .ref (g.2.2.1 + (N0 + 5)), .ref (g.2.2.1 + (N0 + 6)), .ref (g.2.2.1 + (N0 + 7)), .ref (g.2.2.1 + (N0 + 8)), .ref (g.2.2.1 + (N0 + 9)), .ref (g.2.2.1 + (N0 + 10))]), .inl (g.2.1 0, 4, .inl (fun _ => 0)), .inl (g.2.1 0, 4, .inl (fun _ => 0)), .inl (g.2.1 0, 4, .inl (fun _ => 0)), .inl (g.2.1 0, 4, .inl (fun _ => 0)), .inl (g.2.1 4, 4, .inr (.inr (.inr (.inl (fun _ => 0))))), .inl (g.2.1 0, 4, .inl (fun _ => 0)), .inl (g.2.1 0, 4, .inl (fun _ => 0)), .inl (g.2.1 0, 4, .inl (fun _ => 0)), .inl (g.2.1 0, 4, .inl (fun _ => 0)), .inl (g.2.1 0, 12, .inl (fun _ => 0)), .inl (g.2.1 0, 12, .inl (fun _ => 0)), .inl (g.2.1 0, 6, .inl (fun _ => 0)), .inl (g.2.1 0, 6, .inl (fun _ => 0))]) d_X6_init_44 rfl rfl (Nat.le_of_ble_eq_true rfl) rfl rfl rfl ?_
  refine pm_ald d_X6_init_47 rfl ?_
  refine pm_ki d_X6_init_48 ?_
  refine pd_newa_int (nn := 6) (lst' := [.inr (6, [.ref (g.2.2.1 + (N0 + 1)), .ref (g.2.2.1 + (N0 + 11)), .ref (g.2.2.1 + (N0 + 12)), .ref (g.2.2.1 + (N0 + 13)), .ref (g.2.2.1 + (N0 + 14)), .null, .null, .null, .int 0, .int 0, .int 0, .int 0, .int 0, .int 0]), .inr (1, [.ref (g.2.2.1 + (N0 + 2)), .ref (g.2.2.1 + (N0 + 3)), .ref (g.2.2.1 + (N0 + 4)), .ref (g.2.2.1 + (N0 + 5)), .ref (g.2.2.1 + (N0 + 6)), .ref (g.2.2.1 + (N0 + 7)), .ref (g.2.2.1 + (N0 + 8)), .ref (g.2.2.1 + (N0 + 9)), .ref (g.2.2.1 + (N0 + 10))]), .inl (g.2.1 0, 4, .inl (fun _ => 0)), .inl (g.2.1 0, 4, .inl (fun _ => 0)), .inl (g.2.1 0, 4, .inl (fun _ => 0)), .inl (g.2.1 0, 4, .inl (fun _ => 0)), .inl (g.2.1 4, 4, .inr (.inr (.inr (.inl (fun _ => 0))))), .inl (g.2.1 0, 4, .inl (fun _ => 0)), .inl (g.2.1 0, 4, .inl (fun _ => 0)), .inl (g.2.1 0, 4, .inl (fun _ => 0)), .inl (g.2.1 0, 4, .inl (fun _ => 0)), .inl (g.2.1 0, 12, .inl (fun _ => 0)), .inl (g.2.1 0, 12, .inl (fun _ => 0)), .inl (g.2.1 0, 6, .inl (fun _ => 0)), .inl (g.2.1 0, 6, .inl (fun _ => 0)), .inl (g.2.1 0, 6, .inl (fun _ => 0))]) d_X6_init_50 (by decide) rfl (by decide) (Nat.le_of_ble_eq_true rfl) (Nat.le_of_ble_eq_true rfl) rfl rfl ?_
  refine pd_putF 0 (lst' := [.inr (6, [.ref (g.2.2.1 + (N0 + 1)), .ref (g.2.2.1 + (N0 + 11)), .ref (g.2.2.1 + (N0 + 12)), .ref (g.2.2.1 + (N0 + 13)), .ref (g.2.2.1 + (N0 + 14)), .ref (g.2.2.1 + (N0 + 15)), .null, .null, .int 0, .int 0, .int 0, .int 0, .int 0, .int 0]), .inr (1, [.ref (g.2.2.1 + (N0 + 2)), .ref (g.2.2.1 + (N0 + 3)), .ref (g.2.2.1 + (N0 + 4)), .ref (g.2.2.1 + (N0 + 5)), .ref (g.2.2.1 + (N0 + 6)), .ref (g.2.2.1 + (N0 + 7)), .ref (g.2.2.1 + (N0 + 8)), .ref (g.2.2.1 + (N0 + 9)), .ref (g.2.2.1 + (N0 + 10))]), .inl (g.2.1 0, 4, .inl (fun _ => 0)), .inl (g.2.1 0, 4, .inl (fun _ => 0)), .inl (g.2.1 0, 4, .inl (fun _ => 0)), .inl (g.2.1 0, 4, .inl (fun _ => 0)), .inl (g.2.1 4, 4, .inr (.inr (.inr (.inl (fun _ => 0))))), .inl (g.2.1 0, 4, .inl (fun _ => 0)), .inl (g.2.1 0, 4, .inl (fun _ => 0)), .inl (g.2.1 0, 4, .inl (fun _ => 0)), .inl (g.2.1 0, 4, .inl (fun _ => 0)), .inl (g.2.1 0, 12, .inl (fun _ => 0)), .inl (g.2.1 0, 12, .inl (fun _ => 0)), .inl (g.2.1 0, 6, .inl (fun _ => 0)), .inl (g.2.1 0, 6, .inl (fun _ => 0)), .inl (g.2.1 0, 6, .inl (fun _ => 0))]) d_X6_init_52 rfl rfl (Nat.le_of_ble_eq_true rfl) rfl rfl rfl ?_
  refine pm_ald d_X6_init_55 rfl ?_
  refine pm_ki d_X6_init_56 ?_
  refine pd_newa_int (nn := 6) (lst' := [.inr (6, [.ref (g.2.2.1 + (N0 + 1)), .ref (g.2.2.1 + (N0 + 11)), .ref (g.2.2.1 + (N0 + 12)), .ref (g.2.2.1 + (N0 + 13)), .ref (g.2.2.1 + (N0 + 14)), .ref (g.2.2.1 + (N0 + 15)), .null, .null, .int 0, .int 0, .int 0, .int 0, .int 0, .int 0]), .inr (1, [.ref (g.2.2.1 + (N0 + 2)), .ref (g.2.2.1 + (N0 + 3)), .ref (g.2.2.1 + (N0 + 4)), .ref (g.2.2.1 + (N0 + 5)), .ref (g.2.2.1 + (N0 + 6)), .ref (g.2.2.1 + (N0 + 7)), .ref (g.2.2.1 + (N0 + 8)), .ref (g.2.2.1 + (N0 + 9)), .ref (g.2.2.1 + (N0 + 10))]), .inl (g.2.1 0, 4, .inl (fun _ => 0)), .inl (g.2.1 0, 4, .inl (fun _ => 0)), .inl (g.2.1 0, 4, .inl (fun _ => 0)), .inl (g.2.1 0, 4, .inl (fun _ => 0)), .inl (g.2.1 4, 4, .inr (.inr (.inr (.inl (fun _ => 0))))), .inl (g.2.1 0, 4, .inl (fun _ => 0)), .inl (g.2.1 0, 4, .inl (fun _ => 0)), .inl (g.2.1 0, 4, .inl (fun _ => 0)), .inl (g.2.1 0, 4, .inl (fun _ => 0)), .inl (g.2.1 0, 12, .inl (fun _ => 0)), .inl (g.2.1 0, 12, .inl (fun _ => 0)), .inl (g.2.1 0, 6, .inl (fun _ => 0)), .inl (g.2.1 0, 6, .inl (fun _ => 0)), .inl (g.2.1 0, 6, .inl (fun _ => 0)), .inl (g.2.1 0, 6, .inl (fun _ => 0))]) d_X6_init_58 (by decide) rfl (by decide) (Nat.le_of_ble_eq_true rfl) (Nat.le_of_ble_eq_true rfl) rfl rfl ?_
  refine pd_putF 0 (lst' := [.inr (6, [.ref (g.2.2.1 + (N0 + 1)), .ref (g.2.2.1 + (N0 + 11)), .ref (g.2.2.1 + (N0 + 12)), .ref (g.2.2.1 + (N0 + 13)), .ref (g.2.2.1 + (N0 + 14)), .ref (g.2.2.1 + (N0 + 15)), .ref (g.2.2.1 + (N0 + 16)), .null, .int 0, .int 0, .int 0, .int 0, .int 0, .int 0]), .inr (1, [.ref (g.2.2.1 + (N0 + 2)), .ref (g.2.2.1 + (N0 + 3)), .ref (g.2.2.1 + (N0 + 4)), .ref (g.2.2.1 + (N0 + 5)), .ref (g.2.2.1 + (N0 + 6)), .ref (g.2.2.1 + (N0 + 7)), .ref (g.2.2.1 + (N0 + 8)), .ref (g.2.2.1 + (N0 + 9)), .ref (g.2.2.1 + (N0 + 10))]), .inl (g.2.1 0, 4, .inl (fun _ => 0)), .inl (g.2.1 0, 4, .inl (fun _ => 0)), .inl (g.2.1 0, 4, .inl (fun _ => 0)), .inl (g.2.1 0, 4, .inl (fun _ => 0)), .inl (g.2.1 4, 4, .inr (.inr (.inr (.inl (fun _ => 0))))), .inl (g.2.1 0, 4, .inl (fun _ => 0)), .inl (g.2.1 0, 4, .inl (fun _ => 0)), .inl (g.2.1 0, 4, .inl (fun _ => 0)), .inl (g.2.1 0, 4, .inl (fun _ => 0)), .inl (g.2.1 0, 12, .inl (fun _ => 0)), .inl (g.2.1 0, 12, .inl (fun _ => 0)), .inl (g.2.1 0, 6, .inl (fun _ => 0)), .inl (g.2.1 0, 6, .inl (fun _ => 0)), .inl (g.2.1 0, 6, .inl (fun _ => 0)), .inl (g.2.1 0, 6, .inl (fun _ => 0))]) d_X6_init_60 rfl rfl (Nat.le_of_ble_eq_true rfl) rfl rfl rfl ?_
  refine pm_ald d_X6_init_63 rfl ?_
  refine pm_ki d_X6_init_64 ?_
  refine pd_newa_int (nn := 6) (lst' := [.inr (6, [.ref (g.2.2.1 + (N0 + 1)), .ref (g.2.2.1 + (N0 + 11)), .ref (g.2.2.1 + (N0 + 12)), .ref (g.2.2.1 + (N0 + 13)), .ref (g.2.2.1 + (N0 + 14)), .ref (g.2.2.1 + (N0 + 15)), .ref (g.2.2.1 + (N0 + 16)), .null, .int 0, .int 0, .int 0, .int 0, .int 0, .int 0]), .inr (1, [.ref (g.2.2.1 + (N0 + 2)), .ref (g.2.2.1 + (N0 + 3)), .ref (g.2.2.1 + (N0 + 4)), .ref (g.2.2.1 + (N0 + 5)), .ref (g.2.2.1 + (N0 + 6)), .ref (g.2.2.1 + (N0 + 7)), .ref (g.2.2.1 + (N0 + 8)), .ref (g.2.2.1 + (N0 + 9)), .ref (g.2.2.1 + (N0 + 10))]), .inl (g.2.1 0, 4, .inl (fun _ => 0)), .inl (g.2.1 0, 4, .inl (fun _ => 0)), .inl (g.2.1 0, 4, .inl (fun _ => 0)), .inl (g.2.1 0, 4, .inl (fun _ => 0)), .inl (g.2.1 4, 4, .inr (.inr (.inr (.inl (fun _ => 0))))), .inl (g.2.1 0, 4, .inl (fun _ => 0)), .inl (g.2.1 0, 4, .inl (fun _ => 0)), .inl (g.2.1 0, 4, .inl (fun _ => 0)), .inl (g.2.1 0, 4, .inl (fun _ => 0)), .inl (g.2.1 0, 12, .inl (fun _ => 0)), .inl (g.2.1 0, 12, .inl (fun _ => 0)), .inl (g.2.1 0, 6, .inl (fun _ => 0)), .inl (g.2.1 0, 6, .inl (fun _ => 0)), .inl (g.2.1 0, 6, .inl (fun _ => 0)), .inl (g.2.1 0, 6, .inl (fun _ => 0)), .inl (g.2.1 0, 6, .inl (fun _ => 0))]) d_X6_init_66 (by decide) rfl (by decide) (Nat.le_of_ble_eq_true rfl) (Nat.le_of_ble_eq_true rfl) rfl rfl ?_
  refine pd_putF 0 (lst' := [.inr (6, [.ref (g.2.2.1 + (N0 + 1)), .ref (g.2.2.1 + (N0 + 11)), .ref (g.2.2.1 + (N0 + 12)), .ref (g.2.2.1 + (N0 + 13)), .ref (g.2.2.1 + (N0 + 14)), .ref (g.2.2.1 + (N0 + 15)), .ref (g.2.2.1 + (N0 + 16)), .ref (g.2.2.1 + (N0 + 17)), .int 0, .int 0, .int 0, .int 0, .int 0, .int 0]), .inr (1, [.ref (g.2.2.1 + (N0 + 2)), .ref (g.2.2.1 + (N0 + 3)), .ref (g.2.2.1 + (N0 + 4)), .ref (g.2.2.1 + (N0 + 5)), .ref (g.2.2.1 + (N0 + 6)), .ref (g.2.2.1 + (N0 + 7)), .ref (g.2.2.1 + (N0 + 8)), .ref (g.2.2.1 + (N0 + 9)), .ref (g.2.2.1 + (N0 + 10))]), .inl (g.2.1 0, 4, .inl (fun _ => 0)), .inl (g.2.1 0, 4, .inl (fun _ => 0)), .inl (g.2.1 0, 4, .inl (fun _ => 0)), .inl (g.2.1 0, 4, .inl (fun _ => 0)), .inl (g.2.1 4, 4, .inr (.inr (.inr (.inl (fun _ => 0))))), .inl (g.2.1 0, 4, .inl (fun _ => 0)), .inl (g.2.1 0, 4, .inl (fun _ => 0)), .inl (g.2.1 0, 4, .inl (fun _ => 0)), .inl (g.2.1 0, 4, .inl (fun _ => 0)), .inl (g.2.1 0, 12, .inl (fun _ => 0)), .inl (g.2.1 0, 12, .inl (fun _ => 0)), .inl (g.2.1 0, 6, .inl (fun _ => 0)), .inl (g.2.1 0, 6, .inl (fun _ => 0)), .inl (g.2.1 0, 6, .inl (fun _ => 0)), .inl (g.2.1 0, 6, .inl (fun _ => 0)), .inl (g.2.1 0, 6, .inl (fun _ => 0))]) d_X6_init_68 rfl rfl (Nat.le_of_ble_eq_true rfl) rfl rfl rfl ?_
  refine pm_ald d_X6_init_71 rfl ?_
  refine pm_ki d_X6_init_72 ?_
  refine pd_put 0 (lst' := [.inr (6, [.ref (g.2.2.1 + (N0 + 1)), .ref (g.2.2.1 + (N0 + 11)), .ref (g.2.2.1 + (N0 + 12)), .ref (g.2.2.1 + (N0 + 13)), .ref (g.2.2.1 + (N0 + 14)), .ref (g.2.2.1 + (N0 + 15)), .ref (g.2.2.1 + (N0 + 16)), .ref (g.2.2.1 + (N0 + 17)), .int 0, .int 0, .int 0, .int 0, .int 0, .int 0]), .inr (1, [.ref (g.2.2.1 + (N0 + 2)), .ref (g.2.2.1 + (N0 + 3)), .ref (g.2.2.1 + (N0 + 4)), .ref (g.2.2.1 + (N0 + 5)), .ref (g.2.2.1 + (N0 + 6)), .ref (g.2.2.1 + (N0 + 7)), .ref (g.2.2.1 + (N0 + 8)), .ref (g.2.2.1 + (N0 + 9)), .ref (g.2.2.1 + (N0 + 10))]), .inl (g.2.1 0, 4, .inl (fun _ => 0)), .inl (g.2.1 0, 4, .inl (fun _ => 0)), .inl (g.2.1 0, 4, .inl (fun _ => 0)), .inl (g.2.1 0, 4, .inl (fun _ => 0)), .inl (g.2.1 4, 4, .inr (.inr (.inr (.inl (fun _ => 0))))), .inl (g.2.1 0, 4, .inl (fun _ => 0)), .inl (g.2.1 0, 4, .inl (fun _ => 0)), .inl (g.2.1 0, 4, .inl (fun _ => 0)), .inl (g.2.1 0, 4, .inl (fun _ => 0)), .inl (g.2.1 0, 12, .inl (fun _ => 0)), .inl (g.2.1 0, 12, .inl (fun _ => 0)), .inl (g.2.1 0, 6, .inl (fun _ => 0)), .inl (g.2.1 0, 6, .inl (fun _ => 0)), .inl (g.2.1 0, 6, .inl (fun _ => 0)), .inl (g.2.1 0, 6, .inl (fun _ => 0)), .inl (g.2.1 0, 6, .inl (fun _ => 0))]) d_X6_init_73 rfl rfl (Nat.le_of_ble_eq_true rfl) rfl rfl rfl ?_
  refine pm_ald d_X6_init_76 rfl ?_
  refine pm_ki d_X6_init_77 ?_
  refine pd_put 0 (lst' := [.inr (6, [.ref (g.2.2.1 + (N0 + 1)), .ref (g.2.2.1 + (N0 + 11)), .ref (g.2.2.1 + (N0 + 12)), .ref (g.2.2.1 + (N0 + 13)), .ref (g.2.2.1 + (N0 + 14)), .ref (g.2.2.1 + (N0 + 15)), .ref (g.2.2.1 + (N0 + 16)), .ref (g.2.2.1 + (N0 + 17)), .int 0, .int 0, .int 0, .int 0, .int 0, .int 0]), .inr (1, [.ref (g.2.2.1 + (N0 + 2)), .ref (g.2.2.1 + (N0 + 3)), .ref (g.2.2.1 + (N0 + 4)), .ref (g.2.2.1 + (N0 + 5)), .ref (g.2.2.1 + (N0 + 6)), .ref (g.2.2.1 + (N0 + 7)), .ref (g.2.2.1 + (N0 + 8)), .ref (g.2.2.1 + (N0 + 9)), .ref (g.2.2.1 + (N0 + 10))]), .inl (g.2.1 0, 4, .inl (fun _ => 0)), .inl (g.2.1 0, 4, .inl (fun _ => 0)), .inl (g.2.1 0, 4, .inl (fun _ => 0)), .inl (g.2.1 0, 4, .inl (fun _ => 0)), .inl (g.2.1 4, 4, .inr (.inr (.inr (.inl (fun _ => 0))))), .inl (g.2.1 0, 4, .inl (fun _ => 0)), .inl (g.2.1 0, 4, .inl (fun _ => 0)), .inl (g.2.1 0, 4, .inl (fun _ => 0)), .inl (g.2.1 0, 4, .inl (fun _ => 0)), .inl (g.2.1 0, 12, .inl (fun _ => 0)), .inl (g.2.1 0, 12, .inl (fun _ => 0)), .inl (g.2.1 0, 6, .inl (fun _ => 0)), .inl (g.2.1 0, 6, .inl (fun _ => 0)), .inl (g.2.1 0, 6, .inl (fun _ => 0)), .inl (g.2.1 0, 6, .inl (fun _ => 0)), .inl (g.2.1 0, 6, .inl (fun _ => 0))]) d_X6_init_78 rfl rfl (Nat.le_of_ble_eq_true rfl) rfl rfl rfl ?_
  refine pm_ald d_X6_init_81 rfl ?_
  refine pm_ki d_X6_init_82 ?_
  refine pd_put 0 (lst' := [.inr (6, [.ref (g.2.2.1 + (N0 + 1)), .ref (g.2.2.1 + (N0 + 11)), .ref (g.2.2.1 + (N0 + 12)), .ref (g.2.2.1 + (N0 + 13)), .ref (g.2.2.1 + (N0 + 14)), .ref (g.2.2.1 + (N0 + 15)), .ref (g.2.2.1 + (N0 + 16)), .ref (g.2.2.1 + (N0 + 17)), .int 0, .int 0, .int 0, .int 0, .int 0, .int 0]), .inr (1, [.ref (g.2.2.1 + (N0 + 2)), .ref (g.2.2.1 + (N0 + 3)), .ref (g.2.2.1 + (N0 + 4)), .ref (g.2.2.1 + (N0 + 5)), .ref (g.2.2.1 + (N0 + 6)), .ref (g.2.2.1 + (N0 + 7)), .ref (g.2.2.1 + (N0 + 8)), .ref (g.2.2.1 + (N0 + 9)), .ref (g.2.2.1 + (N0 + 10))]), .inl (g.2.1 0, 4, .inl (fun _ => 0)), .inl (g.2.1 0, 4, .inl (fun _ => 0)), .inl (g.2.1 0, 4, .inl (fun _ => 0)), .inl (g.2.1 0, 4, .inl (fun _ => 0)), .inl (g.2.1 4, 4, .inr (.inr (.inr (.inl (fun _ => 0))))), .inl (g.2.1 0, 4, .inl (fun _ => 0)), .inl (g.2.1 0, 4, .inl (fun _ => 0)), .inl (g.2.1 0, 4, .inl (fun _ => 0)), .inl (g.2.1 0, 4, .inl (fun _ => 0)), .inl (g.2.1 0, 12, .inl (fun _ => 0)), .inl (g.2.1 0, 12, .inl (fun _ => 0)), .inl (g.2.1 0, 6, .inl (fun _ => 0)), .inl (g.2.1 0, 6, .inl (fun _ => 0)), .inl (g.2.1 0, 6, .inl (fun _ => 0)), .inl (g.2.1 0, 6, .inl (fun _ => 0)), .inl (g.2.1 0, 6, .inl (fun _ => 0))]) d_X6_init_83 rfl rfl (Nat.le_of_ble_eq_true rfl) rfl rfl rfl ?_
  refine pm_ald d_X6_init_86 rfl ?_
  refine pm_ki d_X6_init_87 ?_
  refine pd_put 0 (lst' := [.inr (6, [.ref (g.2.2.1 + (N0 + 1)), .ref (g.2.2.1 + (N0 + 11)), .ref (g.2.2.1 + (N0 + 12)), .ref (g.2.2.1 + (N0 + 13)), .ref (g.2.2.1 + (N0 + 14)), .ref (g.2.2.1 + (N0 + 15)), .ref (g.2.2.1 + (N0 + 16)), .ref (g.2.2.1 + (N0 + 17)), .int 0, .int 0, .int 0, .int (-1), .int 0, .int 0]), .inr (1, [.ref (g.2.2.1 + (N0 + 2)), .ref (g.2.2.1 + (N0 + 3)), .ref (g.2.2.1 + (N0 + 4)), .ref (g.2.2.1 + (N0 + 5)), .ref (g.2.2.1 + (N0 + 6)), .ref (g.2.2.1 + (N0 + 7)), .ref (g.2.2.1 + (N0 + 8)), .ref (g.2.2.1 + (N0 + 9)), .ref (g.2.2.1 + (N0 + 10))]), .inl (g.2.1 0, 4, .inl (fun _ => 0)), .inl (g.2.1 0, 4, .inl (fun _ => 0)), .inl (g.2.1 0, 4, .inl (fun _ => 0)), .inl (g.2.1 0, 4, .inl (fun _ => 0)), .inl (g.2.1 4, 4, .inr (.inr (.inr (.inl (fun _ => 0))))), .inl (g.2.1 0, 4, .inl (fun _ => 0)), .inl (g.2.1 0, 4, .inl (fun _ => 0)), .inl (g.2.1 0, 4, .inl (fun _ => 0)), .inl (g.2.1 0, 4, .inl (fun _ => 0)), .inl (g.2.1 0, 12, .inl (fun _ => 0)), .inl (g.2.1 0, 12, .inl (fun _ => 0)), .inl (g.2.1 0, 6, .inl (fun _ => 0)), .inl (g.2.1 0, 6, .inl (fun _ => 0)), .inl (g.2.1 0, 6, .inl (fun _ => 0)), .inl (g.2.1 0, 6, .inl (fun _ => 0)), .inl (g.2.1 0, 6, .inl (fun _ => 0))]) d_X6_init_88 rfl rfl (Nat.le_of_ble_eq_true rfl) rfl rfl rfl ?_
  refine pm_ald d_X6_init_91 rfl ?_
  refine pm_ki d_X6_init_92 ?_
  refine pd_put 0 (lst' := [.inr (6, [.ref (g.2.2.1 + (N0 + 1)), .ref (g.2.2.1 + (N0 + 11)), .ref (g.2.2.1 + (N0 + 12)), .ref (g.2.2.1 + (N0 + 13)), .ref (g.2.2.1 + (N0 + 14)), .ref (g.2.2.1 + (N0 + 15)), .ref (g.2.2.1 + (N0 + 16)), .ref (g.2.2.1 + (N0 + 17)), .int 0, .int 0, .int 0, .int (-1), .int (-1), .int 0]), .inr (1, [.ref (g.2.2.1 + (N0 + 2)), .ref (g.2.2.1 + (N0 + 3)), .ref (g.2.2.1 + (N0 + 4)), .ref (g.2.2.1 + (N0 + 5)), .ref (g.2.2.1 + (N0 + 6)), .ref (g.2.2.1 + (N0 + 7)), .ref (g.2.2.1 + (N0 + 8)), .ref (g.2.2.1 + (N0 + 9)), .ref (g.2.2.1 + (N0 + 10))]), .inl (g.2.1 0, 4, .inl (fun _ => 0)), .inl (g.2.1 0, 4, .inl (fun _ => 0)), .inl (g.2.1 0, 4, .inl (fun _ => 0)), .inl (g.2.1 0, 4, .inl (fun _ => 0)), .inl (g.2.1 4, 4, .inr (.inr (.inr (.inl (fun _ => 0))))), .inl (g.2.1 0, 4, .inl (fun _ => 0)), .inl (g.2.1 0, 4, .inl (fun _ => 0)), .inl (g.2.1 0, 4, .inl (fun _ => 0)), .inl (g.2.1 0, 4, .inl (fun _ => 0)), .inl (g.2.1 0, 12, .inl (fun _ => 0)), .inl (g.2.1 0, 12, .inl (fun _ => 0)), .inl (g.2.1 0, 6, .inl (fun _ => 0)), .inl (g.2.1 0, 6, .inl (fun _ => 0)), .inl (g.2.1 0, 6, .inl (fun _ => 0)), .inl (g.2.1 0, 6, .inl (fun _ => 0)), .inl (g.2.1 0, 6, .inl (fun _ => 0))]) d_X6_init_93 rfl rfl (Nat.le_of_ble_eq_true rfl) rfl rfl rfl ?_
  refine pm_ald d_X6_init_96 rfl ?_
  refine pm_ki d_X6_init_97 ?_
  refine pd_put 0 (lst' := [.inr (6, [.ref (g.2.2.1 + (N0 + 1)), .ref (g.2.2.1 + (N0 + 11)), .ref (g.2.2.1 + (N0 + 12)), .ref (g.2.2.1 + (N0 + 13)), .ref (g.2.2.1 + (N0 + 14)), .ref (g.2.2.1 + (N0 + 15)), .ref (g.2.2.1 + (N0 + 16)), .ref (g.2.2.1 + (N0 + 17)), .int 0, .int 0, .int 0, .int (-1), .int (-1), .int 0]), .inr (1, [.ref (g.2.2.1 + (N0 + 2)), .ref (g.2.2.1 + (N0 + 3)), .ref (g.2.2.1 + (N0 + 4)), .ref (g.2.2.1 + (N0 + 5)), .ref (g.2.2.1 + (N0 + 6)), .ref (g.2.2.1 + (N0 + 7)), .ref (g.2.2.1 + (N0 + 8)), .ref (g.2.2.1 + (N0 + 9)), .ref (g.2.2.1 + (N0 + 10))]), .inl (g.2.1 0, 4, .inl (fun _ => 0)), .inl (g.2.1 0, 4, .inl (fun _ => 0)), .inl (g.2.1 0, 4, .inl (fun _ => 0)), .inl (g.2.1 0, 4, .inl (fun _ => 0)), .inl (g.2.1 4, 4, .inr (.inr (.inr (.inl (fun _ => 0))))), .inl (g.2.1 0, 4, .inl (fun _ => 0)), .inl (g.2.1 0, 4, .inl (fun _ => 0)), .inl (g.2.1 0, 4, .inl (fun _ => 0)), .inl (g.2.1 0, 4, .inl (fun _ => 0)), .inl (g.2.1 0, 12, .inl (fun _ => 0)), .inl (g.2.1 0, 12, .inl (fun _ => 0)), .inl (g.2.1 0, 6, .inl (fun _ => 0)), .inl (g.2.1 0, 6, .inl (fun _ => 0)), .inl (g.2.1 0, 6, .inl (fun _ => 0)), .inl (g.2.1 0, 6, .inl (fun _ => 0)), .inl (g.2.1 0, 6, .inl (fun _ => 0))]) d_X6_init_98 rfl rfl (Nat.le_of_ble_eq_true rfl) rfl rfl rfl ?_
  exact pm_vret rfl d_X6_init_101 (by omega) (Nat.le_refl _) ⟨rfl, rfl⟩
set_option maxRecDepth 100000 in
theorem K_X7 {g : pm_G} (N0 : Nat) (E0 : pm_E)  : pm_C g mX7_init 1 1 40 [.ref (g.2.2.1 + N0)] (N0 + 1) (pd E0 N0 [.inr (7, [.null, .int 0, .int 0, .int 0])]) (fun r E => r = none ∧ E = pd E0 N0 [.inr (7, [.ref (g.2.2.1 + (N0 + 1)), .int 1, .int 0, .int 0]), .inl (g.2.1 3, 40, .inr (.inl (fun _ => 0)))]) := by
  refine pm_C.of (ls := [some (.ref (g.2.2.1 + N0))]) 0 (by decide) rfl (Nat.le_of_ble_eq_true rfl) rfl ?_
  refine pm_ald d_X7_init_0 rfl ?_
  refine pm_obj d_X7_init_1 (pd_roomO (by decide)) (Nat.le_of_ble_eq_true rfl) ?_
  refine pm_ald d_X7_init_4 rfl ?_
  refine pm_ki d_X7_init_5 ?_
  refine pd_newa_long (nn := 40) (lst' := [.inr (7, [.null, .int 0, .int 0, .int 0]), .inl (g.2.1 3, 40, .inr (.inl (fun _ => 0)))]) d_X7_init_7 (by decide) rfl (by decide) (Nat.le_of_ble_eq_true rfl) (Nat.le_of_ble_eq_true rfl) rfl rfl ?_
  refine pd_putF 0 (lst' := [.inr (7, [.ref (g.2.2.1 + (N0 + 1)), .int 0, .int 0, .int 0]), .inl (g.2.1 3, 40, .inr (.inl (fun _ => 0)))]) d_X7_init_9 rfl rfl (Nat.le_of_ble_eq_true rfl) rfl rfl rfl ?_
  refine pm_ald d_X7_init_12 rfl ?_
  refine pm_ki d_X7_init_13 ?_
  refine pd_put 0 (lst' := [.inr (7, [.ref (g.2.2.1 + (N0 + 1)), .int 1, .int 0, .int 0]), .inl (g.2.1 3, 40, .inr (.inl (fun _ => 0)))]) d_X7_init_14 rfl rfl (Nat.le_of_ble_eq_true rfl) rfl rfl rfl ?_
  refine pm_ald d_X7_init_17 rfl ?_
  refine pm_ki d_X7_init_18 ?_
  refine pd_put 0 (lst' := [.inr (7, [.ref (g.2.2.1 + (N0 + 1)), .int 1, .int 0, .int 0]), .inl (g.2.1 3, 40, .inr (.inl (fun _ => 0)))]) d_X7_init_19 rfl rfl (Nat.le_of_ble_eq_true rfl) rfl rfl rfl ?_
  refine pm_ald d_X7_init_22 rfl ?_
  refine pm_ki d_X7_init_23 ?_
  refine pd_put 0 (lst' := [.inr (7, [.ref (g.2.2.1 + (N0 + 1)), .int 1, .int 0, .int 0]), .inl (g.2.1 3, 40, .inr (.inl (fun _ => 0)))]) d_X7_init_24 rfl rfl (Nat.le_of_ble_eq_true rfl) rfl rfl rfl ?_
  exact pm_vret rfl d_X7_init_27 (by omega) (Nat.le_refl _) ⟨rfl, rfl⟩
set_option maxRecDepth 100000 in
theorem K_X5 {g : pm_G} (N0 : Nat) (E0 : pm_E) (t1 : Nat) (t2 : Nat) : pm_C g mX5_init 1 0 0 [.ref (g.2.2.1 + N0), .ref (g.2.2.1 + t1), .ref (g.2.2.1 + t2)] (N0 + 1) (pd E0 N0 [.inr (5, [.int 0, .int 0, .null, .null, .int 0, .int 0, .int 0, .int 0, .int 0, .int 0, .int 0, .int 0])]) (fun r E => r = none ∧ E = pd E0 N0 [.inr (5, [.int 0, .int (-1), .ref (g.2.2.1 + t1), .ref (g.2.2.1 + t2), .int 0, .int 0, .int 0, .int 0, .int 0, .int 0, .int 0, .int 0])]) := by
  refine pm_C.of (ls := [some (.ref (g.2.2.1 + N0)), some (.ref (g.2.2.1 + t1)), some (.ref (g.2.2.1 + t2))]) 0 (by decide) rfl (Nat.le_of_ble_eq_true rfl) rfl ?_
  refine pm_ald d_X5_init_0 rfl ?_
  refine pm_obj d_X5_init_1 (pd_roomO (by decide)) (Nat.le_of_ble_eq_true rfl) ?_
  refine pm_ald d_X5_init_4 rfl ?_
  refine pm_ki d_X5_init_5 ?_
  refine pd_put 0 (lst' := [.inr (5, [.int 0, .int 0, .null, .null, .int 0, .int 0, .int 0, .int 0, .int 0, .int 0, .int 0, .int 0])]) d_X5_init_6 rfl rfl (Nat.le_of_ble_eq_true rfl) rfl rfl rfl ?_
  refine pm_ald d_X5_init_9 rfl ?_
  refine pm_ki d_X5_init_10 ?_
  refine pd_put 0 (lst' := [.inr (5, [.int 0, .int (-1), .null, .null, .int 0, .int 0, .int 0, .int 0, .int 0, .int 0, .int 0, .int 0])]) d_X5_init_11 rfl rfl (Nat.le_of_ble_eq_true rfl) rfl rfl rfl ?_
  refine pm_ald d_X5_init_14 rfl ?_
  refine pm_ki d_X5_init_15 ?_
  refine pd_put 0 (lst' := [.inr (5, [.int 0, .int (-1), .null, .null, .int 0, .int 0, .int 0, .int 0, .int 0, .int 0, .int 0, .int 0])]) d_X5_init_16 rfl rfl (Nat.le_of_ble_eq_true rfl) rfl rfl rfl ?_
  refine pm_ald d_X5_init_19 rfl ?_
  refine pm_ki d_X5_init_20 ?_
  refine pd_put 0 (lst' := [.inr (5, [.int 0, .int (-1), .null, .null, .int 0, .int 0, .int 0, .int 0, .int 0, .int 0, .int 0, .int 0])]) d_X5_init_21 rfl rfl (Nat.le_of_ble_eq_true rfl) rfl rfl rfl ?_
  refine pm_ald d_X5_init_24 rfl ?_
  refine pm_ki d_X5_init_25 ?_
  refine pd_put 0 (lst' := [.inr (5, [.int 0, .int (-1), .null, .null, .int 0, .int 0, .int 0, .int 0, .int 0, .int 0, .int 0, .int 0])]) d_X5_init_26 rfl rfl (Nat.le_of_ble_eq_true rfl) rfl rfl rfl ?_
  refine pm_ald d_X5_init_29 rfl ?_
  refine pm_ki d_X5_init_30 ?_
  refine pd_put 0 (lst' := [.inr (5, [.int 0, .int (-1), .null, .null, .int 0, .int 0, .int 0, .int 0, .int 0, .int 0, .int 0, .int 0])]) d_X5_init_31 rfl rfl (Nat.le_of_ble_eq_true rfl) rfl rfl rfl ?_
  refine pm_ald d_X5_init_34 rfl ?_
  refine pm_ki d_X5_init_35 ?_
  refine pd_put 0 (lst' := [.inr (5, [.int 0, .int (-1), .null, .null, .int 0, .int 0, .int 0, .int 0, .int 0, .int 0, .int 0, .int 0])]) d_X5_init_36 rfl rfl (Nat.le_of_ble_eq_true rfl) rfl rfl rfl ?_
  refine pm_ald d_X5_init_39 rfl ?_
  refine pm_ki d_X5_init_40 ?_
  refine pd_put 0 (lst' := [.inr (5, [.int 0, .int (-1), .null, .null, .int 0, .int 0, .int 0, .int 0, .int 0, .int 0, .int 0, .int 0])]) d_X5_init_41 rfl rfl (Nat.le_of_ble_eq_true rfl) rfl rfl rfl ?_
  refine pm_ald d_X5_init_44 rfl ?_
  refine pm_ki d_X5_init_45 ?_
  refine pd_put 0 (lst' := [.inr (5, [.int 0, .int (-1), .null, .null, .int 0, .int 0, .int 0, .int 0, .int 0, .int 0, .int 0, .int 0])]) d_X5_init_46 rfl rfl (Nat.le_of_ble_eq_true rfl) rfl rfl rfl ?_
  refine pm_ald d_X5_init_49 rfl ?_
  refine pm_ki d_X5_init_50 ?_
  refine pd_put 0 (lst' := [.inr (5, [.int 0, .int (-1), .null, .null, .int 0, .int 0, .int 0, .int 0, .int 0, .int 0, .int 0, .int 0])]) d_X5_init_51 rfl rfl (Nat.le_of_ble_eq_true rfl) rfl rfl rfl ?_
  refine pm_ald d_X5_init_54 rfl ?_
  refine pm_ald d_X5_init_55 rfl ?_
  refine pd_putF 0 (lst' := [.inr (5, [.int 0, .int (-1), .ref (g.2.2.1 + t1), .null, .int 0, .int 0, .int 0, .int 0, .int 0, .int 0, .int 0, .int 0])]) d_X5_init_56 rfl rfl (Nat.le_of_ble_eq_true rfl) rfl rfl rfl ?_
  refine pm_ald d_X5_init_59 rfl ?_
  refine pm_ald d_X5_init_60 rfl ?_
  refine pd_putF 0 (lst' := [.inr (5, [.int 0, .int (-1), .ref (g.2.2.1 + t1), .ref (g.2.2.1 + t2), .int 0, .int 0, .int 0, .int 0, .int 0, .int 0, .int 0, .int 0])]) d_X5_init_61 rfl rfl (Nat.le_of_ble_eq_true rfl) rfl rfl rfl ?_
  exact pm_vret rfl d_X5_init_64 (by omega) (Nat.le_refl _) ⟨rfl, rfl⟩
set_option maxRecDepth 100000 in
theorem K_X4 {g : pm_G} (N0 : Nat) (E0 : pm_E) (t1 : Nat) : pm_C g mX4_init 2 3 1110 [.ref (g.2.2.1 + N0), .ref (g.2.2.1 + t1)] (N0 + 1) (pd E0 N0 [.inr (4, [.null, .null, .null, .null])]) (fun r E => r = none ∧ E = pd E0 N0 [.inr (4, [.ref (g.2.2.1 + t1), .ref (g.2.2.1 + (N0 + 1)), .ref (g.2.2.1 + (N0 + 2)), .ref (g.2.2.1 + (N0 + 3))]), .inl (g.2.1 0, 1000, .inl (pf_fill (fun _ => 0) (-1) 1000)), .inl (g.2.1 0, 10, .inl (fun _ => 0)), .inl (g.2.1 0, 100, .inl (fun _ => 0))]) := by
  refine pm_C.of (ls := [some (.ref (g.2.2.1 + N0)), some (.ref (g.2.2.1 + t1))]) 0 (by decide) rfl (Nat.le_of_ble_eq_true rfl) rfl ?_
  refine pm_ald d_X4_init_0 rfl ?_
  refine pm_obj d_X4_init_1 (pd_roomO (by decide)) (Nat.le_of_ble_eq_true rfl) ?_
  refine pm_ald d_X4_init_4 rfl ?_
  refine pm_ki d_X4_init_5 ?_
  refine pd_newa_int (nn := 1000) (lst' := [.inr (4, [.null, .null, .null, .null]), .inl (g.2.1 0, 1000, .inl (fun _ => 0))]) d_X4_init_8 (by decide) rfl (by decide) (Nat.le_of_ble_eq_true rfl) (Nat.le_of_ble_eq_true rfl) rfl rfl ?_
  refine pd_putF 0 (lst' := [.inr (4, [.null, .ref (g.2.2.1 + (N0 + 1)), .null, .null]), .inl (g.2.1 0, 1000, .inl (fun _ => 0))]) d_X4_init_10 rfl rfl (Nat.le_of_ble_eq_true rfl) rfl rfl rfl ?_
  refine pm_ald d_X4_init_13 rfl ?_
  refine pm_ki d_X4_init_14 ?_
  refine pd_newa_int (nn := 10) (lst' := [.inr (4, [.null, .ref (g.2.2.1 + (N0 + 1)), .null, .null]), .inl (g.2.1 0, 1000, .inl (fun _ => 0)), .inl (g.2.1 0, 10, .inl (fun _ => 0))]) d_X4_init_16 (by decide) rfl (by decide) (Nat.le_of_ble_eq_true rfl) (Nat.le_of_ble_eq_true rfl) rfl rfl ?_
  refine pd_putF 0 (lst' := [.inr (4, [.null, .ref (g.2.2.1 + (N0 + 1)), .ref (g.2.2.1 + (N0 + 2)), .null]), .inl (g.2.1 0, 1000, .inl (fun _ => 0)), .inl (g.2.1 0, 10, .inl (fun _ => 0))]) d_X4_init_18 rfl rfl (Nat.le_of_ble_eq_true rfl) rfl rfl rfl ?_
  refine pm_ald d_X4_init_21 rfl ?_
  refine pm_ki d_X4_init_22 ?_
  refine pd_newa_int (nn := 100) (lst' := [.inr (4, [.null, .ref (g.2.2.1 + (N0 + 1)), .ref (g.2.2.1 + (N0 + 2)), .null]), .inl (g.2.1 0, 1000, .inl (fun _ => 0)), .inl (g.2.1 0, 10, .inl (fun _ => 0)), .inl (g.2.1 0, 100, .inl (fun _ => 0))]) d_X4_init_24 (by decide) rfl (by decide) (Nat.le_of_ble_eq_true rfl) (Nat.le_of_ble_eq_true rfl) rfl rfl ?_
  refine pd_putF 0 (lst' := [.inr (4, [.null, .ref (g.2.2.1 + (N0 + 1)), .ref (g.2.2.1 + (N0 + 2)), .ref (g.2.2.1 + (N0 + 3))]), .inl (g.2.1 0, 1000, .inl (fun _ => 0)), .inl (g.2.1 0, 10, .inl (fun _ => 0)), .inl (g.2.1 0, 100, .inl (fun _ => 0))]) d_X4_init_26 rfl rfl (Nat.le_of_ble_eq_true rfl) rfl rfl rfl ?_
  refine pm_ald d_X4_init_29 rfl ?_
  refine pm_ald d_X4_init_30 rfl ?_
  refine pd_putF 0 (lst' := [.inr (4, [.ref (g.2.2.1 + t1), .ref (g.2.2.1 + (N0 + 1)), .ref (g.2.2.1 + (N0 + 2)), .ref (g.2.2.1 + (N0 + 3))]), .inl (g.2.1 0, 1000, .inl (fun _ => 0)), .inl (g.2.1 0, 10, .inl (fun _ => 0)), .inl (g.2.1 0, 100, .inl (fun _ => 0))]) d_X4_init_31 rfl rfl (Nat.le_of_ble_eq_true rfl) rfl rfl rfl ?_
  refine pm_ald d_X4_init_34 rfl ?_
  refine pd_get 0 d_X4_init_35 rfl rfl rfl ?_
  refine pm_ki d_X4_init_38 ?_
  refine pm_callS d_X4_init_39 ms_J7_fill_53178 (As := [.ref (g.2.2.1 + (N0 + 1)), .int (-1)]) rfl rfl ⟨Nat.le_of_ble_eq_true rfl, Nat.le_of_ble_eq_true rfl⟩ ⟨Nat.le_of_ble_eq_true rfl, Nat.le_of_ble_eq_true rfl⟩ (Nat.le_of_ble_eq_true rfl) (K_fill (N0 + 1) 1000 _ _ _ _ (by omega) (pd_at (lst := [.inr (4, [.ref (g.2.2.1 + t1), .ref (g.2.2.1 + (N0 + 1)), .ref (g.2.2.1 + (N0 + 2)), .ref (g.2.2.1 + (N0 + 3))]), .inl (g.2.1 0, 1000, .inl (fun _ => 0)), .inl (g.2.1 0, 10, .inl (fun _ => 0)), .inl (g.2.1 0, 100, .inl (fun _ => 0))]) rfl) (by decide)) (fun r E1 hh => ?_)
  obtain ⟨h1, h2⟩ := hh
  subst h1
  subst h2
  rw [pd_set (Nat.le_of_ble_eq_true rfl)]
  show pm_W g mX4_init _ 3 1110 42 _ _ (N0 + 4) (pd E0 N0 [.inr (4, [.ref (g.2.2.1 + t1), .ref (g.2.2.1 + (N0 + 1)), .ref (g.2.2.1 + (N0 + 2)), .ref (g.2.2.1 + (N0 + 3))]), .inl (g.2.1 0, 1000, .inl (pf_fill (fun _ => 0) (-1) 1000)), .inl (g.2.1 0, 10, .inl (fun _ => 0)), .inl (g.2.1 0, 100, .inl (fun _ => 0))])
  exact pm_vret rfl d_X4_init_42 (by omega) (Nat.le_refl _) ⟨rfl, rfl⟩
set_option maxRecDepth 100000 in
theorem K_X0 {g : pm_G} (N0 : Nat) (E0 : pm_E) (t1 : Nat) : pm_C g mX0_init 3 4 1114 [.ref (g.2.2.1 + N0), .ref (g.2.2.1 + t1)] (N0 + 1) (pd E0 N0 [.inr (0, [.null, .null])]) (fun r E => r = none ∧ E = pd E0 N0 [.inr (0, [.ref (g.2.2.1 + t1), .ref (g.2.2.1 + (N0 + 1))]), .inr (4, [.ref (g.2.2.1 + t1), .ref (g.2.2.1 + (N0 + 2)), .ref (g.2.2.1 + (N0 + 3)), .ref (g.2.2.1 + (N0 + 4))]), .inl (g.2.1 0, 1000, .inl (pf_fill (fun _ => 0) (-1) 1000)), .inl (g.2.1 0, 10, .inl (fun _ => 0)), .inl (g.2.1 0, 100, .inl (fun _ => 0))]) := by
  refine pm_C.of (ls := [some (.ref (g.2.2.1 + N0)), some (.ref (g.2.2.1 + t1))]) 0 (by decide) rfl (Nat.le_of_ble_eq_true rfl) rfl ?_
  refine pm_ald d_X0_init_0 rfl ?_
  refine pm_obj d_X0_init_1 (pd_roomO (by decide)) (Nat.le_of_ble_eq_true rfl) ?_
  refine pm_ald d_X0_init_4 rfl ?_
  refine pm_ald d_X0_init_5 rfl ?_
  refine pd_putF 0 (lst' := [.inr (0, [.ref (g.2.2.1 + t1), .null])]) d_X0_init_6 rfl rfl (Nat.le_of_ble_eq_true rfl) rfl rfl rfl ?_
  refine pm_ald d_X0_init_9 rfl ?_
  refine pd_neww (lst' := [.inr (0, [.ref (g.2.2.1 + t1), .null]), .inr (4, [.null, .null, .null, .null])]) d_X0_init_10 (Nat.le_of_ble_eq_true rfl) (Nat.le_of_ble_eq_true rfl) rfl rfl ?_
  refine pm_dup d_X0_init_13 rfl ?_
  refine pm_ald d_X0_init_14 rfl ?_
  refine pd_callI (pre := [.inr (0, [.ref (g.2.2.1 + t1), .null])]) (dfl := .inr (4, [.null, .null, .null, .null])) (post := [.inr (4, [.ref (g.2.2.1 + t1), .ref (g.2.2.1 + (N0 + 2)), .ref (g.2.2.1 + (N0 + 3)), .ref (g.2.2.1 + (N0 + 4))]), .inl (g.2.1 0, 1000, .inl (pf_fill (fun _ => 0) (-1) 1000)), .inl (g.2.1 0, 10, .inl (fun _ => 0)), .inl (g.2.1 0, 100, .inl (fun _ => 0))]) (As := [.ref (g.2.2.1 + t1)]) (lst' := [.inr (0, [.ref (g.2.2.1 + t1), .null]), .inr (4, [.ref (g.2.2.1 + t1), .ref (g.2.2.1 + (N0 + 2)), .ref (g.2.2.1 + (N0 + 3)), .ref (g.2.2.1 + (N0 + 4))]), .inl (g.2.1 0, 1000, .inl (pf_fill (fun _ => 0) (-1) 1000)), .inl (g.2.1 0, 10, .inl (fun _ => 0)), .inl (g.2.1 0, 100, .inl (fun _ => 0))]) d_X0_init_15 mi_X4_init rfl rfl rfl ⟨Nat.le_of_ble_eq_true rfl, Nat.le_of_ble_eq_true rfl⟩ ⟨Nat.le_of_ble_eq_true rfl, Nat.le_of_ble_eq_true rfl⟩ (Nat.le_of_ble_eq_true rfl) rfl (K_X4 (N0 + 1) _ t1) rfl ?_
  refine pd_putF 0 (lst' := [.inr (0, [.ref (g.2.2.1 + t1), .ref (g.2.2.1 + (N0 + 1))]), .inr (4, [.ref (g.2.2.1 + t1), .ref (g.2.2.1 + (N0 + 2)), .ref (g.2.2.1 + (N0 + 3)), .ref (g.2.2.1 + (N0 + 4))]), .inl (g.2.1 0, 1000, .inl (pf_fill (fun _ => 0) (-1) 1000)), .inl (g.2.1 0, 10, .inl (fun _ => 0)), .inl (g.2.1 0, 100, .inl (fun _ => 0))]) d_X0_init_18 rfl rfl (Nat.le_of_ble_eq_true rfl) rfl rfl rfl ?_
  exact pm_vret rfl d_X0_init_21 (by omega) (Nat.le_refl _) ⟨rfl, rfl⟩
