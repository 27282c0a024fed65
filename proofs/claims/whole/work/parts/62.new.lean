/-! WriterPace's own constructor, and the reference's -/
def pw_σ : ps_S := (fun k i => match (ps_kind k).1, k - (ps_kind k).2 with
  | 2, 0 => (match i with | 0 => 100 | 1 => 10 | 2 => 30 | 3 => 20 | 4 => 10 | 5 => 4 | 6 => 8 | _ => 0)
  | 3, _ => (match i with | 1 => -1 | _ => 0)
  | 4, 2 => pf_fill (fun _ => 0) (-1) 1000 i
  | 5, 0 => (match i with | 11 => -1 | 12 => -1 | _ => 0)
  | 7, 0 => (match i with | 1 => 1 | _ => 0)
  | 8, 0 => (match i with | 15 => -1 | _ => 0)
  | 8, 15 => upd (upd (upd (upd (fun _ => 0) 0 (-1)) 1 (-1)) 2 (-1)) 3 (-1) i
  | _, _ => 0, fun _ _ => 0, fun _ _ => 0)
def pw_q (g : pm_G) (a b i : Nat) : Nat → Option Nat := fun j => if j < i then some (g.2.2.1 + (a + b * j)) else none
theorem pw_q0 (g : pm_G) (a b : Nat) : (fun _ => none) = pw_q g a b 0 := by funext j; simp [pw_q]
theorem pw_qs (g : pm_G) (a b i : Nat) : va_up (pw_q g a b i) i (some (g.2.2.1 + (a + b * i))) = pw_q g a b (i + 1) := by
  funext j
  unfold va_up pw_q
  by_cases h : j = i
  · subst h; rw [if_pos rfl, if_pos (by omega)]
  · rw [if_neg h]
    by_cases h2 : j < i
    · rw [if_pos h2, if_pos (by omega)]
    · rw [if_neg h2, if_neg (by omega)]
/-- while the constructor runs: its own fields, how many states, trays, hosts, states of images lie in their rows -/
def pw_E (g : pm_G) (fs : List Value) (i0 i1 i2 i3 : Nat) : pm_E := fun k =>
  if k = 0 then .inr (8, fs) else if k = 80 then .inl (g.2.1 5, 10, .inr (.inr (.inr (.inr (pw_q g 85 18 i0))))) else if k = 81 then .inl (g.2.1 6, 4, .inr (.inr (.inr (.inr (pw_q g 265 2 i1)))))
  else if k = 82 then .inl (g.2.1 7, 2, .inr (.inr (.inr (.inr (pw_q g 273 27 i2))))) else if k = 83 then .inl (g.2.1 5, 2, .inr (.inr (.inr (.inr (pw_q g 282 27 i3))))) else ps_E g pw_σ k
theorem pw_put {g : pm_G} {fs fs' : List Value} {i0 i1 i2 i3 : Nat} : pm_up (pw_E g fs i0 i1 i2 i3) 0 (.inr (8, fs')) = pw_E g fs' i0 i1 i2 i3 := by
  funext k
  unfold pm_up pw_E
  by_cases h : k = 0
  · rw [if_pos h, if_pos h]
  · rw [if_neg h, if_neg h, if_neg h]
theorem pw_s0 {g : pm_G} {fs : List Value} {i0 i1 i2 i3 : Nat} : pm_up (pw_E g fs i0 i1 i2 i3) 80 (.inl (g.2.1 5, 10, .inr (.inr (.inr (.inr (va_up (pw_q g 85 18 i0) i0 (some (g.2.2.1 + (85 + 18 * i0))))))))) = pw_E g fs (i0 + 1) i1 i2 i3 := by
  rw [pw_qs]; funext k; unfold pm_up pw_E; by_cases h : k = 80
  · subst h; rfl
  · simp only [h, if_false]
theorem pw_s1 {g : pm_G} {fs : List Value} {i0 i1 i2 i3 : Nat} : pm_up (pw_E g fs i0 i1 i2 i3) 81 (.inl (g.2.1 6, 4, .inr (.inr (.inr (.inr (va_up (pw_q g 265 2 i1) i1 (some (g.2.2.1 + (265 + 2 * i1))))))))) = pw_E g fs i0 (i1 + 1) i2 i3 := by
  rw [pw_qs]; funext k; unfold pm_up pw_E; by_cases h : k = 81
  · subst h; rfl
  · simp only [h, if_false]
theorem pw_s2 {g : pm_G} {fs : List Value} {i0 i1 i2 i3 : Nat} : pm_up (pw_E g fs i0 i1 i2 i3) 82 (.inl (g.2.1 7, 2, .inr (.inr (.inr (.inr (va_up (pw_q g 273 27 i2) i2 (some (g.2.2.1 + (273 + 27 * i2))))))))) = pw_E g fs i0 i1 (i2 + 1) i3 := by
  rw [pw_qs]; funext k; unfold pm_up pw_E; by_cases h : k = 82
  · subst h; rfl
  · simp only [h, if_false]
theorem pw_s3 {g : pm_G} {fs : List Value} {i0 i1 i2 i3 : Nat} : pm_up (pw_E g fs i0 i1 i2 i3) 83 (.inl (g.2.1 5, 2, .inr (.inr (.inr (.inr (va_up (pw_q g 282 27 i3) i3 (some (g.2.2.1 + (282 + 27 * i3))))))))) = pw_E g fs i0 i1 i2 (i3 + 1) := by
  rw [pw_qs]; funext k; unfold pm_up pw_E; by_cases h : k = 83
  · subst h; rfl
  · simp only [h, if_false]
section PWR
variable {g : pm_G} {M : pm_M} {F : pm_F} {cn sn pc pc' cn' sn' N N' : Nat} {ls ls' : List (Option Value)} {st : List Value} {E E' : pm_E}
/-- the same world, counted anew -/
theorem pw_cg (E' : pm_E) (hc : cn = cn') (hs : sn = sn') (hN : N = N') (h : ∀ k, k < N' → E k = E' k) (K : pm_W g M F cn' sn' pc ls st N' E') : pm_W g M F cn sn pc ls st N E := by
  subst hc; subst hs; subst hN
  exact pm_Econg h K
theorem pw_one {e : va_E} (he : e = E N) : ∀ k, k < N + 1 → pm_up E N e k = E k := by
  intro k _
  unfold pm_up
  by_cases h : k = N
  · subst h; rw [if_pos rfl]; exact he
  · rw [if_neg h]
theorem pw_nw {e : va_E} : ∀ k, k < N + 1 → pm_up E N e k = pd E N [e] k := by
  intro k hk
  unfold pm_up pd
  by_cases h : k = N
  · subst h
    rw [if_pos rfl, if_neg (by omega), Nat.sub_self]
    rfl
  · rw [if_neg h, if_pos (by omega)]
theorem pw_sub {lst : List va_E} {n : Nat} (h : ∀ j, j < n → lst[j]? = some (E (N + j))) : ∀ k, k < N + n → pd E N lst k = E k := by
  intro k hk
  by_cases h1 : k < N
  · exact pd_lt h1
  · have h2 := h (k - N) (by omega)
    have h3 := pd_at (E0 := E) (N0 := N) h2
    rw [show N + (k - N) = k by omega] at h3
    exact h3
end PWR
theorem pw_fin {g : pm_G} : ∀ k, k < 327 → (pw_E g [.ref (g.2.2.1 + 1), .int 0, .ref (g.2.2.1 + 2), .ref (g.2.2.1 + 11), .ref (g.2.2.1 + 12), .ref (g.2.2.1 + 21), .ref (g.2.2.1 + 26), .ref (g.2.2.1 + 44), .ref (g.2.2.1 + 62), .ref (g.2.2.1 + 80), .int 0, .int 0, .ref (g.2.2.1 + 81), .ref (g.2.2.1 + 82), .ref (g.2.2.1 + 83), .ref (g.2.2.1 + 84), .int 0] 10 4 2 2) k = ps_E g pw_σ k := by
  intro k hk
  unfold pw_E
  by_cases h0 : k = 0
  · subst h0; rfl
  · rw [if_neg h0]
    by_cases h1 : k = 80
    · subst h1; rfl
    · rw [if_neg h1]
      by_cases h2 : k = 81
      · subst h2; rfl
      · rw [if_neg h2]
        by_cases h3 : k = 82
        · subst h3; rfl
        · rw [if_neg h3]
          by_cases h4 : k = 83
          · subst h4; rfl
          · rw [if_neg h4]
set_option maxRecDepth 100000 in
set_option maxHeartbeats 4000000 in
theorem K_X8 {g : pm_G} (P : ps_S → Prop) (hK : ps_ok (qX6_begin 26 12 pw_σ) (fun _ σ1 => P σ1)) : pm_C g mX8_init 4 326 7767 [.ref (g.2.2.1 + 0)] 1 (pw_E g [.null, .int 0, .null, .null, .null, .null, .null, .null, .null, .null, .int 0, .int 0, .null, .null, .null, .null, .int 0] 0 0 0 0) (fun r E => r = none ∧ ∃ σ1, E = ps_E g σ1 ∧ P σ1) := by
  refine pm_C.of (ls := [some (.ref (g.2.2.1 + 0)), none]) 1 (by decide) rfl (Nat.le_of_ble_eq_true rfl) rfl ?_
  refine pm_ald d_X8_init_0 rfl ?_
  refine pm_obj d_X8_init_1 (pd_roomO (by decide)) (Nat.le_of_ble_eq_true rfl) ?_
  refine pm_ald d_X8_init_4 rfl ?_
  refine pm_ki d_X8_init_5 ?_
  refine pm_newa_byte (nn := 900) d_X8_init_8 (by decide) rfl (by decide) (Nat.le_of_ble_eq_true rfl) (Nat.le_of_ble_eq_true rfl) ?_
  refine pw_cg (pw_E g [.null, .int 0, .null, .null, .null, .null, .null, .null, .null, .null, .int 0, .int 0, .null, .null, .null, .null, .int 0] 0 0 0 0) (cn' := 1) (sn' := 900) (N' := 2) rfl rfl rfl (pw_one rfl) ?_
  refine pm_putF 0 d_X8_init_10 (Nat.le_of_ble_eq_true rfl) rfl (Nat.le_of_ble_eq_true rfl) rfl rfl ?_
  refine pw_cg (pw_E g [.ref (g.2.2.1 + 1), .int 0, .null, .null, .null, .null, .null, .null, .null, .null, .int 0, .int 0, .null, .null, .null, .null, .int 0] 0 0 0 0) (cn' := 1) (sn' := 900) (N' := 2) rfl rfl rfl (fun k _ => congrFun pw_put k) ?_
  refine pm_ald d_X8_init_13 rfl ?_
  refine pm_ki d_X8_init_14 ?_
  refine pm_put 0 d_X8_init_15 (Nat.le_of_ble_eq_true rfl) rfl (Nat.le_of_ble_eq_true rfl) rfl rfl ?_
  refine pw_cg (pw_E g [.ref (g.2.2.1 + 1), .int 0, .null, .null, .null, .null, .null, .null, .null, .null, .int 0, .int 0, .null, .null, .null, .null, .int 0] 0 0 0 0) (cn' := 1) (sn' := 900) (N' := 2) rfl rfl rfl (fun k _ => congrFun pw_put k) ?_
  refine pm_ald d_X8_init_18 rfl ?_
  refine pm_new d_X8_init_19 (Nat.le_of_ble_eq_true rfl) (Nat.le_of_ble_eq_true rfl) ?_
  refine pw_cg (pd (pw_E g [.ref (g.2.2.1 + 1), .int 0, .null, .null, .null, .null, .null, .null, .null, .null, .int 0, .int 0, .null, .null, .null, .null, .int 0] 0 0 0 0) 2 [.inr (2, [.int 0, .int 0, .int 0, .int 0, .int 0, .int 0, .int 0, .int 0, .int 0, .int 0, .int 0, .null, .null, .null, .null, .null, .null, .null])]) (cn' := 2) (sn' := 918) (N' := 3) rfl rfl rfl pw_nw ?_
  refine pm_dup d_X8_init_22 rfl ?_
  refine pm_callN (q := 2) (As := []) d_X8_init_23 mi_X2_init rfl rfl ⟨(Nat.le_of_ble_eq_true rfl), (Nat.le_of_ble_eq_true rfl)⟩ ⟨(Nat.le_of_ble_eq_true rfl), (Nat.le_of_ble_eq_true rfl)⟩ (Nat.le_of_ble_eq_true rfl) (K_X2 2 (pw_E g [.ref (g.2.2.1 + 1), .int 0, .null, .null, .null, .null, .null, .null, .null, .null, .int 0, .int 0, .null, .null, .null, .null, .int 0] 0 0 0 0)) (fun r E1 hh => ?_)
  obtain ⟨h1, h2⟩ := hh
  subst h1
  subst h2
  show pm_W g mX8_init _ _ _ 26 _ [.ref (g.2.2.1 + 2), .ref (g.2.2.1 + 0)] _ _
  refine pw_cg (pw_E g [.ref (g.2.2.1 + 1), .int 0, .null, .null, .null, .null, .null, .null, .null, .null, .int 0, .int 0, .null, .null, .null, .null, .int 0] 0 0 0 0) (cn' := 10) (sn' := 1862) (N' := 11) rfl rfl rfl (pw_sub (N := 2) (n := 9) (fun j hj => match j, hj with | 0, _ => rfl | 1, _ => rfl | 2, _ => rfl | 3, _ => rfl | 4, _ => rfl | 5, _ => rfl | 6, _ => rfl | 7, _ => rfl | 8, _ => rfl | j + 9, h => absurd h (by omega))) ?_
  refine pm_putF 0 d_X8_init_26 (Nat.le_of_ble_eq_true rfl) rfl (Nat.le_of_ble_eq_true rfl) rfl rfl ?_
  refine pw_cg (pw_E g [.ref (g.2.2.1 + 1), .int 0, .ref (g.2.2.1 + 2), .null, .null, .null, .null, .null, .null, .null, .int 0, .int 0, .null, .null, .null, .null, .int 0] 0 0 0 0) (cn' := 10) (sn' := 1862) (N' := 11) rfl rfl rfl (fun k _ => congrFun pw_put k) ?_
  refine pm_ald d_X8_init_29 rfl ?_
  refine pm_new d_X8_init_30 (Nat.le_of_ble_eq_true rfl) (Nat.le_of_ble_eq_true rfl) ?_
  refine pw_cg (pd (pw_E g [.ref (g.2.2.1 + 1), .int 0, .ref (g.2.2.1 + 2), .null, .null, .null, .null, .null, .null, .null, .int 0, .int 0, .null, .null, .null, .null, .int 0] 0 0 0 0) 11 [.inr (5, [.int 0, .int 0, .null, .null, .int 0, .int 0, .int 0, .int 0, .int 0, .int 0, .int 0, .int 0])]) (cn' := 11) (sn' := 1874) (N' := 12) rfl rfl rfl pw_nw ?_
  refine pm_dup d_X8_init_33 rfl ?_
  refine pm_ald d_X8_init_34 rfl ?_
  refine pm_get 0 d_X8_init_35 (Nat.le_of_ble_eq_true rfl) rfl rfl ?_
  refine pm_ald d_X8_init_38 rfl ?_
  refine pm_get 0 d_X8_init_39 (Nat.le_of_ble_eq_true rfl) rfl rfl ?_
  refine pm_callI (q := 11) (As := [.ref (g.2.2.1 + 1), .ref (g.2.2.1 + 2)]) d_X8_init_42 mi_X5_init rfl rfl ⟨(Nat.le_of_ble_eq_true rfl), (Nat.le_of_ble_eq_true rfl)⟩ ⟨(Nat.le_of_ble_eq_true rfl), (Nat.le_of_ble_eq_true rfl)⟩ (Nat.le_of_ble_eq_true rfl) (K_X5 11 (pw_E g [.ref (g.2.2.1 + 1), .int 0, .ref (g.2.2.1 + 2), .null, .null, .null, .null, .null, .null, .null, .int 0, .int 0, .null, .null, .null, .null, .int 0] 0 0 0 0) 1 2) (fun r E1 hh => ?_)
  obtain ⟨h1, h2⟩ := hh
  subst h1
  subst h2
  show pm_W g mX8_init _ _ _ 45 _ [.ref (g.2.2.1 + 11), .ref (g.2.2.1 + 0)] _ _
  refine pw_cg (pw_E g [.ref (g.2.2.1 + 1), .int 0, .ref (g.2.2.1 + 2), .null, .null, .null, .null, .null, .null, .null, .int 0, .int 0, .null, .null, .null, .null, .int 0] 0 0 0 0) (cn' := 11) (sn' := 1874) (N' := 12) rfl rfl rfl (pw_sub (N := 11) (n := 1) (fun j hj => match j, hj with | 0, _ => rfl | j + 1, h => absurd h (by omega))) ?_
  refine pm_putF 0 d_X8_init_45 (Nat.le_of_ble_eq_true rfl) rfl (Nat.le_of_ble_eq_true rfl) rfl rfl ?_
  refine pw_cg (pw_E g [.ref (g.2.2.1 + 1), .int 0, .ref (g.2.2.1 + 2), .ref (g.2.2.1 + 11), .null, .null, .null, .null, .null, .null, .int 0, .int 0, .null, .null, .null, .null, .int 0] 0 0 0 0) (cn' := 11) (sn' := 1874) (N' := 12) rfl rfl rfl (fun k _ => congrFun pw_put k) ?_
  refine pm_ald d_X8_init_48 rfl ?_
  refine pm_new d_X8_init_49 (Nat.le_of_ble_eq_true rfl) (Nat.le_of_ble_eq_true rfl) ?_
  refine pw_cg (pd (pw_E g [.ref (g.2.2.1 + 1), .int 0, .ref (g.2.2.1 + 2), .ref (g.2.2.1 + 11), .null, .null, .null, .null, .null, .null, .int 0, .int 0, .null, .null, .null, .null, .int 0] 0 0 0 0) 12 [.inr (2, [.int 0, .int 0, .int 0, .int 0, .int 0, .int 0, .int 0, .int 0, .int 0, .int 0, .int 0, .null, .null, .null, .null, .null, .null, .null])]) (cn' := 12) (sn' := 1892) (N' := 13) rfl rfl rfl pw_nw ?_
  refine pm_dup d_X8_init_52 rfl ?_
  refine pm_callN (q := 12) (As := []) d_X8_init_53 mi_X2_init rfl rfl ⟨(Nat.le_of_ble_eq_true rfl), (Nat.le_of_ble_eq_true rfl)⟩ ⟨(Nat.le_of_ble_eq_true rfl), (Nat.le_of_ble_eq_true rfl)⟩ (Nat.le_of_ble_eq_true rfl) (K_X2 12 (pw_E g [.ref (g.2.2.1 + 1), .int 0, .ref (g.2.2.1 + 2), .ref (g.2.2.1 + 11), .null, .null, .null, .null, .null, .null, .int 0, .int 0, .null, .null, .null, .null, .int 0] 0 0 0 0)) (fun r E1 hh => ?_)
  obtain ⟨h1, h2⟩ := hh
  subst h1
  subst h2
  show pm_W g mX8_init _ _ _ 56 _ [.ref (g.2.2.1 + 12), .ref (g.2.2.1 + 0)] _ _
  refine pw_cg (pw_E g [.ref (g.2.2.1 + 1), .int 0, .ref (g.2.2.1 + 2), .ref (g.2.2.1 + 11), .null, .null, .null, .null, .null, .null, .int 0, .int 0, .null, .null, .null, .null, .int 0] 0 0 0 0) (cn' := 20) (sn' := 2836) (N' := 21) rfl rfl rfl (pw_sub (N := 12) (n := 9) (fun j hj => match j, hj with | 0, _ => rfl | 1, _ => rfl | 2, _ => rfl | 3, _ => rfl | 4, _ => rfl | 5, _ => rfl | 6, _ => rfl | 7, _ => rfl | 8, _ => rfl | j + 9, h => absurd h (by omega))) ?_
  refine pm_putF 0 d_X8_init_56 (Nat.le_of_ble_eq_true rfl) rfl (Nat.le_of_ble_eq_true rfl) rfl rfl ?_
  refine pw_cg (pw_E g [.ref (g.2.2.1 + 1), .int 0, .ref (g.2.2.1 + 2), .ref (g.2.2.1 + 11), .ref (g.2.2.1 + 12), .null, .null, .null, .null, .null, .int 0, .int 0, .null, .null, .null, .null, .int 0] 0 0 0 0) (cn' := 20) (sn' := 2836) (N' := 21) rfl rfl rfl (fun k _ => congrFun pw_put k) ?_
  refine pm_ald d_X8_init_59 rfl ?_
  refine pm_new d_X8_init_60 (Nat.le_of_ble_eq_true rfl) (Nat.le_of_ble_eq_true rfl) ?_
  refine pw_cg (pd (pw_E g [.ref (g.2.2.1 + 1), .int 0, .ref (g.2.2.1 + 2), .ref (g.2.2.1 + 11), .ref (g.2.2.1 + 12), .null, .null, .null, .null, .null, .int 0, .int 0, .null, .null, .null, .null, .int 0] 0 0 0 0) 21 [.inr (0, [.null, .null])]) (cn' := 21) (sn' := 2838) (N' := 22) rfl rfl rfl pw_nw ?_
  refine pm_dup d_X8_init_63 rfl ?_
  refine pm_ald d_X8_init_64 rfl ?_
  refine pm_get 0 d_X8_init_65 (Nat.le_of_ble_eq_true rfl) rfl rfl ?_
  refine pm_callI (q := 21) (As := [.ref (g.2.2.1 + 12)]) d_X8_init_68 mi_X0_init rfl rfl ⟨(Nat.le_of_ble_eq_true rfl), (Nat.le_of_ble_eq_true rfl)⟩ ⟨(Nat.le_of_ble_eq_true rfl), (Nat.le_of_ble_eq_true rfl)⟩ (Nat.le_of_ble_eq_true rfl) (K_X0 21 (pw_E g [.ref (g.2.2.1 + 1), .int 0, .ref (g.2.2.1 + 2), .ref (g.2.2.1 + 11), .ref (g.2.2.1 + 12), .null, .null, .null, .null, .null, .int 0, .int 0, .null, .null, .null, .null, .int 0] 0 0 0 0) 12) (fun r E1 hh => ?_)
  obtain ⟨h1, h2⟩ := hh
  subst h1
  subst h2
  show pm_W g mX8_init _ _ _ 71 _ [.ref (g.2.2.1 + 21), .ref (g.2.2.1 + 0)] _ _
  refine pw_cg (pw_E g [.ref (g.2.2.1 + 1), .int 0, .ref (g.2.2.1 + 2), .ref (g.2.2.1 + 11), .ref (g.2.2.1 + 12), .null, .null, .null, .null, .null, .int 0, .int 0, .null, .null, .null, .null, .int 0] 0 0 0 0) (cn' := 25) (sn' := 3952) (N' := 26) rfl rfl rfl (pw_sub (N := 21) (n := 5) (fun j hj => match j, hj with | 0, _ => rfl | 1, _ => rfl | 2, _ => rfl | 3, _ => rfl | 4, _ => rfl | j + 5, h => absurd h (by omega))) ?_
  refine pm_putF 0 d_X8_init_71 (Nat.le_of_ble_eq_true rfl) rfl (Nat.le_of_ble_eq_true rfl) rfl rfl ?_
  refine pw_cg (pw_E g [.ref (g.2.2.1 + 1), .int 0, .ref (g.2.2.1 + 2), .ref (g.2.2.1 + 11), .ref (g.2.2.1 + 12), .ref (g.2.2.1 + 21), .null, .null, .null, .null, .int 0, .int 0, .null, .null, .null, .null, .int 0] 0 0 0 0) (cn' := 25) (sn' := 3952) (N' := 26) rfl rfl rfl (fun k _ => congrFun pw_put k) ?_
  refine pm_ald d_X8_init_74 rfl ?_
  refine pm_new d_X8_init_75 (Nat.le_of_ble_eq_true rfl) (Nat.le_of_ble_eq_true rfl) ?_
  refine pw_cg (pd (pw_E g [.ref (g.2.2.1 + 1), .int 0, .ref (g.2.2.1 + 2), .ref (g.2.2.1 + 11), .ref (g.2.2.1 + 12), .ref (g.2.2.1 + 21), .null, .null, .null, .null, .int 0, .int 0, .null, .null, .null, .null, .int 0] 0 0 0 0) 26 [.inr (6, [.null, .null, .null, .null, .null, .null, .null, .null, .int 0, .int 0, .int 0, .int 0, .int 0, .int 0])]) (cn' := 26) (sn' := 3966) (N' := 27) rfl rfl rfl pw_nw ?_
  refine pm_dup d_X8_init_78 rfl ?_
  refine pm_callN (q := 26) (As := []) d_X8_init_79 mi_X6_init rfl rfl ⟨(Nat.le_of_ble_eq_true rfl), (Nat.le_of_ble_eq_true rfl)⟩ ⟨(Nat.le_of_ble_eq_true rfl), (Nat.le_of_ble_eq_true rfl)⟩ (Nat.le_of_ble_eq_true rfl) (K_X6 26 (pw_E g [.ref (g.2.2.1 + 1), .int 0, .ref (g.2.2.1 + 2), .ref (g.2.2.1 + 11), .ref (g.2.2.1 + 12), .ref (g.2.2.1 + 21), .null, .null, .null, .null, .int 0, .int 0, .null, .null, .null, .null, .int 0] 0 0 0 0)) (fun r E1 hh => ?_)
  obtain ⟨h1, h2⟩ := hh
  subst h1
  subst h2
  show pm_W g mX8_init _ _ _ 82 _ [.ref (g.2.2.1 + 26), .ref (g.2.2.1 + 0)] _ _
  refine pw_cg (pw_E g [.ref (g.2.2.1 + 1), .int 0, .ref (g.2.2.1 + 2), .ref (g.2.2.1 + 11), .ref (g.2.2.1 + 12), .ref (g.2.2.1 + 21), .null, .null, .null, .null, .int 0, .int 0, .null, .null, .null, .null, .int 0] 0 0 0 0) (cn' := 43) (sn' := 4065) (N' := 44) rfl rfl rfl (pw_sub (N := 26) (n := 18) (fun j hj => match j, hj with | 0, _ => rfl | 1, _ => rfl | 2, _ => rfl | 3, _ => rfl | 4, _ => rfl | 5, _ => rfl | 6, _ => rfl | 7, _ => rfl | 8, _ => rfl | 9, _ => rfl | 10, _ => rfl | 11, _ => rfl | 12, _ => rfl | 13, _ => rfl | 14, _ => rfl | 15, _ => rfl | 16, _ => rfl | 17, _ => rfl | j + 18, h => absurd h (by omega))) ?_
  refine pm_putF 0 d_X8_init_82 (Nat.le_of_ble_eq_true rfl) rfl (Nat.le_of_ble_eq_true rfl) rfl rfl ?_
  refine pw_cg (pw_E g [.ref (g.2.2.1 + 1), .int 0, .ref (g.2.2.1 + 2), .ref (g.2.2.1 + 11), .ref (g.2.2.1 + 12), .ref (g.2.2.1 + 21), .ref (g.2.2.1 + 26), .null, .null, .null, .int 0, .int 0, .null, .null, .null, .null, .int 0] 0 0 0 0) (cn' := 43) (sn' := 4065) (N' := 44) rfl rfl rfl (fun k _ => congrFun pw_put k) ?_
  refine pm_ald d_X8_init_85 rfl ?_
  refine pm_new d_X8_init_86 (Nat.le_of_ble_eq_true rfl) (Nat.le_of_ble_eq_true rfl) ?_
  refine pw_cg (pd (pw_E g [.ref (g.2.2.1 + 1), .int 0, .ref (g.2.2.1 + 2), .ref (g.2.2.1 + 11), .ref (g.2.2.1 + 12), .ref (g.2.2.1 + 21), .ref (g.2.2.1 + 26), .null, .null, .null, .int 0, .int 0, .null, .null, .null, .null, .int 0] 0 0 0 0) 44 [.inr (6, [.null, .null, .null, .null, .null, .null, .null, .null, .int 0, .int 0, .int 0, .int 0, .int 0, .int 0])]) (cn' := 44) (sn' := 4079) (N' := 45) rfl rfl rfl pw_nw ?_
  refine pm_dup d_X8_init_89 rfl ?_
  refine pm_callN (q := 44) (As := []) d_X8_init_90 mi_X6_init rfl rfl ⟨(Nat.le_of_ble_eq_true rfl), (Nat.le_of_ble_eq_true rfl)⟩ ⟨(Nat.le_of_ble_eq_true rfl), (Nat.le_of_ble_eq_true rfl)⟩ (Nat.le_of_ble_eq_true rfl) (K_X6 44 (pw_E g [.ref (g.2.2.1 + 1), .int 0, .ref (g.2.2.1 + 2), .ref (g.2.2.1 + 11), .ref (g.2.2.1 + 12), .ref (g.2.2.1 + 21), .ref (g.2.2.1 + 26), .null, .null, .null, .int 0, .int 0, .null, .null, .null, .null, .int 0] 0 0 0 0)) (fun r E1 hh => ?_)
  obtain ⟨h1, h2⟩ := hh
  subst h1
  subst h2
  show pm_W g mX8_init _ _ _ 93 _ [.ref (g.2.2.1 + 44), .ref (g.2.2.1 + 0)] _ _
  refine pw_cg (pw_E g [.ref (g.2.2.1 + 1), .int 0, .ref (g.2.2.1 + 2), .ref (g.2.2.1 + 11), .ref (g.2.2.1 + 12), .ref (g.2.2.1 + 21), .ref (g.2.2.1 + 26), .null, .null, .null, .int 0, .int 0, .null, .null, .null, .null, .int 0] 0 0 0 0) (cn' := 61) (sn' := 4178) (N' := 62) rfl rfl rfl (pw_sub (N := 44) (n := 18) (fun j hj => match j, hj with | 0, _ => rfl | 1, _ => rfl | 2, _ => rfl | 3, _ => rfl | 4, _ => rfl | 5, _ => rfl | 6, _ => rfl | 7, _ => rfl | 8, _ => rfl | 9, _ => rfl | 10, _ => rfl | 11, _ => rfl | 12, _ => rfl | 13, _ => rfl | 14, _ => rfl | 15, _ => rfl | 16, _ => rfl | 17, _ => rfl | j + 18, h => absurd h (by omega))) ?_
  refine pm_putF 0 d_X8_init_93 (Nat.le_of_ble_eq_true rfl) rfl (Nat.le_of_ble_eq_true rfl) rfl rfl ?_
  refine pw_cg (pw_E g [.ref (g.2.2.1 + 1), .int 0, .ref (g.2.2.1 + 2), .ref (g.2.2.1 + 11), .ref (g.2.2.1 + 12), .ref (g.2.2.1 + 21), .ref (g.2.2.1 + 26), .ref (g.2.2.1 + 44), .null, .null, .int 0, .int 0, .null, .null, .null, .null, .int 0] 0 0 0 0) (cn' := 61) (sn' := 4178) (N' := 62) rfl rfl rfl (fun k _ => congrFun pw_put k) ?_
  refine pm_ald d_X8_init_96 rfl ?_
  refine pm_new d_X8_init_97 (Nat.le_of_ble_eq_true rfl) (Nat.le_of_ble_eq_true rfl) ?_
  refine pw_cg (pd (pw_E g [.ref (g.2.2.1 + 1), .int 0, .ref (g.2.2.1 + 2), .ref (g.2.2.1 + 11), .ref (g.2.2.1 + 12), .ref (g.2.2.1 + 21), .ref (g.2.2.1 + 26), .ref (g.2.2.1 + 44), .null, .null, .int 0, .int 0, .null, .null, .null, .null, .int 0] 0 0 0 0) 62 [.inr (6, [.null, .null, .null, .null, .null, .null, .null, .null, .int 0, .int 0, .int 0, .int 0, .int 0, .int 0])]) (cn' := 62) (sn' := 4192) (N' := 63) rfl rfl rfl pw_nw ?_
  refine pm_dup d_X8_init_100 rfl ?_
  refine pm_callN (q := 62) (As := []) d_X8_init_101 mi_X6_init rfl rfl ⟨(Nat.le_of_ble_eq_true rfl), (Nat.le_of_ble_eq_true rfl)⟩ ⟨(Nat.le_of_ble_eq_true rfl), (Nat.le_of_ble_eq_true rfl)⟩ (Nat.le_of_ble_eq_true rfl) (K_X6 62 (pw_E g [.ref (g.2.2.1 + 1), .int 0, .ref (g.2.2.1 + 2), .ref (g.2.2.1 + 11), .ref (g.2.2.1 + 12), .ref (g.2.2.1 + 21), .ref (g.2.2.1 + 26), .ref (g.2.2.1 + 44), .null, .null, .int 0, .int 0, .null, .null, .null, .null, .int 0] 0 0 0 0)) (fun r E1 hh => ?_)
  obtain ⟨h1, h2⟩ := hh
  subst h1
  subst h2
  show pm_W g mX8_init _ _ _ 104 _ [.ref (g.2.2.1 + 62), .ref (g.2.2.1 + 0)] _ _
  refine pw_cg (pw_E g [.ref (g.2.2.1 + 1), .int 0, .ref (g.2.2.1 + 2), .ref (g.2.2.1 + 11), .ref (g.2.2.1 + 12), .ref (g.2.2.1 + 21), .ref (g.2.2.1 + 26), .ref (g.2.2.1 + 44), .null, .null, .int 0, .int 0, .null, .null, .null, .null, .int 0] 0 0 0 0) (cn' := 79) (sn' := 4291) (N' := 80) rfl rfl rfl (pw_sub (N := 62) (n := 18) (fun j hj => match j, hj with | 0, _ => rfl | 1, _ => rfl | 2, _ => rfl | 3, _ => rfl | 4, _ => rfl | 5, _ => rfl | 6, _ => rfl | 7, _ => rfl | 8, _ => rfl | 9, _ => rfl | 10, _ => rfl | 11, _ => rfl | 12, _ => rfl | 13, _ => rfl | 14, _ => rfl | 15, _ => rfl | 16, _ => rfl | 17, _ => rfl | j + 18, h => absurd h (by omega))) ?_
  refine pm_putF 0 d_X8_init_104 (Nat.le_of_ble_eq_true rfl) rfl (Nat.le_of_ble_eq_true rfl) rfl rfl ?_
  refine pw_cg (pw_E g [.ref (g.2.2.1 + 1), .int 0, .ref (g.2.2.1 + 2), .ref (g.2.2.1 + 11), .ref (g.2.2.1 + 12), .ref (g.2.2.1 + 21), .ref (g.2.2.1 + 26), .ref (g.2.2.1 + 44), .ref (g.2.2.1 + 62), .null, .int 0, .int 0, .null, .null, .null, .null, .int 0] 0 0 0 0) (cn' := 79) (sn' := 4291) (N' := 80) rfl rfl rfl (fun k _ => congrFun pw_put k) ?_
  refine pm_ald d_X8_init_107 rfl ?_
  refine pm_ki d_X8_init_108 ?_
  refine pm_newq5 (nn := 10) d_X8_init_110 (by decide) rfl (by decide) (Nat.le_of_ble_eq_true rfl) (Nat.le_of_ble_eq_true rfl) ?_
  rw [pw_q0 g 85 18]
  refine pw_cg (pw_E g [.ref (g.2.2.1 + 1), .int 0, .ref (g.2.2.1 + 2), .ref (g.2.2.1 + 11), .ref (g.2.2.1 + 12), .ref (g.2.2.1 + 21), .ref (g.2.2.1 + 26), .ref (g.2.2.1 + 44), .ref (g.2.2.1 + 62), .null, .int 0, .int 0, .null, .null, .null, .null, .int 0] 0 0 0 0) (cn' := 80) (sn' := 4301) (N' := 81) rfl rfl rfl (pw_one rfl) ?_
  refine pm_putF 0 d_X8_init_113 (Nat.le_of_ble_eq_true rfl) rfl (Nat.le_of_ble_eq_true rfl) rfl rfl ?_
  refine pw_cg (pw_E g [.ref (g.2.2.1 + 1), .int 0, .ref (g.2.2.1 + 2), .ref (g.2.2.1 + 11), .ref (g.2.2.1 + 12), .ref (g.2.2.1 + 21), .ref (g.2.2.1 + 26), .ref (g.2.2.1 + 44), .ref (g.2.2.1 + 62), .ref (g.2.2.1 + 80), .int 0, .int 0, .null, .null, .null, .null, .int 0] 0 0 0 0) (cn' := 80) (sn' := 4301) (N' := 81) rfl rfl rfl (fun k _ => congrFun pw_put k) ?_
  refine pm_ald d_X8_init_116 rfl ?_
  refine pm_ki d_X8_init_117 ?_
  refine pm_put 0 d_X8_init_118 (Nat.le_of_ble_eq_true rfl) rfl (Nat.le_of_ble_eq_true rfl) rfl rfl ?_
  refine pw_cg (pw_E g [.ref (g.2.2.1 + 1), .int 0, .ref (g.2.2.1 + 2), .ref (g.2.2.1 + 11), .ref (g.2.2.1 + 12), .ref (g.2.2.1 + 21), .ref (g.2.2.1 + 26), .ref (g.2.2.1 + 44), .ref (g.2.2.1 + 62), .ref (g.2.2.1 + 80), .int 0, .int 0, .null, .null, .null, .null, .int 0] 0 0 0 0) (cn' := 80) (sn' := 4301) (N' := 81) rfl rfl rfl (fun k _ => congrFun pw_put k) ?_
  refine pm_ald d_X8_init_121 rfl ?_
  refine pm_ki d_X8_init_122 ?_
  refine pm_put 0 d_X8_init_123 (Nat.le_of_ble_eq_true rfl) rfl (Nat.le_of_ble_eq_true rfl) rfl rfl ?_
  refine pw_cg (pw_E g [.ref (g.2.2.1 + 1), .int 0, .ref (g.2.2.1 + 2), .ref (g.2.2.1 + 11), .ref (g.2.2.1 + 12), .ref (g.2.2.1 + 21), .ref (g.2.2.1 + 26), .ref (g.2.2.1 + 44), .ref (g.2.2.1 + 62), .ref (g.2.2.1 + 80), .int 0, .int 0, .null, .null, .null, .null, .int 0] 0 0 0 0) (cn' := 80) (sn' := 4301) (N' := 81) rfl rfl rfl (fun k _ => congrFun pw_put k) ?_
  refine pm_ald d_X8_init_126 rfl ?_
  refine pm_ki d_X8_init_127 ?_
  refine pm_newq6 (nn := 4) d_X8_init_128 (by decide) rfl (by decide) (Nat.le_of_ble_eq_true rfl) (Nat.le_of_ble_eq_true rfl) ?_
  rw [pw_q0 g 265 2]
  refine pw_cg (pw_E g [.ref (g.2.2.1 + 1), .int 0, .ref (g.2.2.1 + 2), .ref (g.2.2.1 + 11), .ref (g.2.2.1 + 12), .ref (g.2.2.1 + 21), .ref (g.2.2.1 + 26), .ref (g.2.2.1 + 44), .ref (g.2.2.1 + 62), .ref (g.2.2.1 + 80), .int 0, .int 0, .null, .null, .null, .null, .int 0] 0 0 0 0) (cn' := 81) (sn' := 4305) (N' := 82) rfl rfl rfl (pw_one rfl) ?_
  refine pm_putF 0 d_X8_init_131 (Nat.le_of_ble_eq_true rfl) rfl (Nat.le_of_ble_eq_true rfl) rfl rfl ?_
  refine pw_cg (pw_E g [.ref (g.2.2.1 + 1), .int 0, .ref (g.2.2.1 + 2), .ref (g.2.2.1 + 11), .ref (g.2.2.1 + 12), .ref (g.2.2.1 + 21), .ref (g.2.2.1 + 26), .ref (g.2.2.1 + 44), .ref (g.2.2.1 + 62), .ref (g.2.2.1 + 80), .int 0, .int 0, .ref (g.2.2.1 + 81), .null, .null, .null, .int 0] 0 0 0 0) (cn' := 81) (sn' := 4305) (N' := 82) rfl rfl rfl (fun k _ => congrFun pw_put k) ?_
  refine pm_ald d_X8_init_134 rfl ?_
  refine pm_ki d_X8_init_135 ?_
  refine pm_newq7 (nn := 2) d_X8_init_136 (by decide) rfl (by decide) (Nat.le_of_ble_eq_true rfl) (Nat.le_of_ble_eq_true rfl) ?_
  rw [pw_q0 g 273 27]
  refine pw_cg (pw_E g [.ref (g.2.2.1 + 1), .int 0, .ref (g.2.2.1 + 2), .ref (g.2.2.1 + 11), .ref (g.2.2.1 + 12), .ref (g.2.2.1 + 21), .ref (g.2.2.1 + 26), .ref (g.2.2.1 + 44), .ref (g.2.2.1 + 62), .ref (g.2.2.1 + 80), .int 0, .int 0, .ref (g.2.2.1 + 81), .null, .null, .null, .int 0] 0 0 0 0) (cn' := 82) (sn' := 4307) (N' := 83) rfl rfl rfl (pw_one rfl) ?_
  refine pm_putF 0 d_X8_init_139 (Nat.le_of_ble_eq_true rfl) rfl (Nat.le_of_ble_eq_true rfl) rfl rfl ?_
  refine pw_cg (pw_E g [.ref (g.2.2.1 + 1), .int 0, .ref (g.2.2.1 + 2), .ref (g.2.2.1 + 11), .ref (g.2.2.1 + 12), .ref (g.2.2.1 + 21), .ref (g.2.2.1 + 26), .ref (g.2.2.1 + 44), .ref (g.2.2.1 + 62), .ref (g.2.2.1 + 80), .int 0, .int 0, .ref (g.2.2.1 + 81), .ref (g.2.2.1 + 82), .null, .null, .int 0] 0 0 0 0) (cn' := 82) (sn' := 4307) (N' := 83) rfl rfl rfl (fun k _ => congrFun pw_put k) ?_
  refine pm_ald d_X8_init_142 rfl ?_
  refine pm_ki d_X8_init_143 ?_
  refine pm_newq5 (nn := 2) d_X8_init_144 (by decide) rfl (by decide) (Nat.le_of_ble_eq_true rfl) (Nat.le_of_ble_eq_true rfl) ?_
  rw [pw_q0 g 282 27]
  refine pw_cg (pw_E g [.ref (g.2.2.1 + 1), .int 0, .ref (g.2.2.1 + 2), .ref (g.2.2.1 + 11), .ref (g.2.2.1 + 12), .ref (g.2.2.1 + 21), .ref (g.2.2.1 + 26), .ref (g.2.2.1 + 44), .ref (g.2.2.1 + 62), .ref (g.2.2.1 + 80), .int 0, .int 0, .ref (g.2.2.1 + 81), .ref (g.2.2.1 + 82), .null, .null, .int 0] 0 0 0 0) (cn' := 83) (sn' := 4309) (N' := 84) rfl rfl rfl (pw_one rfl) ?_
  refine pm_putF 0 d_X8_init_147 (Nat.le_of_ble_eq_true rfl) rfl (Nat.le_of_ble_eq_true rfl) rfl rfl ?_
  refine pw_cg (pw_E g [.ref (g.2.2.1 + 1), .int 0, .ref (g.2.2.1 + 2), .ref (g.2.2.1 + 11), .ref (g.2.2.1 + 12), .ref (g.2.2.1 + 21), .ref (g.2.2.1 + 26), .ref (g.2.2.1 + 44), .ref (g.2.2.1 + 62), .ref (g.2.2.1 + 80), .int 0, .int 0, .ref (g.2.2.1 + 81), .ref (g.2.2.1 + 82), .ref (g.2.2.1 + 83), .null, .int 0] 0 0 0 0) (cn' := 83) (sn' := 4309) (N' := 84) rfl rfl rfl (fun k _ => congrFun pw_put k) ?_
  refine pm_ald d_X8_init_150 rfl ?_
  refine pm_ki d_X8_init_151 ?_
  refine pm_newa_boolean (nn := 2) d_X8_init_152 (by decide) rfl (by decide) (Nat.le_of_ble_eq_true rfl) (Nat.le_of_ble_eq_true rfl) ?_
  refine pw_cg (pw_E g [.ref (g.2.2.1 + 1), .int 0, .ref (g.2.2.1 + 2), .ref (g.2.2.1 + 11), .ref (g.2.2.1 + 12), .ref (g.2.2.1 + 21), .ref (g.2.2.1 + 26), .ref (g.2.2.1 + 44), .ref (g.2.2.1 + 62), .ref (g.2.2.1 + 80), .int 0, .int 0, .ref (g.2.2.1 + 81), .ref (g.2.2.1 + 82), .ref (g.2.2.1 + 83), .null, .int 0] 0 0 0 0) (cn' := 84) (sn' := 4311) (N' := 85) rfl rfl rfl (pw_one rfl) ?_
  refine pm_putF 0 d_X8_init_154 (Nat.le_of_ble_eq_true rfl) rfl (Nat.le_of_ble_eq_true rfl) rfl rfl ?_
  refine pw_cg (pw_E g [.ref (g.2.2.1 + 1), .int 0, .ref (g.2.2.1 + 2), .ref (g.2.2.1 + 11), .ref (g.2.2.1 + 12), .ref (g.2.2.1 + 21), .ref (g.2.2.1 + 26), .ref (g.2.2.1 + 44), .ref (g.2.2.1 + 62), .ref (g.2.2.1 + 80), .int 0, .int 0, .ref (g.2.2.1 + 81), .ref (g.2.2.1 + 82), .ref (g.2.2.1 + 83), .ref (g.2.2.1 + 84), .int 0] 0 0 0 0) (cn' := 84) (sn' := 4311) (N' := 85) rfl rfl rfl (fun k _ => congrFun pw_put k) ?_
  refine pm_ald d_X8_init_157 rfl ?_
  refine pm_ki d_X8_init_158 ?_
  refine pm_put 0 d_X8_init_159 (Nat.le_of_ble_eq_true rfl) rfl (Nat.le_of_ble_eq_true rfl) rfl rfl ?_
  refine pw_cg (pw_E g [.ref (g.2.2.1 + 1), .int 0, .ref (g.2.2.1 + 2), .ref (g.2.2.1 + 11), .ref (g.2.2.1 + 12), .ref (g.2.2.1 + 21), .ref (g.2.2.1 + 26), .ref (g.2.2.1 + 44), .ref (g.2.2.1 + 62), .ref (g.2.2.1 + 80), .int 0, .int 0, .ref (g.2.2.1 + 81), .ref (g.2.2.1 + 82), .ref (g.2.2.1 + 83), .ref (g.2.2.1 + 84), .int 0] 0 0 0 0) (cn' := 84) (sn' := 4311) (N' := 85) rfl rfl rfl (fun k _ => congrFun pw_put k) ?_
  refine pm_ki d_X8_init_162 ?_
  refine pm_ist1 d_X8_init_163 rfl (by decide) ?_
  refine pm_ild d_X8_init_164 rfl ?_
  refine pm_ki d_X8_init_165 ?_
  refine pm_icmp_ge d_X8_init_167 (fun c => absurd c (by decide)) (fun c => ?_)
  refine pm_ald d_X8_init_170 rfl ?_
  refine pm_get 0 d_X8_init_171 (Nat.le_of_ble_eq_true rfl) rfl rfl ?_
  refine pm_ild d_X8_init_174 rfl ?_
  refine pm_new d_X8_init_175 (Nat.le_of_ble_eq_true rfl) (Nat.le_of_ble_eq_true rfl) ?_
  refine pw_cg (pd (pw_E g [.ref (g.2.2.1 + 1), .int 0, .ref (g.2.2.1 + 2), .ref (g.2.2.1 + 11), .ref (g.2.2.1 + 12), .ref (g.2.2.1 + 21), .ref (g.2.2.1 + 26), .ref (g.2.2.1 + 44), .ref (g.2.2.1 + 62), .ref (g.2.2.1 + 80), .int 0, .int 0, .ref (g.2.2.1 + 81), .ref (g.2.2.1 + 82), .ref (g.2.2.1 + 83), .ref (g.2.2.1 + 84), .int 0] 0 0 0 0) 85 [.inr (6, [.null, .null, .null, .null, .null, .null, .null, .null, .int 0, .int 0, .int 0, .int 0, .int 0, .int 0])]) (cn' := 85) (sn' := 4325) (N' := 86) rfl rfl rfl pw_nw ?_
  refine pm_dup d_X8_init_178 rfl ?_
  refine pm_callN (q := 85) (As := []) d_X8_init_179 mi_X6_init rfl rfl ⟨(Nat.le_of_ble_eq_true rfl), (Nat.le_of_ble_eq_true rfl)⟩ ⟨(Nat.le_of_ble_eq_true rfl), (Nat.le_of_ble_eq_true rfl)⟩ (Nat.le_of_ble_eq_true rfl) (K_X6 85 (pw_E g [.ref (g.2.2.1 + 1), .int 0, .ref (g.2.2.1 + 2), .ref (g.2.2.1 + 11), .ref (g.2.2.1 + 12), .ref (g.2.2.1 + 21), .ref (g.2.2.1 + 26), .ref (g.2.2.1 + 44), .ref (g.2.2.1 + 62), .ref (g.2.2.1 + 80), .int 0, .int 0, .ref (g.2.2.1 + 81), .ref (g.2.2.1 + 82), .ref (g.2.2.1 + 83), .ref (g.2.2.1 + 84), .int 0] 0 0 0 0)) (fun r E1 hh => ?_)
  obtain ⟨h1, h2⟩ := hh
  subst h1
  subst h2
  show pm_W g mX8_init _ _ _ 182 _ [.ref (g.2.2.1 + 85), .int 0, .ref (g.2.2.1 + 80)] _ _
  refine pw_cg (pw_E g [.ref (g.2.2.1 + 1), .int 0, .ref (g.2.2.1 + 2), .ref (g.2.2.1 + 11), .ref (g.2.2.1 + 12), .ref (g.2.2.1 + 21), .ref (g.2.2.1 + 26), .ref (g.2.2.1 + 44), .ref (g.2.2.1 + 62), .ref (g.2.2.1 + 80), .int 0, .int 0, .ref (g.2.2.1 + 81), .ref (g.2.2.1 + 82), .ref (g.2.2.1 + 83), .ref (g.2.2.1 + 84), .int 0] 0 0 0 0) (cn' := 102) (sn' := 4424) (N' := 103) rfl rfl rfl (pw_sub (N := 85) (n := 18) (fun j hj => match j, hj with | 0, _ => rfl | 1, _ => rfl | 2, _ => rfl | 3, _ => rfl | 4, _ => rfl | 5, _ => rfl | 6, _ => rfl | 7, _ => rfl | 8, _ => rfl | 9, _ => rfl | 10, _ => rfl | 11, _ => rfl | 12, _ => rfl | 13, _ => rfl | 14, _ => rfl | 15, _ => rfl | 16, _ => rfl | 17, _ => rfl | j + 18, h => absurd h (by omega))) ?_
  refine pm_qast5 80 85 d_X8_init_182 (Nat.le_of_ble_eq_true rfl) (Nat.le_of_ble_eq_true rfl) rfl rfl (vp_in_nI (n := 0) (N := 10) (by decide) (by decide)) ?_
  refine pw_cg (pw_E g [.ref (g.2.2.1 + 1), .int 0, .ref (g.2.2.1 + 2), .ref (g.2.2.1 + 11), .ref (g.2.2.1 + 12), .ref (g.2.2.1 + 21), .ref (g.2.2.1 + 26), .ref (g.2.2.1 + 44), .ref (g.2.2.1 + 62), .ref (g.2.2.1 + 80), .int 0, .int 0, .ref (g.2.2.1 + 81), .ref (g.2.2.1 + 82), .ref (g.2.2.1 + 83), .ref (g.2.2.1 + 84), .int 0] 1 0 0 0) (cn' := 102) (sn' := 4424) (N' := 103) rfl rfl rfl (fun k _ => congrFun pw_s0 k) ?_
  refine pm_inc1 d_X8_init_183 rfl ?_
  rw [show (0 : Int32) + 1 = 1 by decide]
  refine pm_goto d_X8_init_186 ?_
  refine pm_ild d_X8_init_164 rfl ?_
  refine pm_ki d_X8_init_165 ?_
  refine pm_icmp_ge d_X8_init_167 (fun c => absurd c (by decide)) (fun c => ?_)
  refine pm_ald d_X8_init_170 rfl ?_
  refine pm_get 0 d_X8_init_171 (Nat.le_of_ble_eq_true rfl) rfl rfl ?_
  refine pm_ild d_X8_init_174 rfl ?_
  refine pm_new d_X8_init_175 (Nat.le_of_ble_eq_true rfl) (Nat.le_of_ble_eq_true rfl) ?_
  refine pw_cg (pd (pw_E g [.ref (g.2.2.1 + 1), .int 0, .ref (g.2.2.1 + 2), .ref (g.2.2.1 + 11), .ref (g.2.2.1 + 12), .ref (g.2.2.1 + 21), .ref (g.2.2.1 + 26), .ref (g.2.2.1 + 44), .ref (g.2.2.1 + 62), .ref (g.2.2.1 + 80), .int 0, .int 0, .ref (g.2.2.1 + 81), .ref (g.2.2.1 + 82), .ref (g.2.2.1 + 83), .ref (g.2.2.1 + 84), .int 0] 1 0 0 0) 103 [.inr (6, [.null, .null, .null, .null, .null, .null, .null, .null, .int 0, .int 0, .int 0, .int 0, .int 0, .int 0])]) (cn' := 103) (sn' := 4438) (N' := 104) rfl rfl rfl pw_nw ?_
  refine pm_dup d_X8_init_178 rfl ?_
  refine pm_callN (q := 103) (As := []) d_X8_init_179 mi_X6_init rfl rfl ⟨(Nat.le_of_ble_eq_true rfl), (Nat.le_of_ble_eq_true rfl)⟩ ⟨(Nat.le_of_ble_eq_true rfl), (Nat.le_of_ble_eq_true rfl)⟩ (Nat.le_of_ble_eq_true rfl) (K_X6 103 (pw_E g [.ref (g.2.2.1 + 1), .int 0, .ref (g.2.2.1 + 2), .ref (g.2.2.1 + 11), .ref (g.2.2.1 + 12), .ref (g.2.2.1 + 21), .ref (g.2.2.1 + 26), .ref (g.2.2.1 + 44), .ref (g.2.2.1 + 62), .ref (g.2.2.1 + 80), .int 0, .int 0, .ref (g.2.2.1 + 81), .ref (g.2.2.1 + 82), .ref (g.2.2.1 + 83), .ref (g.2.2.1 + 84), .int 0] 1 0 0 0)) (fun r E1 hh => ?_)
  obtain ⟨h1, h2⟩ := hh
  subst h1
  subst h2
  show pm_W g mX8_init _ _ _ 182 _ [.ref (g.2.2.1 + 103), .int 1, .ref (g.2.2.1 + 80)] _ _
  refine pw_cg (pw_E g [.ref (g.2.2.1 + 1), .int 0, .ref (g.2.2.1 + 2), .ref (g.2.2.1 + 11), .ref (g.2.2.1 + 12), .ref (g.2.2.1 + 21), .ref (g.2.2.1 + 26), .ref (g.2.2.1 + 44), .ref (g.2.2.1 + 62), .ref (g.2.2.1 + 80), .int 0, .int 0, .ref (g.2.2.1 + 81), .ref (g.2.2.1 + 82), .ref (g.2.2.1 + 83), .ref (g.2.2.1 + 84), .int 0] 1 0 0 0) (cn' := 120) (sn' := 4537) (N' := 121) rfl rfl rfl (pw_sub (N := 103) (n := 18) (fun j hj => match j, hj with | 0, _ => rfl | 1, _ => rfl | 2, _ => rfl | 3, _ => rfl | 4, _ => rfl | 5, _ => rfl | 6, _ => rfl | 7, _ => rfl | 8, _ => rfl | 9, _ => rfl | 10, _ => rfl | 11, _ => rfl | 12, _ => rfl | 13, _ => rfl | 14, _ => rfl | 15, _ => rfl | 16, _ => rfl | 17, _ => rfl | j + 18, h => absurd h (by omega))) ?_
  refine pm_qast5 80 103 d_X8_init_182 (Nat.le_of_ble_eq_true rfl) (Nat.le_of_ble_eq_true rfl) rfl rfl (vp_in_nI (n := 1) (N := 10) (by decide) (by decide)) ?_
  refine pw_cg (pw_E g [.ref (g.2.2.1 + 1), .int 0, .ref (g.2.2.1 + 2), .ref (g.2.2.1 + 11), .ref (g.2.2.1 + 12), .ref (g.2.2.1 + 21), .ref (g.2.2.1 + 26), .ref (g.2.2.1 + 44), .ref (g.2.2.1 + 62), .ref (g.2.2.1 + 80), .int 0, .int 0, .ref (g.2.2.1 + 81), .ref (g.2.2.1 + 82), .ref (g.2.2.1 + 83), .ref (g.2.2.1 + 84), .int 0] 2 0 0 0) (cn' := 120) (sn' := 4537) (N' := 121) rfl rfl rfl (fun k _ => congrFun pw_s0 k) ?_
  refine pm_inc1 d_X8_init_183 rfl ?_
  rw [show (1 : Int32) + 1 = 2 by decide]
  refine pm_goto d_X8_init_186 ?_
  refine pm_ild d_X8_init_164 rfl ?_
  refine pm_ki d_X8_init_165 ?_
  refine pm_icmp_ge d_X8_init_167 (fun c => absurd c (by decide)) (fun c => ?_)
  refine pm_ald d_X8_init_170 rfl ?_
  refine pm_get 0 d_X8_init_171 (Nat.le_of_ble_eq_true rfl) rfl rfl ?_
  refine pm_ild d_X8_init_174 rfl ?_
  refine pm_new d_X8_init_175 (Nat.le_of_ble_eq_true rfl) (Nat.le_of_ble_eq_true rfl) ?_
  refine pw_cg (pd (pw_E g [.ref (g.2.2.1 + 1), .int 0, .ref (g.2.2.1 + 2), .ref (g.2.2.1 + 11), .ref (g.2.2.1 + 12), .ref (g.2.2.1 + 21), .ref (g.2.2.1 + 26), .ref (g.2.2.1 + 44), .ref (g.2.2.1 + 62), .ref (g.2.2.1 + 80), .int 0, .int 0, .ref (g.2.2.1 + 81), .ref (g.2.2.1 + 82), .ref (g.2.2.1 + 83), .ref (g.2.2.1 + 84), .int 0] 2 0 0 0) 121 [.inr (6, [.null, .null, .null, .null, .null, .null, .null, .null, .int 0, .int 0, .int 0, .int 0, .int 0, .int 0])]) (cn' := 121) (sn' := 4551) (N' := 122) rfl rfl rfl pw_nw ?_
  refine pm_dup d_X8_init_178 rfl ?_
  refine pm_callN (q := 121) (As := []) d_X8_init_179 mi_X6_init rfl rfl ⟨(Nat.le_of_ble_eq_true rfl), (Nat.le_of_ble_eq_true rfl)⟩ ⟨(Nat.le_of_ble_eq_true rfl), (Nat.le_of_ble_eq_true rfl)⟩ (Nat.le_of_ble_eq_true rfl) (K_X6 121 (pw_E g [.ref (g.2.2.1 + 1), .int 0, .ref (g.2.2.1 + 2), .ref (g.2.2.1 + 11), .ref (g.2.2.1 + 12), .ref (g.2.2.1 + 21), .ref (g.2.2.1 + 26), .ref (g.2.2.1 + 44), .ref (g.2.2.1 + 62), .ref (g.2.2.1 + 80), .int 0, .int 0, .ref (g.2.2.1 + 81), .ref (g.2.2.1 + 82), .ref (g.2.2.1 + 83), .ref (g.2.2.1 + 84), .int 0] 2 0 0 0)) (fun r E1 hh => ?_)
  obtain ⟨h1, h2⟩ := hh
  subst h1
  subst h2
  show pm_W g mX8_init _ _ _ 182 _ [.ref (g.2.2.1 + 121), .int 2, .ref (g.2.2.1 + 80)] _ _
  refine pw_cg (pw_E g [.ref (g.2.2.1 + 1), .int 0, .ref (g.2.2.1 + 2), .ref (g.2.2.1 + 11), .ref (g.2.2.1 + 12), .ref (g.2.2.1 + 21), .ref (g.2.2.1 + 26), .ref (g.2.2.1 + 44), .ref (g.2.2.1 + 62), .ref (g.2.2.1 + 80), .int 0, .int 0, .ref (g.2.2.1 + 81), .ref (g.2.2.1 + 82), .ref (g.2.2.1 + 83), .ref (g.2.2.1 + 84), .int 0] 2 0 0 0) (cn' := 138) (sn' := 4650) (N' := 139) rfl rfl rfl (pw_sub (N := 121) (n := 18) (fun j hj => match j, hj with | 0, _ => rfl | 1, _ => rfl | 2, _ => rfl | 3, _ => rfl | 4, _ => rfl | 5, _ => rfl | 6, _ => rfl | 7, _ => rfl | 8, _ => rfl | 9, _ => rfl | 10, _ => rfl | 11, _ => rfl | 12, _ => rfl | 13, _ => rfl | 14, _ => rfl | 15, _ => rfl | 16, _ => rfl | 17, _ => rfl | j + 18, h => absurd h (by omega))) ?_
  refine pm_qast5 80 121 d_X8_init_182 (Nat.le_of_ble_eq_true rfl) (Nat.le_of_ble_eq_true rfl) rfl rfl (vp_in_nI (n := 2) (N := 10) (by decide) (by decide)) ?_
  refine pw_cg (pw_E g [.ref (g.2.2.1 + 1), .int 0, .ref (g.2.2.1 + 2), .ref (g.2.2.1 + 11), .ref (g.2.2.1 + 12), .ref (g.2.2.1 + 21), .ref (g.2.2.1 + 26), .ref (g.2.2.1 + 44), .ref (g.2.2.1 + 62), .ref (g.2.2.1 + 80), .int 0, .int 0, .ref (g.2.2.1 + 81), .ref (g.2.2.1 + 82), .ref (g.2.2.1 + 83), .ref (g.2.2.1 + 84), .int 0] 3 0 0 0) (cn' := 138) (sn' := 4650) (N' := 139) rfl rfl rfl (fun k _ => congrFun pw_s0 k) ?_
  refine pm_inc1 d_X8_init_183 rfl ?_
  rw [show (2 : Int32) + 1 = 3 by decide]
  refine pm_goto d_X8_init_186 ?_
  refine pm_ild d_X8_init_164 rfl ?_
  refine pm_ki d_X8_init_165 ?_
  refine pm_icmp_ge d_X8_init_167 (fun c => absurd c (by decide)) (fun c => ?_)
  refine pm_ald d_X8_init_170 rfl ?_
  refine pm_get 0 d_X8_init_171 (Nat.le_of_ble_eq_true rfl) rfl rfl ?_
  refine pm_ild d_X8_init_174 rfl ?_
  refine pm_new d_X8_init_175 (Nat.le_of_ble_eq_true rfl) (Nat.le_of_ble_eq_true rfl) ?_
  refine pw_cg (pd (pw_E g [.ref (g.2.2.1 + 1), .int 0, .ref (g.2.2.1 + 2), .ref (g.2.2.1 + 11), .ref (g.2.2.1 + 12), .ref (g.2.2.1 + 21), .ref (g.2.2.1 + 26), .ref (g.2.2.1 + 44), .ref (g.2.2.1 + 62), .ref (g.2.2.1 + 80), .int 0, .int 0, .ref (g.2.2.1 + 81), .ref (g.2.2.1 + 82), .ref (g.2.2.1 + 83), .ref (g.2.2.1 + 84), .int 0] 3 0 0 0) 139 [.inr (6, [.null, .null, .null, .null, .null, .null, .null, .null, .int 0, .int 0, .int 0, .int 0, .int 0, .int 0])]) (cn' := 139) (sn' := 4664) (N' := 140) rfl rfl rfl pw_nw ?_
  refine pm_dup d_X8_init_178 rfl ?_
  refine pm_callN (q := 139) (As := []) d_X8_init_179 mi_X6_init rfl rfl ⟨(Nat.le_of_ble_eq_true rfl), (Nat.le_of_ble_eq_true rfl)⟩ ⟨(Nat.le_of_ble_eq_true rfl), (Nat.le_of_ble_eq_true rfl)⟩ (Nat.le_of_ble_eq_true rfl) (K_X6 139 (pw_E g [.ref (g.2.2.1 + 1), .int 0, .ref (g.2.2.1 + 2), .ref (g.2.2.1 + 11), .ref (g.2.2.1 + 12), .ref (g.2.2.1 + 21), .ref (g.2.2.1 + 26), .ref (g.2.2.1 + 44), .ref (g.2.2.1 + 62), .ref (g.2.2.1 + 80), .int 0, .int 0, .ref (g.2.2.1 + 81), .ref (g.2.2.1 + 82), .ref (g.2.2.1 + 83), .ref (g.2.2.1 + 84), .int 0] 3 0 0 0)) (fun r E1 hh => ?_)
  obtain ⟨h1, h2⟩ := hh
  subst h1
  subst h2
  show pm_W g mX8_init _ _ _ 182 _ [.ref (g.2.2.1 + 139), .int 3, .ref (g.2.2.1 + 80)] _ _
  refine pw_cg (pw_E g [.ref (g.2.2.1 + 1), .int 0, .ref (g.2.2.1 + 2), .ref (g.2.2.1 + 11), .ref (g.2.2.1 + 12), .ref (g.2.2.1 + 21), .ref (g.2.2.1 + 26), .ref (g.2.2.1 + 44), .ref (g.2.2.1 + 62), .ref (g.2.2.1 + 80), .int 0, .int 0, .ref (g.2.2.1 + 81), .ref (g.2.2.1 + 82), .ref (g.2.2.1 + 83), .ref (g.2.2.1 + 84), .int 0] 3 0 0 0) (cn' := 156) (sn' := 4763) (N' := 157) rfl rfl rfl (pw_sub (N := 139) (n := 18) (fun j hj => match j, hj with | 0, _ => rfl | 1, _ => rfl | 2, _ => rfl | 3, _ => rfl | 4, _ => rfl | 5, _ => rfl | 6, _ => rfl | 7, _ => rfl | 8, _ => rfl | 9, _ => rfl | 10, _ => rfl | 11, _ => rfl | 12, _ => rfl | 13, _ => rfl | 14, _ => rfl | 15, _ => rfl | 16, _ => rfl | 17, _ => rfl | j + 18, h => absurd h (by omega))) ?_
  refine pm_qast5 80 139 d_X8_init_182 (Nat.le_of_ble_eq_true rfl) (Nat.le_of_ble_eq_true rfl) rfl rfl (vp_in_nI (n := 3) (N := 10) (by decide) (by decide)) ?_
  refine pw_cg (pw_E g [.ref (g.2.2.1 + 1), .int 0, .ref (g.2.2.1 + 2), .ref (g.2.2.1 + 11), .ref (g.2.2.1 + 12), .ref (g.2.2.1 + 21), .ref (g.2.2.1 + 26), .ref (g.2.2.1 + 44), .ref (g.2.2.1 + 62), .ref (g.2.2.1 + 80), .int 0, .int 0, .ref (g.2.2.1 + 81), .ref (g.2.2.1 + 82), .ref (g.2.2.1 + 83), .ref (g.2.2.1 + 84), .int 0] 4 0 0 0) (cn' := 156) (sn' := 4763) (N' := 157) rfl rfl rfl (fun k _ => congrFun pw_s0 k) ?_
  refine pm_inc1 d_X8_init_183 rfl ?_
  rw [show (3 : Int32) + 1 = 4 by decide]
  refine pm_goto d_X8_init_186 ?_
  refine pm_ild d_X8_init_164 rfl ?_
  refine pm_ki d_X8_init_165 ?_
  refine pm_icmp_ge d_X8_init_167 (fun c => absurd c (by decide)) (fun c => ?_)
  refine pm_ald d_X8_init_170 rfl ?_
  refine pm_get 0 d_X8_init_171 (Nat.le_of_ble_eq_true rfl) rfl rfl ?_
  refine pm_ild d_X8_init_174 rfl ?_
  refine pm_new d_X8_init_175 (Nat.le_of_ble_eq_true rfl) (Nat.le_of_ble_eq_true rfl) ?_
  refine pw_cg (pd (pw_E g [.ref (g.2.2.1 + 1), .int 0, .ref (g.2.2.1 + 2), .ref (g.2.2.1 + 11), .ref (g.2.2.1 + 12), .ref (g.2.2.1 + 21), .ref (g.2.2.1 + 26), .ref (g.2.2.1 + 44), .ref (g.2.2.1 + 62), .ref (g.2.2.1 + 80), .int 0, .int 0, .ref (g.2.2.1 + 81), .ref (g.2.2.1 + 82), .ref (g.2.2.1 + 83), .ref (g.2.2.1 + 84), .int 0] 4 0 0 0) 157 [.inr (6, [.null, .null, .null, .null, .null, .null, .null, .null, .int 0, .int 0, .int 0, .int 0, .int 0, .int 0])]) (cn' := 157) (sn' := 4777) (N' := 158) rfl rfl rfl pw_nw ?_
  refine pm_dup d_X8_init_178 rfl ?_
  refine pm_callN (q := 157) (As := []) d_X8_init_179 mi_X6_init rfl rfl ⟨(Nat.le_of_ble_eq_true rfl), (Nat.le_of_ble_eq_true rfl)⟩ ⟨(Nat.le_of_ble_eq_true rfl), (Nat.le_of_ble_eq_true rfl)⟩ (Nat.le_of_ble_eq_true rfl) (K_X6 157 (pw_E g [.ref (g.2.2.1 + 1), .int 0, .ref (g.2.2.1 + 2), .ref (g.2.2.1 + 11), .ref (g.2.2.1 + 12), .ref (g.2.2.1 + 21), .ref (g.2.2.1 + 26), .ref (g.2.2.1 + 44), .ref (g.2.2.1 + 62), .ref (g.2.2.1 + 80), .int 0, .int 0, .ref (g.2.2.1 + 81), .ref (g.2.2.1 + 82), .ref (g.2.2.1 + 83), .ref (g.2.2.1 + 84), .int 0] 4 0 0 0)) (fun r E1 hh => ?_)
  obtain ⟨h1, h2⟩ := hh
  subst h1
  subst h2
  show pm_W g mX8_init _ _ _ 182 _ [.ref (g.2.2.1 + 157), .int 4, .ref (g.2.2.1 + 80)] _ _
  refine pw_cg (pw_E g [.ref (g.2.2.1 + 1), .int 0, .ref (g.2.2.1 + 2), .ref (g.2.2.1 + 11), .ref (g.2.2.1 + 12), .ref (g.2.2.1 + 21), .ref (g.2.2.1 + 26), .ref (g.2.2.1 + 44), .ref (g.2.2.1 + 62), .ref (g.2.2.1 + 80), .int 0, .int 0, .ref (g.2.2.1 + 81), .ref (g.2.2.1 + 82), .ref (g.2.2.1 + 83), .ref (g.2.2.1 + 84), .int 0] 4 0 0 0) (cn' := 174) (sn' := 4876) (N' := 175) rfl rfl rfl (pw_sub (N := 157) (n := 18) (fun j hj => match j, hj with | 0, _ => rfl | 1, _ => rfl | 2, _ => rfl | 3, _ => rfl | 4, _ => rfl | 5, _ => rfl | 6, _ => rfl | 7, _ => rfl | 8, _ => rfl | 9, _ => rfl | 10, _ => rfl | 11, _ => rfl | 12, _ => rfl | 13, _ => rfl | 14, _ => rfl | 15, _ => rfl | 16, _ => rfl | 17, _ => rfl | j + 18, h => absurd h (by omega))) ?_
  refine pm_qast5 80 157 d_X8_init_182 (Nat.le_of_ble_eq_true rfl) (Nat.le_of_ble_eq_true rfl) rfl rfl (vp_in_nI (n := 4) (N := 10) (by decide) (by decide)) ?_
  refine pw_cg (pw_E g [.ref (g.2.2.1 + 1), .int 0, .ref (g.2.2.1 + 2), .ref (g.2.2.1 + 11), .ref (g.2.2.1 + 12), .ref (g.2.2.1 + 21), .ref (g.2.2.1 + 26), .ref (g.2.2.1 + 44), .ref (g.2.2.1 + 62), .ref (g.2.2.1 + 80), .int 0, .int 0, .ref (g.2.2.1 + 81), .ref (g.2.2.1 + 82), .ref (g.2.2.1 + 83), .ref (g.2.2.1 + 84), .int 0] 5 0 0 0) (cn' := 174) (sn' := 4876) (N' := 175) rfl rfl rfl (fun k _ => congrFun pw_s0 k) ?_
  refine pm_inc1 d_X8_init_183 rfl ?_
  rw [show (4 : Int32) + 1 = 5 by decide]
  refine pm_goto d_X8_init_186 ?_
  refine pm_ild d_X8_init_164 rfl ?_
  refine pm_ki d_X8_init_165 ?_
  refine pm_icmp_ge d_X8_init_167 (fun c => absurd c (by decide)) (fun c => ?_)
  refine pm_ald d_X8_init_170 rfl ?_
  refine pm_get 0 d_X8_init_171 (Nat.le_of_ble_eq_true rfl) rfl rfl ?_
  refine pm_ild d_X8_init_174 rfl ?_
  refine pm_new d_X8_init_175 (Nat.le_of_ble_eq_true rfl) (Nat.le_of_ble_eq_true rfl) ?_
  refine pw_cg (pd (pw_E g [.ref (g.2.2.1 + 1), .int 0, .ref (g.2.2.1 + 2), .ref (g.2.2.1 + 11), .ref (g.2.2.1 + 12), .ref (g.2.2.1 + 21), .ref (g.2.2.1 + 26), .ref (g.2.2.1 + 44), .ref (g.2.2.1 + 62), .ref (g.2.2.1 + 80), .int 0, .int 0, .ref (g.2.2.1 + 81), .ref (g.2.2.1 + 82), .ref (g.2.2.1 + 83), .ref (g.2.2.1 + 84), .int 0] 5 0 0 0) 175 [.inr (6, [.null, .null, .null, .null, .null, .null, .null, .null, .int 0, .int 0, .int 0, .int 0, .int 0, .int 0])]) (cn' := 175) (sn' := 4890) (N' := 176) rfl rfl rfl pw_nw ?_
  refine pm_dup d_X8_init_178 rfl ?_
  refine pm_callN (q := 175) (As := []) d_X8_init_179 mi_X6_init rfl rfl ⟨(Nat.le_of_ble_eq_true rfl), (Nat.le_of_ble_eq_true rfl)⟩ ⟨(Nat.le_of_ble_eq_true rfl), (Nat.le_of_ble_eq_true rfl)⟩ (Nat.le_of_ble_eq_true rfl) (K_X6 175 (pw_E g [.ref (g.2.2.1 + 1), .int 0, .ref (g.2.2.1 + 2), .ref (g.2.2.1 + 11), .ref (g.2.2.1 + 12), .ref (g.2.2.1 + 21), .ref (g.2.2.1 + 26), .ref (g.2.2.1 + 44), .ref (g.2.2.1 + 62), .ref (g.2.2.1 + 80), .int 0, .int 0, .ref (g.2.2.1 + 81), .ref (g.2.2.1 + 82), .ref (g.2.2.1 + 83), .ref (g.2.2.1 + 84), .int 0] 5 0 0 0)) (fun r E1 hh => ?_)
  obtain ⟨h1, h2⟩ := hh
  subst h1
  subst h2
  show pm_W g mX8_init _ _ _ 182 _ [.ref (g.2.2.1 + 175), .int 5, .ref (g.2.2.1 + 80)] _ _
  refine pw_cg (pw_E g [.ref (g.2.2.1 + 1), .int 0, .ref (g.2.2.1 + 2), .ref (g.2.2.1 + 11), .ref (g.2.2.1 + 12), .ref (g.2.2.1 + 21), .ref (g.2.2.1 + 26), .ref (g.2.2.1 + 44), .ref (g.2.2.1 + 62), .ref (g.2.2.1 + 80), .int 0, .int 0, .ref (g.2.2.1 + 81), .ref (g.2.2.1 + 82), .ref (g.2.2.1 + 83), .ref (g.2.2.1 + 84), .int 0] 5 0 0 0) (cn' := 192) (sn' := 4989) (N' := 193) rfl rfl rfl (pw_sub (N := 175) (n := 18) (fun j hj => match j, hj with | 0, _ => rfl | 1, _ => rfl | 2, _ => rfl | 3, _ => rfl | 4, _ => rfl | 5, _ => rfl | 6, _ => rfl | 7, _ => rfl | 8, _ => rfl | 9, _ => rfl | 10, _ => rfl | 11, _ => rfl | 12, _ => rfl | 13, _ => rfl | 14, _ => rfl | 15, _ => rfl | 16, _ => rfl | 17, _ => rfl | j + 18, h => absurd h (by omega))) ?_
  refine pm_qast5 80 175 d_X8_init_182 (Nat.le_of_ble_eq_true rfl) (Nat.le_of_ble_eq_true rfl) rfl rfl (vp_in_nI (n := 5) (N := 10) (by decide) (by decide)) ?_
  refine pw_cg (pw_E g [.ref (g.2.2.1 + 1), .int 0, .ref (g.2.2.1 + 2), .ref (g.2.2.1 + 11), .ref (g.2.2.1 + 12), .ref (g.2.2.1 + 21), .ref (g.2.2.1 + 26), .ref (g.2.2.1 + 44), .ref (g.2.2.1 + 62), .ref (g.2.2.1 + 80), .int 0, .int 0, .ref (g.2.2.1 + 81), .ref (g.2.2.1 + 82), .ref (g.2.2.1 + 83), .ref (g.2.2.1 + 84), .int 0] 6 0 0 0) (cn' := 192) (sn' := 4989) (N' := 193) rfl rfl rfl (fun k _ => congrFun pw_s0 k) ?_
  refine pm_inc1 d_X8_init_183 rfl ?_
  rw [show (5 : Int32) + 1 = 6 by decide]
  refine pm_goto d_X8_init_186 ?_
  refine pm_ild d_X8_init_164 rfl ?_
  refine pm_ki d_X8_init_165 ?_
  refine pm_icmp_ge d_X8_init_167 (fun c => absurd c (by decide)) (fun c => ?_)
  refine pm_ald d_X8_init_170 rfl ?_
  refine pm_get 0 d_X8_init_171 (Nat.le_of_ble_eq_true rfl) rfl rfl ?_
  refine pm_ild d_X8_init_174 rfl ?_
  refine pm_new d_X8_init_175 (Nat.le_of_ble_eq_true rfl) (Nat.le_of_ble_eq_true rfl) ?_
  refine pw_cg (pd (pw_E g [.ref (g.2.2.1 + 1), .int 0, .ref (g.2.2.1 + 2), .ref (g.2.2.1 + 11), .ref (g.2.2.1 + 12), .ref (g.2.2.1 + 21), .ref (g.2.2.1 + 26), .ref (g.2.2.1 + 44), .ref (g.2.2.1 + 62), .ref (g.2.2.1 + 80), .int 0, .int 0, .ref (g.2.2.1 + 81), .ref (g.2.2.1 + 82), .ref (g.2.2.1 + 83), .ref (g.2.2.1 + 84), .int 0] 6 0 0 0) 193 [.inr (6, [.null, .null, .null, .null, .null, .null, .null, .null, .int 0, .int 0, .int 0, .int 0, .int 0, .int 0])]) (cn' := 193) (sn' := 5003) (N' := 194) rfl rfl rfl pw_nw ?_
  refine pm_dup d_X8_init_178 rfl ?_
  refine pm_callN (q := 193) (As := []) d_X8_init_179 mi_X6_init rfl rfl ⟨(Nat.le_of_ble_eq_true rfl), (Nat.le_of_ble_eq_true rfl)⟩ ⟨(Nat.le_of_ble_eq_true rfl), (Nat.le_of_ble_eq_true rfl)⟩ (Nat.le_of_ble_eq_true rfl) (K_X6 193 (pw_E g [.ref (g.2.2.1 + 1), .int 0, .ref (g.2.2.1 + 2), .ref (g.2.2.1 + 11), .ref (g.2.2.1 + 12), .ref (g.2.2.1 + 21), .ref (g.2.2.1 + 26), .ref (g.2.2.1 + 44), .ref (g.2.2.1 + 62), .ref (g.2.2.1 + 80), .int 0, .int 0, .ref (g.2.2.1 + 81), .ref (g.2.2.1 + 82), .ref (g.2.2.1 + 83), .ref (g.2.2.1 + 84), .int 0] 6 0 0 0)) (fun r E1 hh => ?_)
  obtain ⟨h1, h2⟩ := hh
  subst h1
  subst h2
  show pm_W g mX8_init _ _ _ 182 _ [.ref (g.2.2.1 + 193), .int 6, .ref (g.2.2.1 + 80)] _ _
  refine pw_cg (pw_E g [.ref (g.2.2.1 + 1), .int 0, .ref (g.2.2.1 + 2), .ref (g.2.2.1 + 11), .ref (g.2.2.1 + 12), .ref (g.2.2.1 + 21), .ref (g.2.2.1 + 26), .ref (g.2.2.1 + 44), .ref (g.2.2.1 + 62), .ref (g.2.2.1 + 80), .int 0, .int 0, .ref (g.2.2.1 + 81), .ref (g.2.2.1 + 82), .ref (g.2.2.1 + 83), .ref (g.2.2.1 + 84), .int 0] 6 0 0 0) (cn' := 210) (sn' := 5102) (N' := 211) rfl rfl rfl (pw_sub (N := 193) (n := 18) (fun j hj => match j, hj with | 0, _ => rfl | 1, _ => rfl | 2, _ => rfl | 3, _ => rfl | 4, _ => rfl | 5, _ => rfl | 6, _ => rfl | 7, _ => rfl | 8, _ => rfl | 9, _ => rfl | 10, _ => rfl | 11, _ => rfl | 12, _ => rfl | 13, _ => rfl | 14, _ => rfl | 15, _ => rfl | 16, _ => rfl | 17, _ => rfl | j + 18, h => absurd h (by omega))) ?_
  refine pm_qast5 80 193 d_X8_init_182 (Nat.le_of_ble_eq_true rfl) (Nat.le_of_ble_eq_true rfl) rfl rfl (vp_in_nI (n := 6) (N := 10) (by decide) (by decide)) ?_
  refine pw_cg (pw_E g [.ref (g.2.2.1 + 1), .int 0, .ref (g.2.2.1 + 2), .ref (g.2.2.1 + 11), .ref (g.2.2.1 + 12), .ref (g.2.2.1 + 21), .ref (g.2.2.1 + 26), .ref (g.2.2.1 + 44), .ref (g.2.2.1 + 62), .ref (g.2.2.1 + 80), .int 0, .int 0, .ref (g.2.2.1 + 81), .ref (g.2.2.1 + 82), .ref (g.2.2.1 + 83), .ref (g.2.2.1 + 84), .int 0] 7 0 0 0) (cn' := 210) (sn' := 5102) (N' := 211) rfl rfl rfl (fun k _ => congrFun pw_s0 k) ?_
  refine pm_inc1 d_X8_init_183 rfl ?_
  rw [show (6 : Int32) + 1 = 7 by decide]
  refine pm_goto d_X8_init_186 ?_
  refine pm_ild d_X8_init_164 rfl ?_
  refine pm_ki d_X8_init_165 ?_
  refine pm_icmp_ge d_X8_init_167 (fun c => absurd c (by decide)) (fun c => ?_)
  refine pm_ald d_X8_init_170 rfl ?_
  refine pm_get 0 d_X8_init_171 (Nat.le_of_ble_eq_true rfl) rfl rfl ?_
  refine pm_ild d_X8_init_174 rfl ?_
  refine pm_new d_X8_init_175 (Nat.le_of_ble_eq_true rfl) (Nat.le_of_ble_eq_true rfl) ?_
  refine pw_cg (pd (pw_E g [.ref (g.2.2.1 + 1), .int 0, .ref (g.2.2.1 + 2), .ref (g.2.2.1 + 11), .ref (g.2.2.1 + 12), .ref (g.2.2.1 + 21), .ref (g.2.2.1 + 26), .ref (g.2.2.1 + 44), .ref (g.2.2.1 + 62), .ref (g.2.2.1 + 80), .int 0, .int 0, .ref (g.2.2.1 + 81), .ref (g.2.2.1 + 82), .ref (g.2.2.1 + 83), .ref (g.2.2.1 + 84), .int 0] 7 0 0 0) 211 [.inr (6, [.null, .null, .null, .null, .null, .null, .null, .null, .int 0, .int 0, .int 0, .int 0, .int 0, .int 0])]) (cn' := 211) (sn' := 5116) (N' := 212) rfl rfl rfl pw_nw ?_
  refine pm_dup d_X8_init_178 rfl ?_
  refine pm_callN (q := 211) (As := []) d_X8_init_179 mi_X6_init rfl rfl ⟨(Nat.le_of_ble_eq_true rfl), (Nat.le_of_ble_eq_true rfl)⟩ ⟨(Nat.le_of_ble_eq_true rfl), (Nat.le_of_ble_eq_true rfl)⟩ (Nat.le_of_ble_eq_true rfl) (K_X6 211 (pw_E g [.ref (g.2.2.1 + 1), .int 0, .ref (g.2.2.1 + 2), .ref (g.2.2.1 + 11), .ref (g.2.2.1 + 12), .ref (g.2.2.1 + 21), .ref (g.2.2.1 + 26), .ref (g.2.2.1 + 44), .ref (g.2.2.1 + 62), .ref (g.2.2.1 + 80), .int 0, .int 0, .ref (g.2.2.1 + 81), .ref (g.2.2.1 + 82), .ref (g.2.2.1 + 83), .ref (g.2.2.1 + 84), .int 0] 7 0 0 0)) (fun r E1 hh => ?_)
  obtain ⟨h1, h2⟩ := hh
  subst h1
  subst h2
  show pm_W g mX8_init _ _ _ 182 _ [.ref (g.2.2.1 + 211), .int 7, .ref (g.2.2.1 + 80)] _ _
  refine pw_cg (pw_E g [.ref (g.2.2.1 + 1), .int 0, .ref (g.2.2.1 + 2), .ref (g.2.2.1 + 11), .ref (g.2.2.1 + 12), .ref (g.2.2.1 + 21), .ref (g.2.2.1 + 26), .ref (g.2.2.1 + 44), .ref (g.2.2.1 + 62), .ref (g.2.2.1 + 80), .int 0, .int 0, .ref (g.2.2.1 + 81), .ref (g.2.2.1 + 82), .ref (g.2.2.1 + 83), .ref (g.2.2.1 + 84), .int 0] 7 0 0 0) (cn' := 228) (sn' := 5215) (N' := 229) rfl rfl rfl (pw_sub (N := 211) (n := 18) (fun j hj => match j, hj with | 0, _ => rfl | 1, _ => rfl | 2, _ => rfl | 3, _ => rfl | 4, _ => rfl | 5, _ => rfl | 6, _ => rfl | 7, _ => rfl | 8, _ => rfl | 9, _ => rfl | 10, _ => rfl | 11, _ => rfl | 12, _ => rfl | 13, _ => rfl | 14, _ => rfl | 15, _ => rfl | 16, _ => rfl | 17, _ => rfl | j + 18, h => absurd h (by omega))) ?_
  refine pm_qast5 80 211 d_X8_init_182 (Nat.le_of_ble_eq_true rfl) (Nat.le_of_ble_eq_true rfl) rfl rfl (vp_in_nI (n := 7) (N := 10) (by decide) (by decide)) ?_
  refine pw_cg (pw_E g [.ref (g.2.2.1 + 1), .int 0, .ref (g.2.2.1 + 2), .ref (g.2.2.1 + 11), .ref (g.2.2.1 + 12), .ref (g.2.2.1 + 21), .ref (g.2.2.1 + 26), .ref (g.2.2.1 + 44), .ref (g.2.2.1 + 62), .ref (g.2.2.1 + 80), .int 0, .int 0, .ref (g.2.2.1 + 81), .ref (g.2.2.1 + 82), .ref (g.2.2.1 + 83), .ref (g.2.2.1 + 84), .int 0] 8 0 0 0) (cn' := 228) (sn' := 5215) (N' := 229) rfl rfl rfl (fun k _ => congrFun pw_s0 k) ?_
  refine pm_inc1 d_X8_init_183 rfl ?_
  rw [show (7 : Int32) + 1 = 8 by decide]
  refine pm_goto d_X8_init_186 ?_
  refine pm_ild d_X8_init_164 rfl ?_
  refine pm_ki d_X8_init_165 ?_
  refine pm_icmp_ge d_X8_init_167 (fun c => absurd c (by decide)) (fun c => ?_)
  refine pm_ald d_X8_init_170 rfl ?_
  refine pm_get 0 d_X8_init_171 (Nat.le_of_ble_eq_true rfl) rfl rfl ?_
  refine pm_ild d_X8_init_174 rfl ?_
  refine pm_new d_X8_init_175 (Nat.le_of_ble_eq_true rfl) (Nat.le_of_ble_eq_true rfl) ?_
  refine pw_cg (pd (pw_E g [.ref (g.2.2.1 + 1), .int 0, .ref (g.2.2.1 + 2), .ref (g.2.2.1 + 11), .ref (g.2.2.1 + 12), .ref (g.2.2.1 + 21), .ref (g.2.2.1 + 26), .ref (g.2.2.1 + 44), .ref (g.2.2.1 + 62), .ref (g.2.2.1 + 80), .int 0, .int 0, .ref (g.2.2.1 + 81), .ref (g.2.2.1 + 82), .ref (g.2.2.1 + 83), .ref (g.2.2.1 + 84), .int 0] 8 0 0 0) 229 [.inr (6, [.null, .null, .null, .null, .null, .null, .null, .null, .int 0, .int 0, .int 0, .int 0, .int 0, .int 0])]) (cn' := 229) (sn' := 5229) (N' := 230) rfl rfl rfl pw_nw ?_
  refine pm_dup d_X8_init_178 rfl ?_
  refine pm_callN (q := 229) (As := []) d_X8_init_179 mi_X6_init rfl rfl ⟨(Nat.le_of_ble_eq_true rfl), (Nat.le_of_ble_eq_true rfl)⟩ ⟨(Nat.le_of_ble_eq_true rfl), (Nat.le_of_ble_eq_true rfl)⟩ (Nat.le_of_ble_eq_true rfl) (K_X6 229 (pw_E g [.ref (g.2.2.1 + 1), .int 0, .ref (g.2.2.1 + 2), .ref (g.2.2.1 + 11), .ref (g.2.2.1 + 12), .ref (g.2.2.1 + 21), .ref (g.2.2.1 + 26), .ref (g.2.2.1 + 44), .ref (g.2.2.1 + 62), .ref (g.2.2.1 + 80), .int 0, .int 0, .ref (g.2.2.1 + 81), .ref (g.2.2.1 + 82), .ref (g.2.2.1 + 83), .ref (g.2.2.1 + 84), .int 0] 8 0 0 0)) (fun r E1 hh => ?_)
  obtain ⟨h1, h2⟩ := hh
  subst h1
  subst h2
  show pm_W g mX8_init _ _ _ 182 _ [.ref (g.2.2.1 + 229), .int 8, .ref (g.2.2.1 + 80)] _ _
  refine pw_cg (pw_E g [.ref (g.2.2.1 + 1), .int 0, .ref (g.2.2.1 + 2), .ref (g.2.2.1 + 11), .ref (g.2.2.1 + 12), .ref (g.2.2.1 + 21), .ref (g.2.2.1 + 26), .ref (g.2.2.1 + 44), .ref (g.2.2.1 + 62), .ref (g.2.2.1 + 80), .int 0, .int 0, .ref (g.2.2.1 + 81), .ref (g.2.2.1 + 82), .ref (g.2.2.1 + 83), .ref (g.2.2.1 + 84), .int 0] 8 0 0 0) (cn' := 246) (sn' := 5328) (N' := 247) rfl rfl rfl (pw_sub (N := 229) (n := 18) (fun j hj => match j, hj with | 0, _ => rfl | 1, _ => rfl | 2, _ => rfl | 3, _ => rfl | 4, _ => rfl | 5, _ => rfl | 6, _ => rfl | 7, _ => rfl | 8, _ => rfl | 9, _ => rfl | 10, _ => rfl | 11, _ => rfl | 12, _ => rfl | 13, _ => rfl | 14, _ => rfl | 15, _ => rfl | 16, _ => rfl | 17, _ => rfl | j + 18, h => absurd h (by omega))) ?_
  refine pm_qast5 80 229 d_X8_init_182 (Nat.le_of_ble_eq_true rfl) (Nat.le_of_ble_eq_true rfl) rfl rfl (vp_in_nI (n := 8) (N := 10) (by decide) (by decide)) ?_
  refine pw_cg (pw_E g [.ref (g.2.2.1 + 1), .int 0, .ref (g.2.2.1 + 2), .ref (g.2.2.1 + 11), .ref (g.2.2.1 + 12), .ref (g.2.2.1 + 21), .ref (g.2.2.1 + 26), .ref (g.2.2.1 + 44), .ref (g.2.2.1 + 62), .ref (g.2.2.1 + 80), .int 0, .int 0, .ref (g.2.2.1 + 81), .ref (g.2.2.1 + 82), .ref (g.2.2.1 + 83), .ref (g.2.2.1 + 84), .int 0] 9 0 0 0) (cn' := 246) (sn' := 5328) (N' := 247) rfl rfl rfl (fun k _ => congrFun pw_s0 k) ?_
  refine pm_inc1 d_X8_init_183 rfl ?_
  rw [show (8 : Int32) + 1 = 9 by decide]
  refine pm_goto d_X8_init_186 ?_
  refine pm_ild d_X8_init_164 rfl ?_
  refine pm_ki d_X8_init_165 ?_
  refine pm_icmp_ge d_X8_init_167 (fun c => absurd c (by decide)) (fun c => ?_)
  refine pm_ald d_X8_init_170 rfl ?_
  refine pm_get 0 d_X8_init_171 (Nat.le_of_ble_eq_true rfl) rfl rfl ?_
  refine pm_ild d_X8_init_174 rfl ?_
  refine pm_new d_X8_init_175 (Nat.le_of_ble_eq_true rfl) (Nat.le_of_ble_eq_true rfl) ?_
  refine pw_cg (pd (pw_E g [.ref (g.2.2.1 + 1), .int 0, .ref (g.2.2.1 + 2), .ref (g.2.2.1 + 11), .ref (g.2.2.1 + 12), .ref (g.2.2.1 + 21), .ref (g.2.2.1 + 26), .ref (g.2.2.1 + 44), .ref (g.2.2.1 + 62), .ref (g.2.2.1 + 80), .int 0, .int 0, .ref (g.2.2.1 + 81), .ref (g.2.2.1 + 82), .ref (g.2.2.1 + 83), .ref (g.2.2.1 + 84), .int 0] 9 0 0 0) 247 [.inr (6, [.null, .null, .null, .null, .null, .null, .null, .null, .int 0, .int 0, .int 0, .int 0, .int 0, .int 0])]) (cn' := 247) (sn' := 5342) (N' := 248) rfl rfl rfl pw_nw ?_
  refine pm_dup d_X8_init_178 rfl ?_
  refine pm_callN (q := 247) (As := []) d_X8_init_179 mi_X6_init rfl rfl ⟨(Nat.le_of_ble_eq_true rfl), (Nat.le_of_ble_eq_true rfl)⟩ ⟨(Nat.le_of_ble_eq_true rfl), (Nat.le_of_ble_eq_true rfl)⟩ (Nat.le_of_ble_eq_true rfl) (K_X6 247 (pw_E g [.ref (g.2.2.1 + 1), .int 0, .ref (g.2.2.1 + 2), .ref (g.2.2.1 + 11), .ref (g.2.2.1 + 12), .ref (g.2.2.1 + 21), .ref (g.2.2.1 + 26), .ref (g.2.2.1 + 44), .ref (g.2.2.1 + 62), .ref (g.2.2.1 + 80), .int 0, .int 0, .ref (g.2.2.1 + 81), .ref (g.2.2.1 + 82), .ref (g.2.2.1 + 83), .ref (g.2.2.1 + 84), .int 0] 9 0 0 0)) (fun r E1 hh => ?_)
  obtain ⟨h1, h2⟩ := hh
  subst h1
  subst h2
  show pm_W g mX8_init _ _ _ 182 _ [.ref (g.2.2.1 + 247), .int 9, .ref (g.2.2.1 + 80)] _ _
  refine pw_cg (pw_E g [.ref (g.2.2.1 + 1), .int 0, .ref (g.2.2.1 + 2), .ref (g.2.2.1 + 11), .ref (g.2.2.1 + 12), .ref (g.2.2.1 + 21), .ref (g.2.2.1 + 26), .ref (g.2.2.1 + 44), .ref (g.2.2.1 + 62), .ref (g.2.2.1 + 80), .int 0, .int 0, .ref (g.2.2.1 + 81), .ref (g.2.2.1 + 82), .ref (g.2.2.1 + 83), .ref (g.2.2.1 + 84), .int 0] 9 0 0 0) (cn' := 264) (sn' := 5441) (N' := 265) rfl rfl rfl (pw_sub (N := 247) (n := 18) (fun j hj => match j, hj with | 0, _ => rfl | 1, _ => rfl | 2, _ => rfl | 3, _ => rfl | 4, _ => rfl | 5, _ => rfl | 6, _ => rfl | 7, _ => rfl | 8, _ => rfl | 9, _ => rfl | 10, _ => rfl | 11, _ => rfl | 12, _ => rfl | 13, _ => rfl | 14, _ => rfl | 15, _ => rfl | 16, _ => rfl | 17, _ => rfl | j + 18, h => absurd h (by omega))) ?_
  refine pm_qast5 80 247 d_X8_init_182 (Nat.le_of_ble_eq_true rfl) (Nat.le_of_ble_eq_true rfl) rfl rfl (vp_in_nI (n := 9) (N := 10) (by decide) (by decide)) ?_
  refine pw_cg (pw_E g [.ref (g.2.2.1 + 1), .int 0, .ref (g.2.2.1 + 2), .ref (g.2.2.1 + 11), .ref (g.2.2.1 + 12), .ref (g.2.2.1 + 21), .ref (g.2.2.1 + 26), .ref (g.2.2.1 + 44), .ref (g.2.2.1 + 62), .ref (g.2.2.1 + 80), .int 0, .int 0, .ref (g.2.2.1 + 81), .ref (g.2.2.1 + 82), .ref (g.2.2.1 + 83), .ref (g.2.2.1 + 84), .int 0] 10 0 0 0) (cn' := 264) (sn' := 5441) (N' := 265) rfl rfl rfl (fun k _ => congrFun pw_s0 k) ?_
  refine pm_inc1 d_X8_init_183 rfl ?_
  rw [show (9 : Int32) + 1 = 10 by decide]
  refine pm_goto d_X8_init_186 ?_
  refine pm_ild d_X8_init_164 rfl ?_
  refine pm_ki d_X8_init_165 ?_
  refine pm_icmp_ge d_X8_init_167 (fun c => ?_) (fun c => absurd (by decide) c)
  refine pm_ki d_X8_init_189 ?_
  refine pm_ist1 d_X8_init_190 rfl (by decide) ?_
  refine pm_ild d_X8_init_191 rfl ?_
  refine pm_ki d_X8_init_192 ?_
  refine pm_icmp_ge d_X8_init_193 (fun c => absurd c (by decide)) (fun c => ?_)
  refine pm_ald d_X8_init_196 rfl ?_
  refine pm_get 0 d_X8_init_197 (Nat.le_of_ble_eq_true rfl) rfl rfl ?_
  refine pm_ild d_X8_init_200 rfl ?_
  refine pm_new d_X8_init_201 (Nat.le_of_ble_eq_true rfl) (Nat.le_of_ble_eq_true rfl) ?_
  refine pw_cg (pd (pw_E g [.ref (g.2.2.1 + 1), .int 0, .ref (g.2.2.1 + 2), .ref (g.2.2.1 + 11), .ref (g.2.2.1 + 12), .ref (g.2.2.1 + 21), .ref (g.2.2.1 + 26), .ref (g.2.2.1 + 44), .ref (g.2.2.1 + 62), .ref (g.2.2.1 + 80), .int 0, .int 0, .ref (g.2.2.1 + 81), .ref (g.2.2.1 + 82), .ref (g.2.2.1 + 83), .ref (g.2.2.1 + 84), .int 0] 10 0 0 0) 265 [.inr (7, [.null, .int 0, .int 0, .int 0])]) (cn' := 265) (sn' := 5445) (N' := 266) rfl rfl rfl pw_nw ?_
  refine pm_dup d_X8_init_204 rfl ?_
  refine pm_callN (q := 265) (As := []) d_X8_init_205 mi_X7_init rfl rfl ⟨(Nat.le_of_ble_eq_true rfl), (Nat.le_of_ble_eq_true rfl)⟩ ⟨(Nat.le_of_ble_eq_true rfl), (Nat.le_of_ble_eq_true rfl)⟩ (Nat.le_of_ble_eq_true rfl) (K_X7 265 (pw_E g [.ref (g.2.2.1 + 1), .int 0, .ref (g.2.2.1 + 2), .ref (g.2.2.1 + 11), .ref (g.2.2.1 + 12), .ref (g.2.2.1 + 21), .ref (g.2.2.1 + 26), .ref (g.2.2.1 + 44), .ref (g.2.2.1 + 62), .ref (g.2.2.1 + 80), .int 0, .int 0, .ref (g.2.2.1 + 81), .ref (g.2.2.1 + 82), .ref (g.2.2.1 + 83), .ref (g.2.2.1 + 84), .int 0] 10 0 0 0)) (fun r E1 hh => ?_)
  obtain ⟨h1, h2⟩ := hh
  subst h1
  subst h2
  show pm_W g mX8_init _ _ _ 208 _ [.ref (g.2.2.1 + 265), .int 0, .ref (g.2.2.1 + 81)] _ _
  refine pw_cg (pw_E g [.ref (g.2.2.1 + 1), .int 0, .ref (g.2.2.1 + 2), .ref (g.2.2.1 + 11), .ref (g.2.2.1 + 12), .ref (g.2.2.1 + 21), .ref (g.2.2.1 + 26), .ref (g.2.2.1 + 44), .ref (g.2.2.1 + 62), .ref (g.2.2.1 + 80), .int 0, .int 0, .ref (g.2.2.1 + 81), .ref (g.2.2.1 + 82), .ref (g.2.2.1 + 83), .ref (g.2.2.1 + 84), .int 0] 10 0 0 0) (cn' := 266) (sn' := 5485) (N' := 267) rfl rfl rfl (pw_sub (N := 265) (n := 2) (fun j hj => match j, hj with | 0, _ => rfl | 1, _ => rfl | j + 2, h => absurd h (by omega))) ?_
  refine pm_qast6 81 265 d_X8_init_208 (Nat.le_of_ble_eq_true rfl) (Nat.le_of_ble_eq_true rfl) rfl rfl (vp_in_nI (n := 0) (N := 4) (by decide) (by decide)) ?_
  refine pw_cg (pw_E g [.ref (g.2.2.1 + 1), .int 0, .ref (g.2.2.1 + 2), .ref (g.2.2.1 + 11), .ref (g.2.2.1 + 12), .ref (g.2.2.1 + 21), .ref (g.2.2.1 + 26), .ref (g.2.2.1 + 44), .ref (g.2.2.1 + 62), .ref (g.2.2.1 + 80), .int 0, .int 0, .ref (g.2.2.1 + 81), .ref (g.2.2.1 + 82), .ref (g.2.2.1 + 83), .ref (g.2.2.1 + 84), .int 0] 10 1 0 0) (cn' := 266) (sn' := 5485) (N' := 267) rfl rfl rfl (fun k _ => congrFun pw_s1 k) ?_
  refine pm_inc1 d_X8_init_209 rfl ?_
  rw [show (0 : Int32) + 1 = 1 by decide]
  refine pm_goto d_X8_init_212 ?_
  refine pm_ild d_X8_init_191 rfl ?_
  refine pm_ki d_X8_init_192 ?_
  refine pm_icmp_ge d_X8_init_193 (fun c => absurd c (by decide)) (fun c => ?_)
  refine pm_ald d_X8_init_196 rfl ?_
  refine pm_get 0 d_X8_init_197 (Nat.le_of_ble_eq_true rfl) rfl rfl ?_
  refine pm_ild d_X8_init_200 rfl ?_
  refine pm_new d_X8_init_201 (Nat.le_of_ble_eq_true rfl) (Nat.le_of_ble_eq_true rfl) ?_
  refine pw_cg (pd (pw_E g [.ref (g.2.2.1 + 1), .int 0, .ref (g.2.2.1 + 2), .ref (g.2.2.1 + 11), .ref (g.2.2.1 + 12), .ref (g.2.2.1 + 21), .ref (g.2.2.1 + 26), .ref (g.2.2.1 + 44), .ref (g.2.2.1 + 62), .ref (g.2.2.1 + 80), .int 0, .int 0, .ref (g.2.2.1 + 81), .ref (g.2.2.1 + 82), .ref (g.2.2.1 + 83), .ref (g.2.2.1 + 84), .int 0] 10 1 0 0) 267 [.inr (7, [.null, .int 0, .int 0, .int 0])]) (cn' := 267) (sn' := 5489) (N' := 268) rfl rfl rfl pw_nw ?_
  refine pm_dup d_X8_init_204 rfl ?_
  refine pm_callN (q := 267) (As := []) d_X8_init_205 mi_X7_init rfl rfl ⟨(Nat.le_of_ble_eq_true rfl), (Nat.le_of_ble_eq_true rfl)⟩ ⟨(Nat.le_of_ble_eq_true rfl), (Nat.le_of_ble_eq_true rfl)⟩ (Nat.le_of_ble_eq_true rfl) (K_X7 267 (pw_E g [.ref (g.2.2.1 + 1), .int 0, .ref (g.2.2.1 + 2), .ref (g.2.2.1 + 11), .ref (g.2.2.1 + 12), .ref (g.2.2.1 + 21), .ref (g.2.2.1 + 26), .ref (g.2.2.1 + 44), .ref (g.2.2.1 + 62), .ref (g.2.2.1 + 80), .int 0, .int 0, .ref (g.2.2.1 + 81), .ref (g.2.2.1 + 82), .ref (g.2.2.1 + 83), .ref (g.2.2.1 + 84), .int 0] 10 1 0 0)) (fun r E1 hh => ?_)
  obtain ⟨h1, h2⟩ := hh
  subst h1
  subst h2
  show pm_W g mX8_init _ _ _ 208 _ [.ref (g.2.2.1 + 267), .int 1, .ref (g.2.2.1 + 81)] _ _
  refine pw_cg (pw_E g [.ref (g.2.2.1 + 1), .int 0, .ref (g.2.2.1 + 2), .ref (g.2.2.1 + 11), .ref (g.2.2.1 + 12), .ref (g.2.2.1 + 21), .ref (g.2.2.1 + 26), .ref (g.2.2.1 + 44), .ref (g.2.2.1 + 62), .ref (g.2.2.1 + 80), .int 0, .int 0, .ref (g.2.2.1 + 81), .ref (g.2.2.1 + 82), .ref (g.2.2.1 + 83), .ref (g.2.2.1 + 84), .int 0] 10 1 0 0) (cn' := 268) (sn' := 5529) (N' := 269) rfl rfl rfl (pw_sub (N := 267) (n := 2) (fun j hj => match j, hj with | 0, _ => rfl | 1, _ => rfl | j + 2, h => absurd h (by omega))) ?_
  refine pm_qast6 81 267 d_X8_init_208 (Nat.le_of_ble_eq_true rfl) (Nat.le_of_ble_eq_true rfl) rfl rfl (vp_in_nI (n := 1) (N := 4) (by decide) (by decide)) ?_
  refine pw_cg (pw_E g [.ref (g.2.2.1 + 1), .int 0, .ref (g.2.2.1 + 2), .ref (g.2.2.1 + 11), .ref (g.2.2.1 + 12), .ref (g.2.2.1 + 21), .ref (g.2.2.1 + 26), .ref (g.2.2.1 + 44), .ref (g.2.2.1 + 62), .ref (g.2.2.1 + 80), .int 0, .int 0, .ref (g.2.2.1 + 81), .ref (g.2.2.1 + 82), .ref (g.2.2.1 + 83), .ref (g.2.2.1 + 84), .int 0] 10 2 0 0) (cn' := 268) (sn' := 5529) (N' := 269) rfl rfl rfl (fun k _ => congrFun pw_s1 k) ?_
  refine pm_inc1 d_X8_init_209 rfl ?_
  rw [show (1 : Int32) + 1 = 2 by decide]
  refine pm_goto d_X8_init_212 ?_
  refine pm_ild d_X8_init_191 rfl ?_
  refine pm_ki d_X8_init_192 ?_
  refine pm_icmp_ge d_X8_init_193 (fun c => absurd c (by decide)) (fun c => ?_)
  refine pm_ald d_X8_init_196 rfl ?_
  refine pm_get 0 d_X8_init_197 (Nat.le_of_ble_eq_true rfl) rfl rfl ?_
  refine pm_ild d_X8_init_200 rfl ?_
  refine pm_new d_X8_init_201 (Nat.le_of_ble_eq_true rfl) (Nat.le_of_ble_eq_true rfl) ?_
  refine pw_cg (pd (pw_E g [.ref (g.2.2.1 + 1), .int 0, .ref (g.2.2.1 + 2), .ref (g.2.2.1 + 11), .ref (g.2.2.1 + 12), .ref (g.2.2.1 + 21), .ref (g.2.2.1 + 26), .ref (g.2.2.1 + 44), .ref (g.2.2.1 + 62), .ref (g.2.2.1 + 80), .int 0, .int 0, .ref (g.2.2.1 + 81), .ref (g.2.2.1 + 82), .ref (g.2.2.1 + 83), .ref (g.2.2.1 + 84), .int 0] 10 2 0 0) 269 [.inr (7, [.null, .int 0, .int 0, .int 0])]) (cn' := 269) (sn' := 5533) (N' := 270) rfl rfl rfl pw_nw ?_
  refine pm_dup d_X8_init_204 rfl ?_
  refine pm_callN (q := 269) (As := []) d_X8_init_205 mi_X7_init rfl rfl ⟨(Nat.le_of_ble_eq_true rfl), (Nat.le_of_ble_eq_true rfl)⟩ ⟨(Nat.le_of_ble_eq_true rfl), (Nat.le_of_ble_eq_true rfl)⟩ (Nat.le_of_ble_eq_true rfl) (K_X7 269 (pw_E g [.ref (g.2.2.1 + 1), .int 0, .ref (g.2.2.1 + 2), .ref (g.2.2.1 + 11), .ref (g.2.2.1 + 12), .ref (g.2.2.1 + 21), .ref (g.2.2.1 + 26), .ref (g.2.2.1 + 44), .ref (g.2.2.1 + 62), .ref (g.2.2.1 + 80), .int 0, .int 0, .ref (g.2.2.1 + 81), .ref (g.2.2.1 + 82), .ref (g.2.2.1 + 83), .ref (g.2.2.1 + 84), .int 0] 10 2 0 0)) (fun r E1 hh => ?_)
  obtain ⟨h1, h2⟩ := hh
  subst h1
  subst h2
  show pm_W g mX8_init _ _ _ 208 _ [.ref (g.2.2.1 + 269), .int 2, .ref (g.2.2.1 + 81)] _ _
  refine pw_cg (pw_E g [.ref (g.2.2.1 + 1), .int 0, .ref (g.2.2.1 + 2), .ref (g.2.2.1 + 11), .ref (g.2.2.1 + 12), .ref (g.2.2.1 + 21), .ref (g.2.2.1 + 26), .ref (g.2.2.1 + 44), .ref (g.2.2.1 + 62), .ref (g.2.2.1 + 80), .int 0, .int 0, .ref (g.2.2.1 + 81), .ref (g.2.2.1 + 82), .ref (g.2.2.1 + 83), .ref (g.2.2.1 + 84), .int 0] 10 2 0 0) (cn' := 270) (sn' := 5573) (N' := 271) rfl rfl rfl (pw_sub (N := 269) (n := 2) (fun j hj => match j, hj with | 0, _ => rfl | 1, _ => rfl | j + 2, h => absurd h (by omega))) ?_
  refine pm_qast6 81 269 d_X8_init_208 (Nat.le_of_ble_eq_true rfl) (Nat.le_of_ble_eq_true rfl) rfl rfl (vp_in_nI (n := 2) (N := 4) (by decide) (by decide)) ?_
  refine pw_cg (pw_E g [.ref (g.2.2.1 + 1), .int 0, .ref (g.2.2.1 + 2), .ref (g.2.2.1 + 11), .ref (g.2.2.1 + 12), .ref (g.2.2.1 + 21), .ref (g.2.2.1 + 26), .ref (g.2.2.1 + 44), .ref (g.2.2.1 + 62), .ref (g.2.2.1 + 80), .int 0, .int 0, .ref (g.2.2.1 + 81), .ref (g.2.2.1 + 82), .ref (g.2.2.1 + 83), .ref (g.2.2.1 + 84), .int 0] 10 3 0 0) (cn' := 270) (sn' := 5573) (N' := 271) rfl rfl rfl (fun k _ => congrFun pw_s1 k) ?_
  refine pm_inc1 d_X8_init_209 rfl ?_
  rw [show (2 : Int32) + 1 = 3 by decide]
  refine pm_goto d_X8_init_212 ?_
  refine pm_ild d_X8_init_191 rfl ?_
  refine pm_ki d_X8_init_192 ?_
  refine pm_icmp_ge d_X8_init_193 (fun c => absurd c (by decide)) (fun c => ?_)
  refine pm_ald d_X8_init_196 rfl ?_
  refine pm_get 0 d_X8_init_197 (Nat.le_of_ble_eq_true rfl) rfl rfl ?_
  refine pm_ild d_X8_init_200 rfl ?_
  refine pm_new d_X8_init_201 (Nat.le_of_ble_eq_true rfl) (Nat.le_of_ble_eq_true rfl) ?_
  refine pw_cg (pd (pw_E g [.ref (g.2.2.1 + 1), .int 0, .ref (g.2.2.1 + 2), .ref (g.2.2.1 + 11), .ref (g.2.2.1 + 12), .ref (g.2.2.1 + 21), .ref (g.2.2.1 + 26), .ref (g.2.2.1 + 44), .ref (g.2.2.1 + 62), .ref (g.2.2.1 + 80), .int 0, .int 0, .ref (g.2.2.1 + 81), .ref (g.2.2.1 + 82), .ref (g.2.2.1 + 83), .ref (g.2.2.1 + 84), .int 0] 10 3 0 0) 271 [.inr (7, [.null, .int 0, .int 0, .int 0])]) (cn' := 271) (sn' := 5577) (N' := 272) rfl rfl rfl pw_nw ?_
  refine pm_dup d_X8_init_204 rfl ?_
  refine pm_callN (q := 271) (As := []) d_X8_init_205 mi_X7_init rfl rfl ⟨(Nat.le_of_ble_eq_true rfl), (Nat.le_of_ble_eq_true rfl)⟩ ⟨(Nat.le_of_ble_eq_true rfl), (Nat.le_of_ble_eq_true rfl)⟩ (Nat.le_of_ble_eq_true rfl) (K_X7 271 (pw_E g [.ref (g.2.2.1 + 1), .int 0, .ref (g.2.2.1 + 2), .ref (g.2.2.1 + 11), .ref (g.2.2.1 + 12), .ref (g.2.2.1 + 21), .ref (g.2.2.1 + 26), .ref (g.2.2.1 + 44), .ref (g.2.2.1 + 62), .ref (g.2.2.1 + 80), .int 0, .int 0, .ref (g.2.2.1 + 81), .ref (g.2.2.1 + 82), .ref (g.2.2.1 + 83), .ref (g.2.2.1 + 84), .int 0] 10 3 0 0)) (fun r E1 hh => ?_)
  obtain ⟨h1, h2⟩ := hh
  subst h1
  subst h2
  show pm_W g mX8_init _ _ _ 208 _ [.ref (g.2.2.1 + 271), .int 3, .ref (g.2.2.1 + 81)] _ _
  refine pw_cg (pw_E g [.ref (g.2.2.1 + 1), .int 0, .ref (g.2.2.1 + 2), .ref (g.2.2.1 + 11), .ref (g.2.2.1 + 12), .ref (g.2.2.1 + 21), .ref (g.2.2.1 + 26), .ref (g.2.2.1 + 44), .ref (g.2.2.1 + 62), .ref (g.2.2.1 + 80), .int 0, .int 0, .ref (g.2.2.1 + 81), .ref (g.2.2.1 + 82), .ref (g.2.2.1 + 83), .ref (g.2.2.1 + 84), .int 0] 10 3 0 0) (cn' := 272) (sn' := 5617) (N' := 273) rfl rfl rfl (pw_sub (N := 271) (n := 2) (fun j hj => match j, hj with | 0, _ => rfl | 1, _ => rfl | j + 2, h => absurd h (by omega))) ?_
  refine pm_qast6 81 271 d_X8_init_208 (Nat.le_of_ble_eq_true rfl) (Nat.le_of_ble_eq_true rfl) rfl rfl (vp_in_nI (n := 3) (N := 4) (by decide) (by decide)) ?_
  refine pw_cg (pw_E g [.ref (g.2.2.1 + 1), .int 0, .ref (g.2.2.1 + 2), .ref (g.2.2.1 + 11), .ref (g.2.2.1 + 12), .ref (g.2.2.1 + 21), .ref (g.2.2.1 + 26), .ref (g.2.2.1 + 44), .ref (g.2.2.1 + 62), .ref (g.2.2.1 + 80), .int 0, .int 0, .ref (g.2.2.1 + 81), .ref (g.2.2.1 + 82), .ref (g.2.2.1 + 83), .ref (g.2.2.1 + 84), .int 0] 10 4 0 0) (cn' := 272) (sn' := 5617) (N' := 273) rfl rfl rfl (fun k _ => congrFun pw_s1 k) ?_
  refine pm_inc1 d_X8_init_209 rfl ?_
  rw [show (3 : Int32) + 1 = 4 by decide]
  refine pm_goto d_X8_init_212 ?_
  refine pm_ild d_X8_init_191 rfl ?_
  refine pm_ki d_X8_init_192 ?_
  refine pm_icmp_ge d_X8_init_193 (fun c => ?_) (fun c => absurd (by decide) c)
  refine pm_ki d_X8_init_215 ?_
  refine pm_ist1 d_X8_init_216 rfl (by decide) ?_
  refine pm_ild d_X8_init_217 rfl ?_
  refine pm_ki d_X8_init_218 ?_
  refine pm_icmp_ge d_X8_init_219 (fun c => absurd c (by decide)) (fun c => ?_)
  refine pm_ald d_X8_init_222 rfl ?_
  refine pm_get 0 d_X8_init_223 (Nat.le_of_ble_eq_true rfl) rfl rfl ?_
  refine pm_ild d_X8_init_226 rfl ?_
  refine pm_new d_X8_init_227 (Nat.le_of_ble_eq_true rfl) (Nat.le_of_ble_eq_true rfl) ?_
  refine pw_cg (pd (pw_E g [.ref (g.2.2.1 + 1), .int 0, .ref (g.2.2.1 + 2), .ref (g.2.2.1 + 11), .ref (g.2.2.1 + 12), .ref (g.2.2.1 + 21), .ref (g.2.2.1 + 26), .ref (g.2.2.1 + 44), .ref (g.2.2.1 + 62), .ref (g.2.2.1 + 80), .int 0, .int 0, .ref (g.2.2.1 + 81), .ref (g.2.2.1 + 82), .ref (g.2.2.1 + 83), .ref (g.2.2.1 + 84), .int 0] 10 4 0 0) 273 [.inr (2, [.int 0, .int 0, .int 0, .int 0, .int 0, .int 0, .int 0, .int 0, .int 0, .int 0, .int 0, .null, .null, .null, .null, .null, .null, .null])]) (cn' := 273) (sn' := 5635) (N' := 274) rfl rfl rfl pw_nw ?_
  refine pm_dup d_X8_init_230 rfl ?_
  refine pm_callN (q := 273) (As := []) d_X8_init_231 mi_X2_init rfl rfl ⟨(Nat.le_of_ble_eq_true rfl), (Nat.le_of_ble_eq_true rfl)⟩ ⟨(Nat.le_of_ble_eq_true rfl), (Nat.le_of_ble_eq_true rfl)⟩ (Nat.le_of_ble_eq_true rfl) (K_X2 273 (pw_E g [.ref (g.2.2.1 + 1), .int 0, .ref (g.2.2.1 + 2), .ref (g.2.2.1 + 11), .ref (g.2.2.1 + 12), .ref (g.2.2.1 + 21), .ref (g.2.2.1 + 26), .ref (g.2.2.1 + 44), .ref (g.2.2.1 + 62), .ref (g.2.2.1 + 80), .int 0, .int 0, .ref (g.2.2.1 + 81), .ref (g.2.2.1 + 82), .ref (g.2.2.1 + 83), .ref (g.2.2.1 + 84), .int 0] 10 4 0 0)) (fun r E1 hh => ?_)
  obtain ⟨h1, h2⟩ := hh
  subst h1
  subst h2
  show pm_W g mX8_init _ _ _ 234 _ [.ref (g.2.2.1 + 273), .int 0, .ref (g.2.2.1 + 82)] _ _
  refine pw_cg (pw_E g [.ref (g.2.2.1 + 1), .int 0, .ref (g.2.2.1 + 2), .ref (g.2.2.1 + 11), .ref (g.2.2.1 + 12), .ref (g.2.2.1 + 21), .ref (g.2.2.1 + 26), .ref (g.2.2.1 + 44), .ref (g.2.2.1 + 62), .ref (g.2.2.1 + 80), .int 0, .int 0, .ref (g.2.2.1 + 81), .ref (g.2.2.1 + 82), .ref (g.2.2.1 + 83), .ref (g.2.2.1 + 84), .int 0] 10 4 0 0) (cn' := 281) (sn' := 6579) (N' := 282) rfl rfl rfl (pw_sub (N := 273) (n := 9) (fun j hj => match j, hj with | 0, _ => rfl | 1, _ => rfl | 2, _ => rfl | 3, _ => rfl | 4, _ => rfl | 5, _ => rfl | 6, _ => rfl | 7, _ => rfl | 8, _ => rfl | j + 9, h => absurd h (by omega))) ?_
  refine pm_qast7 82 273 d_X8_init_234 (Nat.le_of_ble_eq_true rfl) (Nat.le_of_ble_eq_true rfl) rfl rfl (vp_in_nI (n := 0) (N := 2) (by decide) (by decide)) ?_
  refine pw_cg (pw_E g [.ref (g.2.2.1 + 1), .int 0, .ref (g.2.2.1 + 2), .ref (g.2.2.1 + 11), .ref (g.2.2.1 + 12), .ref (g.2.2.1 + 21), .ref (g.2.2.1 + 26), .ref (g.2.2.1 + 44), .ref (g.2.2.1 + 62), .ref (g.2.2.1 + 80), .int 0, .int 0, .ref (g.2.2.1 + 81), .ref (g.2.2.1 + 82), .ref (g.2.2.1 + 83), .ref (g.2.2.1 + 84), .int 0] 10 4 1 0) (cn' := 281) (sn' := 6579) (N' := 282) rfl rfl rfl (fun k _ => congrFun pw_s2 k) ?_
  refine pm_ald d_X8_init_235 rfl ?_
  refine pm_get 0 d_X8_init_236 (Nat.le_of_ble_eq_true rfl) rfl rfl ?_
  refine pm_ild d_X8_init_239 rfl ?_
  refine pm_new d_X8_init_240 (Nat.le_of_ble_eq_true rfl) (Nat.le_of_ble_eq_true rfl) ?_
  refine pw_cg (pd (pw_E g [.ref (g.2.2.1 + 1), .int 0, .ref (g.2.2.1 + 2), .ref (g.2.2.1 + 11), .ref (g.2.2.1 + 12), .ref (g.2.2.1 + 21), .ref (g.2.2.1 + 26), .ref (g.2.2.1 + 44), .ref (g.2.2.1 + 62), .ref (g.2.2.1 + 80), .int 0, .int 0, .ref (g.2.2.1 + 81), .ref (g.2.2.1 + 82), .ref (g.2.2.1 + 83), .ref (g.2.2.1 + 84), .int 0] 10 4 1 0) 282 [.inr (6, [.null, .null, .null, .null, .null, .null, .null, .null, .int 0, .int 0, .int 0, .int 0, .int 0, .int 0])]) (cn' := 282) (sn' := 6593) (N' := 283) rfl rfl rfl pw_nw ?_
  refine pm_dup d_X8_init_243 rfl ?_
  refine pm_callN (q := 282) (As := []) d_X8_init_244 mi_X6_init rfl rfl ⟨(Nat.le_of_ble_eq_true rfl), (Nat.le_of_ble_eq_true rfl)⟩ ⟨(Nat.le_of_ble_eq_true rfl), (Nat.le_of_ble_eq_true rfl)⟩ (Nat.le_of_ble_eq_true rfl) (K_X6 282 (pw_E g [.ref (g.2.2.1 + 1), .int 0, .ref (g.2.2.1 + 2), .ref (g.2.2.1 + 11), .ref (g.2.2.1 + 12), .ref (g.2.2.1 + 21), .ref (g.2.2.1 + 26), .ref (g.2.2.1 + 44), .ref (g.2.2.1 + 62), .ref (g.2.2.1 + 80), .int 0, .int 0, .ref (g.2.2.1 + 81), .ref (g.2.2.1 + 82), .ref (g.2.2.1 + 83), .ref (g.2.2.1 + 84), .int 0] 10 4 1 0)) (fun r E1 hh => ?_)
  obtain ⟨h1, h2⟩ := hh
  subst h1
  subst h2
  show pm_W g mX8_init _ _ _ 247 _ [.ref (g.2.2.1 + 282), .int 0, .ref (g.2.2.1 + 83)] _ _
  refine pw_cg (pw_E g [.ref (g.2.2.1 + 1), .int 0, .ref (g.2.2.1 + 2), .ref (g.2.2.1 + 11), .ref (g.2.2.1 + 12), .ref (g.2.2.1 + 21), .ref (g.2.2.1 + 26), .ref (g.2.2.1 + 44), .ref (g.2.2.1 + 62), .ref (g.2.2.1 + 80), .int 0, .int 0, .ref (g.2.2.1 + 81), .ref (g.2.2.1 + 82), .ref (g.2.2.1 + 83), .ref (g.2.2.1 + 84), .int 0] 10 4 1 0) (cn' := 299) (sn' := 6692) (N' := 300) rfl rfl rfl (pw_sub (N := 282) (n := 18) (fun j hj => match j, hj with | 0, _ => rfl | 1, _ => rfl | 2, _ => rfl | 3, _ => rfl | 4, _ => rfl | 5, _ => rfl | 6, _ => rfl | 7, _ => rfl | 8, _ => rfl | 9, _ => rfl | 10, _ => rfl | 11, _ => rfl | 12, _ => rfl | 13, _ => rfl | 14, _ => rfl | 15, _ => rfl | 16, _ => rfl | 17, _ => rfl | j + 18, h => absurd h (by omega))) ?_
  refine pm_qast5 83 282 d_X8_init_247 (Nat.le_of_ble_eq_true rfl) (Nat.le_of_ble_eq_true rfl) rfl rfl (vp_in_nI (n := 0) (N := 2) (by decide) (by decide)) ?_
  refine pw_cg (pw_E g [.ref (g.2.2.1 + 1), .int 0, .ref (g.2.2.1 + 2), .ref (g.2.2.1 + 11), .ref (g.2.2.1 + 12), .ref (g.2.2.1 + 21), .ref (g.2.2.1 + 26), .ref (g.2.2.1 + 44), .ref (g.2.2.1 + 62), .ref (g.2.2.1 + 80), .int 0, .int 0, .ref (g.2.2.1 + 81), .ref (g.2.2.1 + 82), .ref (g.2.2.1 + 83), .ref (g.2.2.1 + 84), .int 0] 10 4 1 1) (cn' := 299) (sn' := 6692) (N' := 300) rfl rfl rfl (fun k _ => congrFun pw_s3 k) ?_
  refine pm_inc1 d_X8_init_248 rfl ?_
  rw [show (0 : Int32) + 1 = 1 by decide]
  refine pm_goto d_X8_init_251 ?_
  refine pm_ild d_X8_init_217 rfl ?_
  refine pm_ki d_X8_init_218 ?_
  refine pm_icmp_ge d_X8_init_219 (fun c => absurd c (by decide)) (fun c => ?_)
  refine pm_ald d_X8_init_222 rfl ?_
  refine pm_get 0 d_X8_init_223 (Nat.le_of_ble_eq_true rfl) rfl rfl ?_
  refine pm_ild d_X8_init_226 rfl ?_
  refine pm_new d_X8_init_227 (Nat.le_of_ble_eq_true rfl) (Nat.le_of_ble_eq_true rfl) ?_
  refine pw_cg (pd (pw_E g [.ref (g.2.2.1 + 1), .int 0, .ref (g.2.2.1 + 2), .ref (g.2.2.1 + 11), .ref (g.2.2.1 + 12), .ref (g.2.2.1 + 21), .ref (g.2.2.1 + 26), .ref (g.2.2.1 + 44), .ref (g.2.2.1 + 62), .ref (g.2.2.1 + 80), .int 0, .int 0, .ref (g.2.2.1 + 81), .ref (g.2.2.1 + 82), .ref (g.2.2.1 + 83), .ref (g.2.2.1 + 84), .int 0] 10 4 1 1) 300 [.inr (2, [.int 0, .int 0, .int 0, .int 0, .int 0, .int 0, .int 0, .int 0, .int 0, .int 0, .int 0, .null, .null, .null, .null, .null, .null, .null])]) (cn' := 300) (sn' := 6710) (N' := 301) rfl rfl rfl pw_nw ?_
  refine pm_dup d_X8_init_230 rfl ?_
  refine pm_callN (q := 300) (As := []) d_X8_init_231 mi_X2_init rfl rfl ⟨(Nat.le_of_ble_eq_true rfl), (Nat.le_of_ble_eq_true rfl)⟩ ⟨(Nat.le_of_ble_eq_true rfl), (Nat.le_of_ble_eq_true rfl)⟩ (Nat.le_of_ble_eq_true rfl) (K_X2 300 (pw_E g [.ref (g.2.2.1 + 1), .int 0, .ref (g.2.2.1 + 2), .ref (g.2.2.1 + 11), .ref (g.2.2.1 + 12), .ref (g.2.2.1 + 21), .ref (g.2.2.1 + 26), .ref (g.2.2.1 + 44), .ref (g.2.2.1 + 62), .ref (g.2.2.1 + 80), .int 0, .int 0, .ref (g.2.2.1 + 81), .ref (g.2.2.1 + 82), .ref (g.2.2.1 + 83), .ref (g.2.2.1 + 84), .int 0] 10 4 1 1)) (fun r E1 hh => ?_)
  obtain ⟨h1, h2⟩ := hh
  subst h1
  subst h2
  show pm_W g mX8_init _ _ _ 234 _ [.ref (g.2.2.1 + 300), .int 1, .ref (g.2.2.1 + 82)] _ _
  refine pw_cg (pw_E g [.ref (g.2.2.1 + 1), .int 0, .ref (g.2.2.1 + 2), .ref (g.2.2.1 + 11), .ref (g.2.2.1 + 12), .ref (g.2.2.1 + 21), .ref (g.2.2.1 + 26), .ref (g.2.2.1 + 44), .ref (g.2.2.1 + 62), .ref (g.2.2.1 + 80), .int 0, .int 0, .ref (g.2.2.1 + 81), .ref (g.2.2.1 + 82), .ref (g.2.2.1 + 83), .ref (g.2.2.1 + 84), .int 0] 10 4 1 1) (cn' := 308) (sn' := 7654) (N' := 309) rfl rfl rfl (pw_sub (N := 300) (n := 9) (fun j hj => match j, hj with | 0, _ => rfl | 1, _ => rfl | 2, _ => rfl | 3, _ => rfl | 4, _ => rfl | 5, _ => rfl | 6, _ => rfl | 7, _ => rfl | 8, _ => rfl | j + 9, h => absurd h (by omega))) ?_
  refine pm_qast7 82 300 d_X8_init_234 (Nat.le_of_ble_eq_true rfl) (Nat.le_of_ble_eq_true rfl) rfl rfl (vp_in_nI (n := 1) (N := 2) (by decide) (by decide)) ?_
  refine pw_cg (pw_E g [.ref (g.2.2.1 + 1), .int 0, .ref (g.2.2.1 + 2), .ref (g.2.2.1 + 11), .ref (g.2.2.1 + 12), .ref (g.2.2.1 + 21), .ref (g.2.2.1 + 26), .ref (g.2.2.1 + 44), .ref (g.2.2.1 + 62), .ref (g.2.2.1 + 80), .int 0, .int 0, .ref (g.2.2.1 + 81), .ref (g.2.2.1 + 82), .ref (g.2.2.1 + 83), .ref (g.2.2.1 + 84), .int 0] 10 4 2 1) (cn' := 308) (sn' := 7654) (N' := 309) rfl rfl rfl (fun k _ => congrFun pw_s2 k) ?_
  refine pm_ald d_X8_init_235 rfl ?_
  refine pm_get 0 d_X8_init_236 (Nat.le_of_ble_eq_true rfl) rfl rfl ?_
  refine pm_ild d_X8_init_239 rfl ?_
  refine pm_new d_X8_init_240 (Nat.le_of_ble_eq_true rfl) (Nat.le_of_ble_eq_true rfl) ?_
  refine pw_cg (pd (pw_E g [.ref (g.2.2.1 + 1), .int 0, .ref (g.2.2.1 + 2), .ref (g.2.2.1 + 11), .ref (g.2.2.1 + 12), .ref (g.2.2.1 + 21), .ref (g.2.2.1 + 26), .ref (g.2.2.1 + 44), .ref (g.2.2.1 + 62), .ref (g.2.2.1 + 80), .int 0, .int 0, .ref (g.2.2.1 + 81), .ref (g.2.2.1 + 82), .ref (g.2.2.1 + 83), .ref (g.2.2.1 + 84), .int 0] 10 4 2 1) 309 [.inr (6, [.null, .null, .null, .null, .null, .null, .null, .null, .int 0, .int 0, .int 0, .int 0, .int 0, .int 0])]) (cn' := 309) (sn' := 7668) (N' := 310) rfl rfl rfl pw_nw ?_
  refine pm_dup d_X8_init_243 rfl ?_
  refine pm_callN (q := 309) (As := []) d_X8_init_244 mi_X6_init rfl rfl ⟨(Nat.le_of_ble_eq_true rfl), (Nat.le_of_ble_eq_true rfl)⟩ ⟨(Nat.le_of_ble_eq_true rfl), (Nat.le_of_ble_eq_true rfl)⟩ (Nat.le_of_ble_eq_true rfl) (K_X6 309 (pw_E g [.ref (g.2.2.1 + 1), .int 0, .ref (g.2.2.1 + 2), .ref (g.2.2.1 + 11), .ref (g.2.2.1 + 12), .ref (g.2.2.1 + 21), .ref (g.2.2.1 + 26), .ref (g.2.2.1 + 44), .ref (g.2.2.1 + 62), .ref (g.2.2.1 + 80), .int 0, .int 0, .ref (g.2.2.1 + 81), .ref (g.2.2.1 + 82), .ref (g.2.2.1 + 83), .ref (g.2.2.1 + 84), .int 0] 10 4 2 1)) (fun r E1 hh => ?_)
  obtain ⟨h1, h2⟩ := hh
  subst h1
  subst h2
  show pm_W g mX8_init _ _ _ 247 _ [.ref (g.2.2.1 + 309), .int 1, .ref (g.2.2.1 + 83)] _ _
  refine pw_cg (pw_E g [.ref (g.2.2.1 + 1), .int 0, .ref (g.2.2.1 + 2), .ref (g.2.2.1 + 11), .ref (g.2.2.1 + 12), .ref (g.2.2.1 + 21), .ref (g.2.2.1 + 26), .ref (g.2.2.1 + 44), .ref (g.2.2.1 + 62), .ref (g.2.2.1 + 80), .int 0, .int 0, .ref (g.2.2.1 + 81), .ref (g.2.2.1 + 82), .ref (g.2.2.1 + 83), .ref (g.2.2.1 + 84), .int 0] 10 4 2 1) (cn' := 326) (sn' := 7767) (N' := 327) rfl rfl rfl (pw_sub (N := 309) (n := 18) (fun j hj => match j, hj with | 0, _ => rfl | 1, _ => rfl | 2, _ => rfl | 3, _ => rfl | 4, _ => rfl | 5, _ => rfl | 6, _ => rfl | 7, _ => rfl | 8, _ => rfl | 9, _ => rfl | 10, _ => rfl | 11, _ => rfl | 12, _ => rfl | 13, _ => rfl | 14, _ => rfl | 15, _ => rfl | 16, _ => rfl | 17, _ => rfl | j + 18, h => absurd h (by omega))) ?_
  refine pm_qast5 83 309 d_X8_init_247 (Nat.le_of_ble_eq_true rfl) (Nat.le_of_ble_eq_true rfl) rfl rfl (vp_in_nI (n := 1) (N := 2) (by decide) (by decide)) ?_
  refine pw_cg (pw_E g [.ref (g.2.2.1 + 1), .int 0, .ref (g.2.2.1 + 2), .ref (g.2.2.1 + 11), .ref (g.2.2.1 + 12), .ref (g.2.2.1 + 21), .ref (g.2.2.1 + 26), .ref (g.2.2.1 + 44), .ref (g.2.2.1 + 62), .ref (g.2.2.1 + 80), .int 0, .int 0, .ref (g.2.2.1 + 81), .ref (g.2.2.1 + 82), .ref (g.2.2.1 + 83), .ref (g.2.2.1 + 84), .int 0] 10 4 2 2) (cn' := 326) (sn' := 7767) (N' := 327) rfl rfl rfl (fun k _ => congrFun pw_s3 k) ?_
  refine pm_inc1 d_X8_init_248 rfl ?_
  rw [show (1 : Int32) + 1 = 2 by decide]
  refine pm_goto d_X8_init_251 ?_
  refine pm_ild d_X8_init_217 rfl ?_
  refine pm_ki d_X8_init_218 ?_
  refine pm_icmp_ge d_X8_init_219 (fun c => ?_) (fun c => absurd (by decide) c)
  refine pm_ald d_X8_init_254 rfl ?_
  refine pm_get 0 d_X8_init_255 (Nat.le_of_ble_eq_true rfl) rfl rfl ?_
  refine pm_ald d_X8_init_258 rfl ?_
  refine pm_get 0 d_X8_init_259 (Nat.le_of_ble_eq_true rfl) rfl rfl ?_
  refine pw_cg (ps_E g pw_σ) (cn' := 326) (sn' := 7767) (N' := 327) rfl rfl rfl (fun k hk => pw_fin k hk) ?_
  refine pt_cVV d_X8_init_262 mv_X6_begin pt_St26.at0 ob_5_0 rfl (As := [.ref (g.2.2.1 + 12)]) rfl rfl ⟨(Nat.le_of_ble_eq_true rfl), (Nat.le_of_ble_eq_true rfl), (Nat.le_of_ble_eq_true rfl), (Nat.le_of_ble_eq_true rfl)⟩ (Nat.le_of_ble_eq_true rfl) (DC_X6_begin 26 pt_St26 12 pt_Ho12 pw_σ _ hK) (fun σ1 hP => ?_)
  exact pm_vret rfl d_X8_init_265 rfl (Nat.le_refl _) ⟨rfl, σ1, rfl, hP⟩
/-- the cells of the reference as its constructor leaves them, behind those of the class -/
def pw_m (σ : ps_S) : ps_S := (fun k => if k < 327 then σ.1 k else pw_σ.1 k, fun k => if k < 327 then σ.2.1 k else pw_σ.2.1 k, fun k => if k < 327 then σ.2.2 k else pw_σ.2.2 k)
theorem pw_mlt {g : pm_G} {σ : ps_S} {k : Nat} (h : k < 327) : ps_E g (pw_m σ) k = ps_E g σ k := by
  unfold ps_E pw_m
  simp only [if_pos h]
theorem pw_sub2 {g : pm_G} {σ : ps_S} {E0 : pm_E} {lst : List va_E} {n : Nat} (hE : ∀ k, k < 327 → E0 k = ps_E g σ k) (h : ∀ j, j < n → lst[j]? = some (ps_E g (pw_m σ) (327 + j))) : ∀ k, k < 327 + n → pd E0 327 lst k = ps_E g (pw_m σ) k := by
  intro k hk
  by_cases h1 : k < 327
  · rw [pd_lt h1, hE k h1, pw_mlt h1]
  · have h2 := h (k - 327) (by omega)
    have h3 := pd_at (E0 := E0) (N0 := 327) h2
    rw [show 327 + (k - 327) = k by omega] at h3
    exact h3
set_option maxRecDepth 100000 in
set_option maxHeartbeats 4000000 in
theorem K_X9 {g : pm_G} (E0 : pm_E) (σ : ps_S) (hE : ∀ k, k < 327 → E0 k = ps_E g σ k) (P : ps_S → Prop) (hK : ps_ok (qX9_plain 328 5550 (pw_m σ)) (fun _ σ1 => P σ1)) : pm_C g mX9_init 2 17 9947 [.ref (g.2.2.1 + (327 + 0))] (327 + 1) (pd E0 327 [.inr (9, [.int 0, .null, .null, .null, .null, .null, .int 0, .int 0, .int 0, .int 0, .int 0, .int 0, .int 0, .int 0, .int 0, .int 0, .int 0, .null, .null, .null, .null, .int 0, .int 0, .int 0, .int 0, .int 0, .null, .null, .int 0, .int 0, .null, .null, .null, .long 0, .long 0, .null, .null, .null])]) (fun r E => r = none ∧ ∃ σ1, E = ps_E g σ1 ∧ P σ1) := by
  refine pm_C.of (ls := [some (.ref (g.2.2.1 + (327 + 0)))]) 0 (by decide) rfl (Nat.le_of_ble_eq_true rfl) rfl ?_
  refine pm_ald d_X9_init_0 rfl ?_
  refine pm_obj d_X9_init_1 (pd_roomO (by decide)) (Nat.le_of_ble_eq_true rfl) ?_
  refine pm_ald d_X9_init_4 rfl ?_
  refine pm_ki d_X9_init_5 ?_
  refine pd_newa_int (N0 := 327) (m := 1) (nn := 5550) (lst' := [.inr (9, [.int 0, .null, .null, .null, .null, .null, .int 0, .int 0, .int 0, .int 0, .int 0, .int 0, .int 0, .int 0, .int 0, .int 0, .int 0, .null, .null, .null, .null, .int 0, .int 0, .int 0, .int 0, .int 0, .null, .null, .int 0, .int 0, .null, .null, .null, .long 0, .long 0, .null, .null, .null]), .inl (g.2.1 0, 5550, .inl (fun _ => 0))]) d_X9_init_8 (by decide) rfl (by decide) (Nat.le_of_ble_eq_true rfl) (Nat.le_of_ble_eq_true rfl) rfl rfl ?_
  refine pd_putF 0 (N0 := 327) (m := 2) (lst' := [.inr (9, [.int 0, .ref (g.2.2.1 + (327 + 1)), .null, .null, .null, .null, .int 0, .int 0, .int 0, .int 0, .int 0, .int 0, .int 0, .int 0, .int 0, .int 0, .int 0, .null, .null, .null, .null, .int 0, .int 0, .int 0, .int 0, .int 0, .null, .null, .int 0, .int 0, .null, .null, .null, .long 0, .long 0, .null, .null, .null]), .inl (g.2.1 0, 5550, .inl (fun _ => 0))]) d_X9_init_10 rfl rfl (Nat.le_of_ble_eq_true rfl) rfl rfl rfl ?_
  refine pm_ald d_X9_init_13 rfl ?_
  refine pm_ki d_X9_init_14 ?_
  refine pd_newa_double (N0 := 327) (m := 2) (nn := 132) (lst' := [.inr (9, [.int 0, .ref (g.2.2.1 + (327 + 1)), .null, .null, .null, .null, .int 0, .int 0, .int 0, .int 0, .int 0, .int 0, .int 0, .int 0, .int 0, .int 0, .int 0, .null, .null, .null, .null, .int 0, .int 0, .int 0, .int 0, .int 0, .null, .null, .int 0, .int 0, .null, .null, .null, .long 0, .long 0, .null, .null, .null]), .inl (g.2.1 0, 5550, .inl (fun _ => 0)), .inl (g.2.1 4, 132, .inr (.inr (.inr (.inl (fun _ => 0)))))]) d_X9_init_17 (by decide) rfl (by decide) (Nat.le_of_ble_eq_true rfl) (Nat.le_of_ble_eq_true rfl) rfl rfl ?_
  refine pd_putF 0 (N0 := 327) (m := 3) (lst' := [.inr (9, [.int 0, .ref (g.2.2.1 + (327 + 1)), .ref (g.2.2.1 + (327 + 2)), .null, .null, .null, .int 0, .int 0, .int 0, .int 0, .int 0, .int 0, .int 0, .int 0, .int 0, .int 0, .int 0, .null, .null, .null, .null, .int 0, .int 0, .int 0, .int 0, .int 0, .null, .null, .int 0, .int 0, .null, .null, .null, .long 0, .long 0, .null, .null, .null]), .inl (g.2.1 0, 5550, .inl (fun _ => 0)), .inl (g.2.1 4, 132, .inr (.inr (.inr (.inl (fun _ => 0)))))]) d_X9_init_19 rfl rfl (Nat.le_of_ble_eq_true rfl) rfl rfl rfl ?_
  refine pm_ald d_X9_init_22 rfl ?_
  refine pm_ki d_X9_init_23 ?_
  refine pd_newa_boolean (N0 := 327) (m := 3) (nn := 2) (lst' := [.inr (9, [.int 0, .ref (g.2.2.1 + (327 + 1)), .ref (g.2.2.1 + (327 + 2)), .null, .null, .null, .int 0, .int 0, .int 0, .int 0, .int 0, .int 0, .int 0, .int 0, .int 0, .int 0, .int 0, .null, .null, .null, .null, .int 0, .int 0, .int 0, .int 0, .int 0, .null, .null, .int 0, .int 0, .null, .null, .null, .long 0, .long 0, .null, .null, .null]), .inl (g.2.1 0, 5550, .inl (fun _ => 0)), .inl (g.2.1 4, 132, .inr (.inr (.inr (.inl (fun _ => 0))))), .inl (g.2.1 2, 2, .inl (fun _ => 0))]) d_X9_init_24 (by decide) rfl (by decide) (Nat.le_of_ble_eq_true rfl) (Nat.le_of_ble_eq_true rfl) rfl rfl ?_
  refine pd_putF 0 (N0 := 327) (m := 4) (lst' := [.inr (9, [.int 0, .ref (g.2.2.1 + (327 + 1)), .ref (g.2.2.1 + (327 + 2)), .ref (g.2.2.1 + (327 + 3)), .null, .null, .int 0, .int 0, .int 0, .int 0, .int 0, .int 0, .int 0, .int 0, .int 0, .int 0, .int 0, .null, .null, .null, .null, .int 0, .int 0, .int 0, .int 0, .int 0, .null, .null, .int 0, .int 0, .null, .null, .null, .long 0, .long 0, .null, .null, .null]), .inl (g.2.1 0, 5550, .inl (fun _ => 0)), .inl (g.2.1 4, 132, .inr (.inr (.inr (.inl (fun _ => 0))))), .inl (g.2.1 2, 2, .inl (fun _ => 0))]) d_X9_init_26 rfl rfl (Nat.le_of_ble_eq_true rfl) rfl rfl rfl ?_
  refine pm_ald d_X9_init_29 rfl ?_
  refine pm_ki d_X9_init_30 ?_
  refine pd_newa_int (N0 := 327) (m := 4) (nn := 900) (lst' := [.inr (9, [.int 0, .ref (g.2.2.1 + (327 + 1)), .ref (g.2.2.1 + (327 + 2)), .ref (g.2.2.1 + (327 + 3)), .null, .null, .int 0, .int 0, .int 0, .int 0, .int 0, .int 0, .int 0, .int 0, .int 0, .int 0, .int 0, .null, .null, .null, .null, .int 0, .int 0, .int 0, .int 0, .int 0, .null, .null, .int 0, .int 0, .null, .null, .null, .long 0, .long 0, .null, .null, .null]), .inl (g.2.1 0, 5550, .inl (fun _ => 0)), .inl (g.2.1 4, 132, .inr (.inr (.inr (.inl (fun _ => 0))))), .inl (g.2.1 2, 2, .inl (fun _ => 0)), .inl (g.2.1 0, 900, .inl (fun _ => 0))]) d_X9_init_33 (by decide) rfl (by decide) (Nat.le_of_ble_eq_true rfl) (Nat.le_of_ble_eq_true rfl) rfl rfl ?_
  refine pd_putF 0 (N0 := 327) (m := 5) (lst' := [.inr (9, [.int 0, .ref (g.2.2.1 + (327 + 1)), .ref (g.2.2.1 + (327 + 2)), .ref (g.2.2.1 + (327 + 3)), .ref (g.2.2.1 + (327 + 4)), .null, .int 0, .int 0, .int 0, .int 0, .int 0, .int 0, .int 0, .int 0, .int 0, .int 0, .int 0, .null, .null, .null, .null, .int 0, .int 0, .int 0, .int 0, .int 0, .null, .null, .int 0, .int 0, .null, .null, .null, .long 0, .long 0, .null, .null, .null]), .inl (g.2.1 0, 5550, .inl (fun _ => 0)), .inl (g.2.1 4, 132, .inr (.inr (.inr (.inl (fun _ => 0))))), .inl (g.2.1 2, 2, .inl (fun _ => 0)), .inl (g.2.1 0, 900, .inl (fun _ => 0))]) d_X9_init_35 rfl rfl (Nat.le_of_ble_eq_true rfl) rfl rfl rfl ?_
  refine pm_ald d_X9_init_38 rfl ?_
  refine pm_ki d_X9_init_39 ?_
  refine pd_newa_int (N0 := 327) (m := 5) (nn := 1850) (lst' := [.inr (9, [.int 0, .ref (g.2.2.1 + (327 + 1)), .ref (g.2.2.1 + (327 + 2)), .ref (g.2.2.1 + (327 + 3)), .ref (g.2.2.1 + (327 + 4)), .null, .int 0, .int 0, .int 0, .int 0, .int 0, .int 0, .int 0, .int 0, .int 0, .int 0, .int 0, .null, .null, .null, .null, .int 0, .int 0, .int 0, .int 0, .int 0, .null, .null, .int 0, .int 0, .null, .null, .null, .long 0, .long 0, .null, .null, .null]), .inl (g.2.1 0, 5550, .inl (fun _ => 0)), .inl (g.2.1 4, 132, .inr (.inr (.inr (.inl (fun _ => 0))))), .inl (g.2.1 2, 2, .inl (fun _ => 0)), .inl (g.2.1 0, 900, .inl (fun _ => 0)), .inl (g.2.1 0, 1850, .inl (fun _ => 0))]) d_X9_init_42 (by decide) rfl (by decide) (Nat.le_of_ble_eq_true rfl) (Nat.le_of_ble_eq_true rfl) rfl rfl ?_
  refine pd_putF 0 (N0 := 327) (m := 6) (lst' := [.inr (9, [.int 0, .ref (g.2.2.1 + (327 + 1)), .ref (g.2.2.1 + (327 + 2)), .ref (g.2.2.1 + (327 + 3)), .ref (g.2.2.1 + (327 + 4)), .ref (g.2.2.1 + (327 + 5)), .int 0, .int 0, .int 0, .int 0, .int 0, .int 0, .int 0, .int 0, .int 0, .int 0, .int 0, .null, .null, .null, .null, .int 0, .int 0, .int 0, .int 0, .int 0, .null, .null, .int 0, .int 0, .null, .null, .null, .long 0, .long 0, .null, .null, .null]), .inl (g.2.1 0, 5550, .inl (fun _ => 0)), .inl (g.2.1 4, 132, .inr (.inr (.inr (.inl (fun _ => 0))))), .inl (g.2.1 2, 2, .inl (fun _ => 0)), .inl (g.2.1 0, 900, .inl (fun _ => 0)), .inl (g.2.1 0, 1850, .inl (fun _ => 0))]) d_X9_init_44 rfl rfl (Nat.le_of_ble_eq_true rfl) rfl rfl rfl ?_
  refine pm_ald d_X9_init_47 rfl ?_
  refine pm_ki d_X9_init_48 ?_
  refine pd_put 0 (N0 := 327) (m := 6) (lst' := [.inr (9, [.int 0, .ref (g.2.2.1 + (327 + 1)), .ref (g.2.2.1 + (327 + 2)), .ref (g.2.2.1 + (327 + 3)), .ref (g.2.2.1 + (327 + 4)), .ref (g.2.2.1 + (327 + 5)), .int 0, .int 0, .int 0, .int 0, .int 0, .int 0, .int 0, .int 0, .int 0, .int (-1), .int 0, .null, .null, .null, .null, .int 0, .int 0, .int 0, .int 0, .int 0, .null, .null, .int 0, .int 0, .null, .null, .null, .long 0, .long 0, .null, .null, .null]), .inl (g.2.1 0, 5550, .inl (fun _ => 0)), .inl (g.2.1 4, 132, .inr (.inr (.inr (.inl (fun _ => 0))))), .inl (g.2.1 2, 2, .inl (fun _ => 0)), .inl (g.2.1 0, 900, .inl (fun _ => 0)), .inl (g.2.1 0, 1850, .inl (fun _ => 0))]) d_X9_init_49 rfl rfl (Nat.le_of_ble_eq_true rfl) rfl rfl rfl ?_
  refine pm_ald d_X9_init_52 rfl ?_
  refine pm_ki d_X9_init_53 ?_
  refine pd_newa_int (N0 := 327) (m := 6) (nn := 900) (lst' := [.inr (9, [.int 0, .ref (g.2.2.1 + (327 + 1)), .ref (g.2.2.1 + (327 + 2)), .ref (g.2.2.1 + (327 + 3)), .ref (g.2.2.1 + (327 + 4)), .ref (g.2.2.1 + (327 + 5)), .int 0, .int 0, .int 0, .int 0, .int 0, .int 0, .int 0, .int 0, .int 0, .int (-1), .int 0, .null, .null, .null, .null, .int 0, .int 0, .int 0, .int 0, .int 0, .null, .null, .int 0, .int 0, .null, .null, .null, .long 0, .long 0, .null, .null, .null]), .inl (g.2.1 0, 5550, .inl (fun _ => 0)), .inl (g.2.1 4, 132, .inr (.inr (.inr (.inl (fun _ => 0))))), .inl (g.2.1 2, 2, .inl (fun _ => 0)), .inl (g.2.1 0, 900, .inl (fun _ => 0)), .inl (g.2.1 0, 1850, .inl (fun _ => 0)), .inl (g.2.1 0, 900, .inl (fun _ => 0))]) d_X9_init_56 (by decide) rfl (by decide) (Nat.le_of_ble_eq_true rfl) (Nat.le_of_ble_eq_true rfl) rfl rfl ?_
  refine pd_putF 0 (N0 := 327) (m := 7) (lst' := [.inr (9, [.int 0, .ref (g.2.2.1 + (327 + 1)), .ref (g.2.2.1 + (327 + 2)), .ref (g.2.2.1 + (327 + 3)), .ref (g.2.2.1 + (327 + 4)), .ref (g.2.2.1 + (327 + 5)), .int 0, .int 0, .int 0, .int 0, .int 0, .int 0, .int 0, .int 0, .int 0, .int (-1), .int 0, .ref (g.2.2.1 + (327 + 6)), .null, .null, .null, .int 0, .int 0, .int 0, .int 0, .int 0, .null, .null, .int 0, .int 0, .null, .null, .null, .long 0, .long 0, .null, .null, .null]), .inl (g.2.1 0, 5550, .inl (fun _ => 0)), .inl (g.2.1 4, 132, .inr (.inr (.inr (.inl (fun _ => 0))))), .inl (g.2.1 2, 2, .inl (fun _ => 0)), .inl (g.2.1 0, 900, .inl (fun _ => 0)), .inl (g.2.1 0, 1850, .inl (fun _ => 0)), .inl (g.2.1 0, 900, .inl (fun _ => 0))]) d_X9_init_58 rfl rfl (Nat.le_of_ble_eq_true rfl) rfl rfl rfl ?_
  refine pm_ald d_X9_init_61 rfl ?_
  refine pm_ki d_X9_init_62 ?_
  refine pd_newa_int (N0 := 327) (m := 7) (nn := 4) (lst' := [.inr (9, [.int 0, .ref (g.2.2.1 + (327 + 1)), .ref (g.2.2.1 + (327 + 2)), .ref (g.2.2.1 + (327 + 3)), .ref (g.2.2.1 + (327 + 4)), .ref (g.2.2.1 + (327 + 5)), .int 0, .int 0, .int 0, .int 0, .int 0, .int 0, .int 0, .int 0, .int 0, .int (-1), .int 0, .ref (g.2.2.1 + (327 + 6)), .null, .null, .null, .int 0, .int 0, .int 0, .int 0, .int 0, .null, .null, .int 0, .int 0, .null, .null, .null, .long 0, .long 0, .null, .null, .null]), .inl (g.2.1 0, 5550, .inl (fun _ => 0)), .inl (g.2.1 4, 132, .inr (.inr (.inr (.inl (fun _ => 0))))), .inl (g.2.1 2, 2, .inl (fun _ => 0)), .inl (g.2.1 0, 900, .inl (fun _ => 0)), .inl (g.2.1 0, 1850, .inl (fun _ => 0)), .inl (g.2.1 0, 900, .inl (fun _ => 0)), .inl (g.2.1 0, 4, .inl (fun _ => 0))]) d_X9_init_63 (by decide) rfl (by decide) (Nat.le_of_ble_eq_true rfl) (Nat.le_of_ble_eq_true rfl) rfl rfl ?_
  refine pd_putF 0 (N0 := 327) (m := 8) (lst' := [.inr (9, [.int 0, .ref (g.2.2.1 + (327 + 1)), .ref (g.2.2.1 + (327 + 2)), .ref (g.2.2.1 + (327 + 3)), .ref (g.2.2.1 + (327 + 4)), .ref (g.2.2.1 + (327 + 5)), .int 0, .int 0, .int 0, .int 0, .int 0, .int 0, .int 0, .int 0, .int 0, .int (-1), .int 0, .ref (g.2.2.1 + (327 + 6)), .ref (g.2.2.1 + (327 + 7)), .null, .null, .int 0, .int 0, .int 0, .int 0, .int 0, .null, .null, .int 0, .int 0, .null, .null, .null, .long 0, .long 0, .null, .null, .null]), .inl (g.2.1 0, 5550, .inl (fun _ => 0)), .inl (g.2.1 4, 132, .inr (.inr (.inr (.inl (fun _ => 0))))), .inl (g.2.1 2, 2, .inl (fun _ => 0)), .inl (g.2.1 0, 900, .inl (fun _ => 0)), .inl (g.2.1 0, 1850, .inl (fun _ => 0)), .inl (g.2.1 0, 900, .inl (fun _ => 0)), .inl (g.2.1 0, 4, .inl (fun _ => 0))]) d_X9_init_65 rfl rfl (Nat.le_of_ble_eq_true rfl) rfl rfl rfl ?_
  refine pm_ald d_X9_init_68 rfl ?_
  refine pm_ki d_X9_init_69 ?_
  refine pd_newa_int (N0 := 327) (m := 8) (nn := 83) (lst' := [.inr (9, [.int 0, .ref (g.2.2.1 + (327 + 1)), .ref (g.2.2.1 + (327 + 2)), .ref (g.2.2.1 + (327 + 3)), .ref (g.2.2.1 + (327 + 4)), .ref (g.2.2.1 + (327 + 5)), .int 0, .int 0, .int 0, .int 0, .int 0, .int 0, .int 0, .int 0, .int 0, .int (-1), .int 0, .ref (g.2.2.1 + (327 + 6)), .ref (g.2.2.1 + (327 + 7)), .null, .null, .int 0, .int 0, .int 0, .int 0, .int 0, .null, .null, .int 0, .int 0, .null, .null, .null, .long 0, .long 0, .null, .null, .null]), .inl (g.2.1 0, 5550, .inl (fun _ => 0)), .inl (g.2.1 4, 132, .inr (.inr (.inr (.inl (fun _ => 0))))), .inl (g.2.1 2, 2, .inl (fun _ => 0)), .inl (g.2.1 0, 900, .inl (fun _ => 0)), .inl (g.2.1 0, 1850, .inl (fun _ => 0)), .inl (g.2.1 0, 900, .inl (fun _ => 0)), .inl (g.2.1 0, 4, .inl (fun _ => 0)), .inl (g.2.1 0, 83, .inl (fun _ => 0))]) d_X9_init_71 (by decide) rfl (by decide) (Nat.le_of_ble_eq_true rfl) (Nat.le_of_ble_eq_true rfl) rfl rfl ?_
  refine pd_putF 0 (N0 := 327) (m := 9) (lst' := [.inr (9, [.int 0, .ref (g.2.2.1 + (327 + 1)), .ref (g.2.2.1 + (327 + 2)), .ref (g.2.2.1 + (327 + 3)), .ref (g.2.2.1 + (327 + 4)), .ref (g.2.2.1 + (327 + 5)), .int 0, .int 0, .int 0, .int 0, .int 0, .int 0, .int 0, .int 0, .int 0, .int (-1), .int 0, .ref (g.2.2.1 + (327 + 6)), .ref (g.2.2.1 + (327 + 7)), .ref (g.2.2.1 + (327 + 8)), .null, .int 0, .int 0, .int 0, .int 0, .int 0, .null, .null, .int 0, .int 0, .null, .null, .null, .long 0, .long 0, .null, .null, .null]), .inl (g.2.1 0, 5550, .inl (fun _ => 0)), .inl (g.2.1 4, 132, .inr (.inr (.inr (.inl (fun _ => 0))))), .inl (g.2.1 2, 2, .inl (fun _ => 0)), .inl (g.2.1 0, 900, .inl (fun _ => 0)), .inl (g.2.1 0, 1850, .inl (fun _ => 0)), .inl (g.2.1 0, 900, .inl (fun _ => 0)), .inl (g.2.1 0, 4, .inl (fun _ => 0)), .inl (g.2.1 0, 83, .inl (fun _ => 0))]) d_X9_init_73 rfl rfl (Nat.le_of_ble_eq_true rfl) rfl rfl rfl ?_
  refine pm_ald d_X9_init_76 rfl ?_
  refine pm_ki d_X9_init_77 ?_
  refine pd_newa_double (N0 := 327) (m := 9) (nn := 4) (lst' := [.inr (9, [.int 0, .ref (g.2.2.1 + (327 + 1)), .ref (g.2.2.1 + (327 + 2)), .ref (g.2.2.1 + (327 + 3)), .ref (g.2.2.1 + (327 + 4)), .ref (g.2.2.1 + (327 + 5)), .int 0, .int 0, .int 0, .int 0, .int 0, .int 0, .int 0, .int 0, .int 0, .int (-1), .int 0, .ref (g.2.2.1 + (327 + 6)), .ref (g.2.2.1 + (327 + 7)), .ref (g.2.2.1 + (327 + 8)), .null, .int 0, .int 0, .int 0, .int 0, .int 0, .null, .null, .int 0, .int 0, .null, .null, .null, .long 0, .long 0, .null, .null, .null]), .inl (g.2.1 0, 5550, .inl (fun _ => 0)), .inl (g.2.1 4, 132, .inr (.inr (.inr (.inl (fun _ => 0))))), .inl (g.2.1 2, 2, .inl (fun _ => 0)), .inl (g.2.1 0, 900, .inl (fun _ => 0)), .inl (g.2.1 0, 1850, .inl (fun _ => 0)), .inl (g.2.1 0, 900, .inl (fun _ => 0)), .inl (g.2.1 0, 4, .inl (fun _ => 0)), .inl (g.2.1 0, 83, .inl (fun _ => 0)), .inl (g.2.1 4, 4, .inr (.inr (.inr (.inl (fun _ => 0)))))]) d_X9_init_78 (by decide) rfl (by decide) (Nat.le_of_ble_eq_true rfl) (Nat.le_of_ble_eq_true rfl) rfl rfl ?_
  refine pd_putF 0 (N0 := 327) (m := 10) (lst' := [.inr (9, [.int 0, .ref (g.2.2.1 + (327 + 1)), .ref (g.2.2.1 + (327 + 2)), .ref (g.2.2.1 + (327 + 3)), .ref (g.2.2.1 + (327 + 4)), .ref (g.2.2.1 + (327 + 5)), .int 0, .int 0, .int 0, .int 0, .int 0, .int 0, .int 0, .int 0, .int 0, .int (-1), .int 0, .ref (g.2.2.1 + (327 + 6)), .ref (g.2.2.1 + (327 + 7)), .ref (g.2.2.1 + (327 + 8)), .ref (g.2.2.1 + (327 + 9)), .int 0, .int 0, .int 0, .int 0, .int 0, .null, .null, .int 0, .int 0, .null, .null, .null, .long 0, .long 0, .null, .null, .null]), .inl (g.2.1 0, 5550, .inl (fun _ => 0)), .inl (g.2.1 4, 132, .inr (.inr (.inr (.inl (fun _ => 0))))), .inl (g.2.1 2, 2, .inl (fun _ => 0)), .inl (g.2.1 0, 900, .inl (fun _ => 0)), .inl (g.2.1 0, 1850, .inl (fun _ => 0)), .inl (g.2.1 0, 900, .inl (fun _ => 0)), .inl (g.2.1 0, 4, .inl (fun _ => 0)), .inl (g.2.1 0, 83, .inl (fun _ => 0)), .inl (g.2.1 4, 4, .inr (.inr (.inr (.inl (fun _ => 0)))))]) d_X9_init_80 rfl rfl (Nat.le_of_ble_eq_true rfl) rfl rfl rfl ?_
  refine pm_ald d_X9_init_83 rfl ?_
  refine pm_ki d_X9_init_84 ?_
  refine pd_newa_int (N0 := 327) (m := 10) (nn := 83) (lst' := [.inr (9, [.int 0, .ref (g.2.2.1 + (327 + 1)), .ref (g.2.2.1 + (327 + 2)), .ref (g.2.2.1 + (327 + 3)), .ref (g.2.2.1 + (327 + 4)), .ref (g.2.2.1 + (327 + 5)), .int 0, .int 0, .int 0, .int 0, .int 0, .int 0, .int 0, .int 0, .int 0, .int (-1), .int 0, .ref (g.2.2.1 + (327 + 6)), .ref (g.2.2.1 + (327 + 7)), .ref (g.2.2.1 + (327 + 8)), .ref (g.2.2.1 + (327 + 9)), .int 0, .int 0, .int 0, .int 0, .int 0, .null, .null, .int 0, .int 0, .null, .null, .null, .long 0, .long 0, .null, .null, .null]), .inl (g.2.1 0, 5550, .inl (fun _ => 0)), .inl (g.2.1 4, 132, .inr (.inr (.inr (.inl (fun _ => 0))))), .inl (g.2.1 2, 2, .inl (fun _ => 0)), .inl (g.2.1 0, 900, .inl (fun _ => 0)), .inl (g.2.1 0, 1850, .inl (fun _ => 0)), .inl (g.2.1 0, 900, .inl (fun _ => 0)), .inl (g.2.1 0, 4, .inl (fun _ => 0)), .inl (g.2.1 0, 83, .inl (fun _ => 0)), .inl (g.2.1 4, 4, .inr (.inr (.inr (.inl (fun _ => 0))))), .inl (g.2.1 0, 83, .inl (fun _ => 0))]) d_X9_init_86 (by decide) rfl (by decide) (Nat.le_of_ble_eq_true rfl) (Nat.le_of_ble_eq_true rfl) rfl rfl ?_
  refine pd_putF 0 (N0 := 327) (m := 11) (lst' := [.inr (9, [.int 0, .ref (g.2.2.1 + (327 + 1)), .ref (g.2.2.1 + (327 + 2)), .ref (g.2.2.1 + (327 + 3)), .ref (g.2.2.1 + (327 + 4)), .ref (g.2.2.1 + (327 + 5)), .int 0, .int 0, .int 0, .int 0, .int 0, .int 0, .int 0, .int 0, .int 0, .int (-1), .int 0, .ref (g.2.2.1 + (327 + 6)), .ref (g.2.2.1 + (327 + 7)), .ref (g.2.2.1 + (327 + 8)), .ref (g.2.2.1 + (327 + 9)), .int 0, .int 0, .int 0, .int 0, .int 0, .ref (g.2.2.1 + (327 + 10)), .null, .int 0, .int 0, .null, .null, .null, .long 0, .long 0, .null, .null, .null]), .inl (g.2.1 0, 5550, .inl (fun _ => 0)), .inl (g.2.1 4, 132, .inr (.inr (.inr (.inl (fun _ => 0))))), .inl (g.2.1 2, 2, .inl (fun _ => 0)), .inl (g.2.1 0, 900, .inl (fun _ => 0)), .inl (g.2.1 0, 1850, .inl (fun _ => 0)), .inl (g.2.1 0, 900, .inl (fun _ => 0)), .inl (g.2.1 0, 4, .inl (fun _ => 0)), .inl (g.2.1 0, 83, .inl (fun _ => 0)), .inl (g.2.1 4, 4, .inr (.inr (.inr (.inl (fun _ => 0))))), .inl (g.2.1 0, 83, .inl (fun _ => 0))]) d_X9_init_88 rfl rfl (Nat.le_of_ble_eq_true rfl) rfl rfl rfl ?_
  refine pm_ald d_X9_init_91 rfl ?_
  refine pm_ki d_X9_init_92 ?_
  refine pd_newa_double (N0 := 327) (m := 11) (nn := 4) (lst' := [.inr (9, [.int 0, .ref (g.2.2.1 + (327 + 1)), .ref (g.2.2.1 + (327 + 2)), .ref (g.2.2.1 + (327 + 3)), .ref (g.2.2.1 + (327 + 4)), .ref (g.2.2.1 + (327 + 5)), .int 0, .int 0, .int 0, .int 0, .int 0, .int 0, .int 0, .int 0, .int 0, .int (-1), .int 0, .ref (g.2.2.1 + (327 + 6)), .ref (g.2.2.1 + (327 + 7)), .ref (g.2.2.1 + (327 + 8)), .ref (g.2.2.1 + (327 + 9)), .int 0, .int 0, .int 0, .int 0, .int 0, .ref (g.2.2.1 + (327 + 10)), .null, .int 0, .int 0, .null, .null, .null, .long 0, .long 0, .null, .null, .null]), .inl (g.2.1 0, 5550, .inl (fun _ => 0)), .inl (g.2.1 4, 132, .inr (.inr (.inr (.inl (fun _ => 0))))), .inl (g.2.1 2, 2, .inl (fun _ => 0)), .inl (g.2.1 0, 900, .inl (fun _ => 0)), .inl (g.2.1 0, 1850, .inl (fun _ => 0)), .inl (g.2.1 0, 900, .inl (fun _ => 0)), .inl (g.2.1 0, 4, .inl (fun _ => 0)), .inl (g.2.1 0, 83, .inl (fun _ => 0)), .inl (g.2.1 4, 4, .inr (.inr (.inr (.inl (fun _ => 0))))), .inl (g.2.1 0, 83, .inl (fun _ => 0)), .inl (g.2.1 4, 4, .inr (.inr (.inr (.inl (fun _ => 0)))))]) d_X9_init_93 (by decide) rfl (by decide) (Nat.le_of_ble_eq_true rfl) (Nat.le_of_ble_eq_true rfl) rfl rfl ?_
  refine pd_putF 0 (N0 := 327) (m := 12) (lst' := [.inr (9, [.int 0, .ref (g.2.2.1 + (327 + 1)), .ref (g.2.2.1 + (327 + 2)), .ref (g.2.2.1 + (327 + 3)), .ref (g.2.2.1 + (327 + 4)), .ref (g.2.2.1 + (327 + 5)), .int 0, .int 0, .int 0, .int 0, .int 0, .int 0, .int 0, .int 0, .int 0, .int (-1), .int 0, .ref (g.2.2.1 + (327 + 6)), .ref (g.2.2.1 + (327 + 7)), .ref (g.2.2.1 + (327 + 8)), .ref (g.2.2.1 + (327 + 9)), .int 0, .int 0, .int 0, .int 0, .int 0, .ref (g.2.2.1 + (327 + 10)), .ref (g.2.2.1 + (327 + 11)), .int 0, .int 0, .null, .null, .null, .long 0, .long 0, .null, .null, .null]), .inl (g.2.1 0, 5550, .inl (fun _ => 0)), .inl (g.2.1 4, 132, .inr (.inr (.inr (.inl (fun _ => 0))))), .inl (g.2.1 2, 2, .inl (fun _ => 0)), .inl (g.2.1 0, 900, .inl (fun _ => 0)), .inl (g.2.1 0, 1850, .inl (fun _ => 0)), .inl (g.2.1 0, 900, .inl (fun _ => 0)), .inl (g.2.1 0, 4, .inl (fun _ => 0)), .inl (g.2.1 0, 83, .inl (fun _ => 0)), .inl (g.2.1 4, 4, .inr (.inr (.inr (.inl (fun _ => 0))))), .inl (g.2.1 0, 83, .inl (fun _ => 0)), .inl (g.2.1 4, 4, .inr (.inr (.inr (.inl (fun _ => 0)))))]) d_X9_init_95 rfl rfl (Nat.le_of_ble_eq_true rfl) rfl rfl rfl ?_
  refine pm_ald d_X9_init_98 rfl ?_
  refine pm_ki d_X9_init_99 ?_
  refine pd_newa_int (N0 := 327) (m := 12) (nn := 6) (lst' := [.inr (9, [.int 0, .ref (g.2.2.1 + (327 + 1)), .ref (g.2.2.1 + (327 + 2)), .ref (g.2.2.1 + (327 + 3)), .ref (g.2.2.1 + (327 + 4)), .ref (g.2.2.1 + (327 + 5)), .int 0, .int 0, .int 0, .int 0, .int 0, .int 0, .int 0, .int 0, .int 0, .int (-1), .int 0, .ref (g.2.2.1 + (327 + 6)), .ref (g.2.2.1 + (327 + 7)), .ref (g.2.2.1 + (327 + 8)), .ref (g.2.2.1 + (327 + 9)), .int 0, .int 0, .int 0, .int 0, .int 0, .ref (g.2.2.1 + (327 + 10)), .ref (g.2.2.1 + (327 + 11)), .int 0, .int 0, .null, .null, .null, .long 0, .long 0, .null, .null, .null]), .inl (g.2.1 0, 5550, .inl (fun _ => 0)), .inl (g.2.1 4, 132, .inr (.inr (.inr (.inl (fun _ => 0))))), .inl (g.2.1 2, 2, .inl (fun _ => 0)), .inl (g.2.1 0, 900, .inl (fun _ => 0)), .inl (g.2.1 0, 1850, .inl (fun _ => 0)), .inl (g.2.1 0, 900, .inl (fun _ => 0)), .inl (g.2.1 0, 4, .inl (fun _ => 0)), .inl (g.2.1 0, 83, .inl (fun _ => 0)), .inl (g.2.1 4, 4, .inr (.inr (.inr (.inl (fun _ => 0))))), .inl (g.2.1 0, 83, .inl (fun _ => 0)), .inl (g.2.1 4, 4, .inr (.inr (.inr (.inl (fun _ => 0))))), .inl (g.2.1 0, 6, .inl (fun _ => 0))]) d_X9_init_101 (by decide) rfl (by decide) (Nat.le_of_ble_eq_true rfl) (Nat.le_of_ble_eq_true rfl) rfl rfl ?_
  refine pd_putF 0 (N0 := 327) (m := 13) (lst' := [.inr (9, [.int 0, .ref (g.2.2.1 + (327 + 1)), .ref (g.2.2.1 + (327 + 2)), .ref (g.2.2.1 + (327 + 3)), .ref (g.2.2.1 + (327 + 4)), .ref (g.2.2.1 + (327 + 5)), .int 0, .int 0, .int 0, .int 0, .int 0, .int 0, .int 0, .int 0, .int 0, .int (-1), .int 0, .ref (g.2.2.1 + (327 + 6)), .ref (g.2.2.1 + (327 + 7)), .ref (g.2.2.1 + (327 + 8)), .ref (g.2.2.1 + (327 + 9)), .int 0, .int 0, .int 0, .int 0, .int 0, .ref (g.2.2.1 + (327 + 10)), .ref (g.2.2.1 + (327 + 11)), .int 0, .int 0, .ref (g.2.2.1 + (327 + 12)), .null, .null, .long 0, .long 0, .null, .null, .null]), .inl (g.2.1 0, 5550, .inl (fun _ => 0)), .inl (g.2.1 4, 132, .inr (.inr (.inr (.inl (fun _ => 0))))), .inl (g.2.1 2, 2, .inl (fun _ => 0)), .inl (g.2.1 0, 900, .inl (fun _ => 0)), .inl (g.2.1 0, 1850, .inl (fun _ => 0)), .inl (g.2.1 0, 900, .inl (fun _ => 0)), .inl (g.2.1 0, 4, .inl (fun _ => 0)), .inl (g.2.1 0, 83, .inl (fun _ => 0)), .inl (g.2.1 4, 4, .inr (.inr (.inr (.inl (fun _ => 0))))), .inl (g.2.1 0, 83, .inl (fun _ => 0)), .inl (g.2.1 4, 4, .inr (.inr (.inr (.inl (fun _ => 0))))), .inl (g.2.1 0, 6, .inl (fun _ => 0))]) d_X9_init_103 rfl rfl (Nat.le_of_ble_eq_true rfl) rfl rfl rfl ?_
  refine pm_ald d_X9_init_106 rfl ?_
  refine pm_ki d_X9_init_107 ?_
  refine pd_newa_int (N0 := 327) (m := 13) (nn := 249) (lst' := [.inr (9, [.int 0, .ref (g.2.2.1 + (327 + 1)), .ref (g.2.2.1 + (327 + 2)), .ref (g.2.2.1 + (327 + 3)), .ref (g.2.2.1 + (327 + 4)), .ref (g.2.2.1 + (327 + 5)), .int 0, .int 0, .int 0, .int 0, .int 0, .int 0, .int 0, .int 0, .int 0, .int (-1), .int 0, .ref (g.2.2.1 + (327 + 6)), .ref (g.2.2.1 + (327 + 7)), .ref (g.2.2.1 + (327 + 8)), .ref (g.2.2.1 + (327 + 9)), .int 0, .int 0, .int 0, .int 0, .int 0, .ref (g.2.2.1 + (327 + 10)), .ref (g.2.2.1 + (327 + 11)), .int 0, .int 0, .ref (g.2.2.1 + (327 + 12)), .null, .null, .long 0, .long 0, .null, .null, .null]), .inl (g.2.1 0, 5550, .inl (fun _ => 0)), .inl (g.2.1 4, 132, .inr (.inr (.inr (.inl (fun _ => 0))))), .inl (g.2.1 2, 2, .inl (fun _ => 0)), .inl (g.2.1 0, 900, .inl (fun _ => 0)), .inl (g.2.1 0, 1850, .inl (fun _ => 0)), .inl (g.2.1 0, 900, .inl (fun _ => 0)), .inl (g.2.1 0, 4, .inl (fun _ => 0)), .inl (g.2.1 0, 83, .inl (fun _ => 0)), .inl (g.2.1 4, 4, .inr (.inr (.inr (.inl (fun _ => 0))))), .inl (g.2.1 0, 83, .inl (fun _ => 0)), .inl (g.2.1 4, 4, .inr (.inr (.inr (.inl (fun _ => 0))))), .inl (g.2.1 0, 6, .inl (fun _ => 0)), .inl (g.2.1 0, 249, .inl (fun _ => 0))]) d_X9_init_110 (by decide) rfl (by decide) (Nat.le_of_ble_eq_true rfl) (Nat.le_of_ble_eq_true rfl) rfl rfl ?_
  refine pd_putF 0 (N0 := 327) (m := 14) (lst' := [.inr (9, [.int 0, .ref (g.2.2.1 + (327 + 1)), .ref (g.2.2.1 + (327 + 2)), .ref (g.2.2.1 + (327 + 3)), .ref (g.2.2.1 + (327 + 4)), .ref (g.2.2.1 + (327 + 5)), .int 0, .int 0, .int 0, .int 0, .int 0, .int 0, .int 0, .int 0, .int 0, .int (-1), .int 0, .ref (g.2.2.1 + (327 + 6)), .ref (g.2.2.1 + (327 + 7)), .ref (g.2.2.1 + (327 + 8)), .ref (g.2.2.1 + (327 + 9)), .int 0, .int 0, .int 0, .int 0, .int 0, .ref (g.2.2.1 + (327 + 10)), .ref (g.2.2.1 + (327 + 11)), .int 0, .int 0, .ref (g.2.2.1 + (327 + 12)), .ref (g.2.2.1 + (327 + 13)), .null, .long 0, .long 0, .null, .null, .null]), .inl (g.2.1 0, 5550, .inl (fun _ => 0)), .inl (g.2.1 4, 132, .inr (.inr (.inr (.inl (fun _ => 0))))), .inl (g.2.1 2, 2, .inl (fun _ => 0)), .inl (g.2.1 0, 900, .inl (fun _ => 0)), .inl (g.2.1 0, 1850, .inl (fun _ => 0)), .inl (g.2.1 0, 900, .inl (fun _ => 0)), .inl (g.2.1 0, 4, .inl (fun _ => 0)), .inl (g.2.1 0, 83, .inl (fun _ => 0)), .inl (g.2.1 4, 4, .inr (.inr (.inr (.inl (fun _ => 0))))), .inl (g.2.1 0, 83, .inl (fun _ => 0)), .inl (g.2.1 4, 4, .inr (.inr (.inr (.inl (fun _ => 0))))), .inl (g.2.1 0, 6, .inl (fun _ => 0)), .inl (g.2.1 0, 249, .inl (fun _ => 0))]) d_X9_init_112 rfl rfl (Nat.le_of_ble_eq_true rfl) rfl rfl rfl ?_
  refine pm_ald d_X9_init_115 rfl ?_
  refine pm_ki d_X9_init_116 ?_
  refine pd_newa_double (N0 := 327) (m := 14) (nn := 12) (lst' := [.inr (9, [.int 0, .ref (g.2.2.1 + (327 + 1)), .ref (g.2.2.1 + (327 + 2)), .ref (g.2.2.1 + (327 + 3)), .ref (g.2.2.1 + (327 + 4)), .ref (g.2.2.1 + (327 + 5)), .int 0, .int 0, .int 0, .int 0, .int 0, .int 0, .int 0, .int 0, .int 0, .int (-1), .int 0, .ref (g.2.2.1 + (327 + 6)), .ref (g.2.2.1 + (327 + 7)), .ref (g.2.2.1 + (327 + 8)), .ref (g.2.2.1 + (327 + 9)), .int 0, .int 0, .int 0, .int 0, .int 0, .ref (g.2.2.1 + (327 + 10)), .ref (g.2.2.1 + (327 + 11)), .int 0, .int 0, .ref (g.2.2.1 + (327 + 12)), .ref (g.2.2.1 + (327 + 13)), .null, .long 0, .long 0, .null, .null, .null]), .inl (g.2.1 0, 5550, .inl (fun _ => 0)), .inl (g.2.1 4, 132, .inr (.inr (.inr (.inl (fun _ => 0))))), .inl (g.2.1 2, 2, .inl (fun _ => 0)), .inl (g.2.1 0, 900, .inl (fun _ => 0)), .inl (g.2.1 0, 1850, .inl (fun _ => 0)), .inl (g.2.1 0, 900, .inl (fun _ => 0)), .inl (g.2.1 0, 4, .inl (fun _ => 0)), .inl (g.2.1 0, 83, .inl (fun _ => 0)), .inl (g.2.1 4, 4, .inr (.inr (.inr (.inl (fun _ => 0))))), .inl (g.2.1 0, 83, .inl (fun _ => 0)), .inl (g.2.1 4, 4, .inr (.inr (.inr (.inl (fun _ => 0))))), .inl (g.2.1 0, 6, .inl (fun _ => 0)), .inl (g.2.1 0, 249, .inl (fun _ => 0)), .inl (g.2.1 4, 12, .inr (.inr (.inr (.inl (fun _ => 0)))))]) d_X9_init_118 (by decide) rfl (by decide) (Nat.le_of_ble_eq_true rfl) (Nat.le_of_ble_eq_true rfl) rfl rfl ?_
  refine pd_putF 0 (N0 := 327) (m := 15) (lst' := [.inr (9, [.int 0, .ref (g.2.2.1 + (327 + 1)), .ref (g.2.2.1 + (327 + 2)), .ref (g.2.2.1 + (327 + 3)), .ref (g.2.2.1 + (327 + 4)), .ref (g.2.2.1 + (327 + 5)), .int 0, .int 0, .int 0, .int 0, .int 0, .int 0, .int 0, .int 0, .int 0, .int (-1), .int 0, .ref (g.2.2.1 + (327 + 6)), .ref (g.2.2.1 + (327 + 7)), .ref (g.2.2.1 + (327 + 8)), .ref (g.2.2.1 + (327 + 9)), .int 0, .int 0, .int 0, .int 0, .int 0, .ref (g.2.2.1 + (327 + 10)), .ref (g.2.2.1 + (327 + 11)), .int 0, .int 0, .ref (g.2.2.1 + (327 + 12)), .ref (g.2.2.1 + (327 + 13)), .ref (g.2.2.1 + (327 + 14)), .long 0, .long 0, .null, .null, .null]), .inl (g.2.1 0, 5550, .inl (fun _ => 0)), .inl (g.2.1 4, 132, .inr (.inr (.inr (.inl (fun _ => 0))))), .inl (g.2.1 2, 2, .inl (fun _ => 0)), .inl (g.2.1 0, 900, .inl (fun _ => 0)), .inl (g.2.1 0, 1850, .inl (fun _ => 0)), .inl (g.2.1 0, 900, .inl (fun _ => 0)), .inl (g.2.1 0, 4, .inl (fun _ => 0)), .inl (g.2.1 0, 83, .inl (fun _ => 0)), .inl (g.2.1 4, 4, .inr (.inr (.inr (.inl (fun _ => 0))))), .inl (g.2.1 0, 83, .inl (fun _ => 0)), .inl (g.2.1 4, 4, .inr (.inr (.inr (.inl (fun _ => 0))))), .inl (g.2.1 0, 6, .inl (fun _ => 0)), .inl (g.2.1 0, 249, .inl (fun _ => 0)), .inl (g.2.1 4, 12, .inr (.inr (.inr (.inl (fun _ => 0)))))]) d_X9_init_120 rfl rfl (Nat.le_of_ble_eq_true rfl) rfl rfl rfl ?_
  refine pm_ald d_X9_init_123 rfl ?_
  refine pm_ki d_X9_init_124 ?_
  refine pd_newa_int (N0 := 327) (m := 15) (nn := 4) (lst' := [.inr (9, [.int 0, .ref (g.2.2.1 + (327 + 1)), .ref (g.2.2.1 + (327 + 2)), .ref (g.2.2.1 + (327 + 3)), .ref (g.2.2.1 + (327 + 4)), .ref (g.2.2.1 + (327 + 5)), .int 0, .int 0, .int 0, .int 0, .int 0, .int 0, .int 0, .int 0, .int 0, .int (-1), .int 0, .ref (g.2.2.1 + (327 + 6)), .ref (g.2.2.1 + (327 + 7)), .ref (g.2.2.1 + (327 + 8)), .ref (g.2.2.1 + (327 + 9)), .int 0, .int 0, .int 0, .int 0, .int 0, .ref (g.2.2.1 + (327 + 10)), .ref (g.2.2.1 + (327 + 11)), .int 0, .int 0, .ref (g.2.2.1 + (327 + 12)), .ref (g.2.2.1 + (327 + 13)), .ref (g.2.2.1 + (327 + 14)), .long 0, .long 0, .null, .null, .null]), .inl (g.2.1 0, 5550, .inl (fun _ => 0)), .inl (g.2.1 4, 132, .inr (.inr (.inr (.inl (fun _ => 0))))), .inl (g.2.1 2, 2, .inl (fun _ => 0)), .inl (g.2.1 0, 900, .inl (fun _ => 0)), .inl (g.2.1 0, 1850, .inl (fun _ => 0)), .inl (g.2.1 0, 900, .inl (fun _ => 0)), .inl (g.2.1 0, 4, .inl (fun _ => 0)), .inl (g.2.1 0, 83, .inl (fun _ => 0)), .inl (g.2.1 4, 4, .inr (.inr (.inr (.inl (fun _ => 0))))), .inl (g.2.1 0, 83, .inl (fun _ => 0)), .inl (g.2.1 4, 4, .inr (.inr (.inr (.inl (fun _ => 0))))), .inl (g.2.1 0, 6, .inl (fun _ => 0)), .inl (g.2.1 0, 249, .inl (fun _ => 0)), .inl (g.2.1 4, 12, .inr (.inr (.inr (.inl (fun _ => 0))))), .inl (g.2.1 0, 4, .inl (fun _ => 0))]) d_X9_init_125 (by decide) rfl (by decide) (Nat.le_of_ble_eq_true rfl) (Nat.le_of_ble_eq_true rfl) rfl rfl ?_
  refine pm_dup d_X9_init_127 rfl ?_
  refine pm_ki d_X9_init_128 ?_
  refine pm_ki d_X9_init_129 ?_
  refine pm_iast (327 + 15) (n := 4) (f := (fun _ => 0)) d_X9_init_130 (by decide) rfl (vp_in_nI (n := 0) (N := 4) (by decide) (by decide)) ?_
  rw [pd_set (Nat.le_of_ble_eq_true rfl)]
  show pm_W g mX9_init _ 15 9783 131 _ _ (327 + 16) (pd E0 327 [.inr (9, [.int 0, .ref (g.2.2.1 + (327 + 1)), .ref (g.2.2.1 + (327 + 2)), .ref (g.2.2.1 + (327 + 3)), .ref (g.2.2.1 + (327 + 4)), .ref (g.2.2.1 + (327 + 5)), .int 0, .int 0, .int 0, .int 0, .int 0, .int 0, .int 0, .int 0, .int 0, .int (-1), .int 0, .ref (g.2.2.1 + (327 + 6)), .ref (g.2.2.1 + (327 + 7)), .ref (g.2.2.1 + (327 + 8)), .ref (g.2.2.1 + (327 + 9)), .int 0, .int 0, .int 0, .int 0, .int 0, .ref (g.2.2.1 + (327 + 10)), .ref (g.2.2.1 + (327 + 11)), .int 0, .int 0, .ref (g.2.2.1 + (327 + 12)), .ref (g.2.2.1 + (327 + 13)), .ref (g.2.2.1 + (327 + 14)), .long 0, .long 0, .null, .null, .null]), .inl (g.2.1 0, 5550, .inl (fun _ => 0)), .inl (g.2.1 4, 132, .inr (.inr (.inr (.inl (fun _ => 0))))), .inl (g.2.1 2, 2, .inl (fun _ => 0)), .inl (g.2.1 0, 900, .inl (fun _ => 0)), .inl (g.2.1 0, 1850, .inl (fun _ => 0)), .inl (g.2.1 0, 900, .inl (fun _ => 0)), .inl (g.2.1 0, 4, .inl (fun _ => 0)), .inl (g.2.1 0, 83, .inl (fun _ => 0)), .inl (g.2.1 4, 4, .inr (.inr (.inr (.inl (fun _ => 0))))), .inl (g.2.1 0, 83, .inl (fun _ => 0)), .inl (g.2.1 4, 4, .inr (.inr (.inr (.inl (fun _ => 0))))), .inl (g.2.1 0, 6, .inl (fun _ => 0)), .inl (g.2.1 0, 249, .inl (fun _ => 0)), .inl (g.2.1 4, 12, .inr (.inr (.inr (.inl (fun _ => 0))))), .inl (g.2.1 0, 4, .inl (upd (fun _ => 0) 0 (-1)))])
  refine pm_dup d_X9_init_131 rfl ?_
  refine pm_ki d_X9_init_132 ?_
  refine pm_ki d_X9_init_133 ?_
  refine pm_iast (327 + 15) (n := 4) (f := (upd (fun _ => 0) 0 (-1))) d_X9_init_134 (by decide) rfl (vp_in_nI (n := 1) (N := 4) (by decide) (by decide)) ?_
  rw [pd_set (Nat.le_of_ble_eq_true rfl)]
  show pm_W g mX9_init _ 15 9783 135 _ _ (327 + 16) (pd E0 327 [.inr (9, [.int 0, .ref (g.2.2.1 + (327 + 1)), .ref (g.2.2.1 + (327 + 2)), .ref (g.2.2.1 + (327 + 3)), .ref (g.2.2.1 + (327 + 4)), .ref (g.2.2.1 + (327 + 5)), .int 0, .int 0, .int 0, .int 0, .int 0, .int 0, .int 0, .int 0, .int 0, .int (-1), .int 0, .ref (g.2.2.1 + (327 + 6)), .ref (g.2.2.1 + (327 + 7)), .ref (g.2.2.1 + (327 + 8)), .ref (g.2.2.1 + (327 + 9)), .int 0, .int 0, .int 0, .int 0, .int 0, .ref (g.2.2.1 + (327 + 10)), .ref (g.2.2.1 + (327 + 11)), .int 0, .int 0, .ref (g.2.2.1 + (327 + 12)), .ref (g.2.2.1 + (327 + 13)), .ref (g.2.2.1 + (327 + 14)), .long 0, .long 0, .null, .null, .null]), .inl (g.2.1 0, 5550, .inl (fun _ => 0)), .inl (g.2.1 4, 132, .inr (.inr (.inr (.inl (fun _ => 0))))), .inl (g.2.1 2, 2, .inl (fun _ => 0)), .inl (g.2.1 0, 900, .inl (fun _ => 0)), .inl (g.2.1 0, 1850, .inl (fun _ => 0)), .inl (g.2.1 0, 900, .inl (fun _ => 0)), .inl (g.2.1 0, 4, .inl (fun _ => 0)), .inl (g.2.1 0, 83, .inl (fun _ => 0)), .inl (g.2.1 4, 4, .inr (.inr (.inr (.inl (fun _ => 0))))), .inl (g.2.1 0, 83, .inl (fun _ => 0)), .inl (g.2.1 4, 4, .inr (.inr (.inr (.inl (fun _ => 0))))), .inl (g.2.1 0, 6, .inl (fun _ => 0)), .inl (g.2.1 0, 249, .inl (fun _ => 0)), .inl (g.2.1 4, 12, .inr (.inr (.inr (.inl (fun _ => 0))))), .inl (g.2.1 0, 4, .inl (upd (upd (fun _ => 0) 0 (-1)) 1 (-1)))])
  refine pm_dup d_X9_init_135 rfl ?_
  refine pm_ki d_X9_init_136 ?_
  refine pm_ki d_X9_init_137 ?_
  refine pm_iast (327 + 15) (n := 4) (f := (upd (upd (fun _ => 0) 0 (-1)) 1 (-1))) d_X9_init_138 (by decide) rfl (vp_in_nI (n := 2) (N := 4) (by decide) (by decide)) ?_
  rw [pd_set (Nat.le_of_ble_eq_true rfl)]
  show pm_W g mX9_init _ 15 9783 139 _ _ (327 + 16) (pd E0 327 [.inr (9, [.int 0, .ref (g.2.2.1 + (327 + 1)), .ref (g.2.2.1 + (327 + 2)), .ref (g.2.2.1 + (327 + 3)), .ref (g.2.2.1 + (327 + 4)), .ref (g.2.2.1 + (327 + 5)), .int 0, .int 0, .int 0, .int 0, .int 0, .int 0, .int 0, .int 0, .int 0, .int (-1), .int 0, .ref (g.2.2.1 + (327 + 6)), .ref (g.2.2.1 + (327 + 7)), .ref (g.2.2.1 + (327 + 8)), .ref (g.2.2.1 + (327 + 9)), .int 0, .int 0, .int 0, .int 0, .int 0, .ref (g.2.2.1 + (327 + 10)), .ref (g.2.2.1 + (327 + 11)), .int 0, .int 0, .ref (g.2.2.1 + (327 + 12)), .ref (g.2.2.1 + (327 + 13)), .ref (g.2.2.1 + (327 + 14)), .long 0, .long 0, .null, .null, .null]), .inl (g.2.1 0, 5550, .inl (fun _ => 0)), .inl (g.2.1 4, 132, .inr (.inr (.inr (.inl (fun _ => 0))))), .inl (g.2.1 2, 2, .inl (fun _ => 0)), .inl (g.2.1 0, 900, .inl (fun _ => 0)), .inl (g.2.1 0, 1850, .inl (fun _ => 0)), .inl (g.2.1 0, 900, .inl (fun _ => 0)), .inl (g.2.1 0, 4, .inl (fun _ => 0)), .inl (g.2.1 0, 83, .inl (fun _ => 0)), .inl (g.2.1 4, 4, .inr (.inr (.inr (.inl (fun _ => 0))))), .inl (g.2.1 0, 83, .inl (fun _ => 0)), .inl (g.2.1 4, 4, .inr (.inr (.inr (.inl (fun _ => 0))))), .inl (g.2.1 0, 6, .inl (fun _ => 0)), .inl (g.2.1 0, 249, .inl (fun _ => 0)), .inl (g.2.1 4, 12, .inr (.inr (.inr (.inl (fun _ => 0))))), .inl (g.2.1 0, 4, .inl (upd (upd (upd (fun _ => 0) 0 (-1)) 1 (-1)) 2 (-1)))])
  refine pm_dup d_X9_init_139 rfl ?_
  refine pm_ki d_X9_init_140 ?_
  refine pm_ki d_X9_init_141 ?_
  refine pm_iast (327 + 15) (n := 4) (f := (upd (upd (upd (fun _ => 0) 0 (-1)) 1 (-1)) 2 (-1))) d_X9_init_142 (by decide) rfl (vp_in_nI (n := 3) (N := 4) (by decide) (by decide)) ?_
  rw [pd_set (Nat.le_of_ble_eq_true rfl)]
  show pm_W g mX9_init _ 15 9783 143 _ _ (327 + 16) (pd E0 327 [.inr (9, [.int 0, .ref (g.2.2.1 + (327 + 1)), .ref (g.2.2.1 + (327 + 2)), .ref (g.2.2.1 + (327 + 3)), .ref (g.2.2.1 + (327 + 4)), .ref (g.2.2.1 + (327 + 5)), .int 0, .int 0, .int 0, .int 0, .int 0, .int 0, .int 0, .int 0, .int 0, .int (-1), .int 0, .ref (g.2.2.1 + (327 + 6)), .ref (g.2.2.1 + (327 + 7)), .ref (g.2.2.1 + (327 + 8)), .ref (g.2.2.1 + (327 + 9)), .int 0, .int 0, .int 0, .int 0, .int 0, .ref (g.2.2.1 + (327 + 10)), .ref (g.2.2.1 + (327 + 11)), .int 0, .int 0, .ref (g.2.2.1 + (327 + 12)), .ref (g.2.2.1 + (327 + 13)), .ref (g.2.2.1 + (327 + 14)), .long 0, .long 0, .null, .null, .null]), .inl (g.2.1 0, 5550, .inl (fun _ => 0)), .inl (g.2.1 4, 132, .inr (.inr (.inr (.inl (fun _ => 0))))), .inl (g.2.1 2, 2, .inl (fun _ => 0)), .inl (g.2.1 0, 900, .inl (fun _ => 0)), .inl (g.2.1 0, 1850, .inl (fun _ => 0)), .inl (g.2.1 0, 900, .inl (fun _ => 0)), .inl (g.2.1 0, 4, .inl (fun _ => 0)), .inl (g.2.1 0, 83, .inl (fun _ => 0)), .inl (g.2.1 4, 4, .inr (.inr (.inr (.inl (fun _ => 0))))), .inl (g.2.1 0, 83, .inl (fun _ => 0)), .inl (g.2.1 4, 4, .inr (.inr (.inr (.inl (fun _ => 0))))), .inl (g.2.1 0, 6, .inl (fun _ => 0)), .inl (g.2.1 0, 249, .inl (fun _ => 0)), .inl (g.2.1 4, 12, .inr (.inr (.inr (.inl (fun _ => 0))))), .inl (g.2.1 0, 4, .inl (upd (upd (upd (upd (fun _ => 0) 0 (-1)) 1 (-1)) 2 (-1)) 3 (-1)))])
  refine pd_putF 0 (N0 := 327) (m := 16) (lst' := [.inr (9, [.int 0, .ref (g.2.2.1 + (327 + 1)), .ref (g.2.2.1 + (327 + 2)), .ref (g.2.2.1 + (327 + 3)), .ref (g.2.2.1 + (327 + 4)), .ref (g.2.2.1 + (327 + 5)), .int 0, .int 0, .int 0, .int 0, .int 0, .int 0, .int 0, .int 0, .int 0, .int (-1), .int 0, .ref (g.2.2.1 + (327 + 6)), .ref (g.2.2.1 + (327 + 7)), .ref (g.2.2.1 + (327 + 8)), .ref (g.2.2.1 + (327 + 9)), .int 0, .int 0, .int 0, .int 0, .int 0, .ref (g.2.2.1 + (327 + 10)), .ref (g.2.2.1 + (327 + 11)), .int 0, .int 0, .ref (g.2.2.1 + (327 + 12)), .ref (g.2.2.1 + (327 + 13)), .ref (g.2.2.1 + (327 + 14)), .long 0, .long 0, .ref (g.2.2.1 + (327 + 15)), .null, .null]), .inl (g.2.1 0, 5550, .inl (fun _ => 0)), .inl (g.2.1 4, 132, .inr (.inr (.inr (.inl (fun _ => 0))))), .inl (g.2.1 2, 2, .inl (fun _ => 0)), .inl (g.2.1 0, 900, .inl (fun _ => 0)), .inl (g.2.1 0, 1850, .inl (fun _ => 0)), .inl (g.2.1 0, 900, .inl (fun _ => 0)), .inl (g.2.1 0, 4, .inl (fun _ => 0)), .inl (g.2.1 0, 83, .inl (fun _ => 0)), .inl (g.2.1 4, 4, .inr (.inr (.inr (.inl (fun _ => 0))))), .inl (g.2.1 0, 83, .inl (fun _ => 0)), .inl (g.2.1 4, 4, .inr (.inr (.inr (.inl (fun _ => 0))))), .inl (g.2.1 0, 6, .inl (fun _ => 0)), .inl (g.2.1 0, 249, .inl (fun _ => 0)), .inl (g.2.1 4, 12, .inr (.inr (.inr (.inl (fun _ => 0))))), .inl (g.2.1 0, 4, .inl (upd (upd (upd (upd (fun _ => 0) 0 (-1)) 1 (-1)) 2 (-1)) 3 (-1)))]) d_X9_init_143 rfl rfl (Nat.le_of_ble_eq_true rfl) rfl rfl rfl ?_
  refine pm_ald d_X9_init_146 rfl ?_
  refine pm_ki d_X9_init_147 ?_
  refine pd_newa_int (N0 := 327) (m := 16) (nn := 4) (lst' := [.inr (9, [.int 0, .ref (g.2.2.1 + (327 + 1)), .ref (g.2.2.1 + (327 + 2)), .ref (g.2.2.1 + (327 + 3)), .ref (g.2.2.1 + (327 + 4)), .ref (g.2.2.1 + (327 + 5)), .int 0, .int 0, .int 0, .int 0, .int 0, .int 0, .int 0, .int 0, .int 0, .int (-1), .int 0, .ref (g.2.2.1 + (327 + 6)), .ref (g.2.2.1 + (327 + 7)), .ref (g.2.2.1 + (327 + 8)), .ref (g.2.2.1 + (327 + 9)), .int 0, .int 0, .int 0, .int 0, .int 0, .ref (g.2.2.1 + (327 + 10)), .ref (g.2.2.1 + (327 + 11)), .int 0, .int 0, .ref (g.2.2.1 + (327 + 12)), .ref (g.2.2.1 + (327 + 13)), .ref (g.2.2.1 + (327 + 14)), .long 0, .long 0, .ref (g.2.2.1 + (327 + 15)), .null, .null]), .inl (g.2.1 0, 5550, .inl (fun _ => 0)), .inl (g.2.1 4, 132, .inr (.inr (.inr (.inl (fun _ => 0))))), .inl (g.2.1 2, 2, .inl (fun _ => 0)), .inl (g.2.1 0, 900, .inl (fun _ => 0)), .inl (g.2.1 0, 1850, .inl (fun _ => 0)), .inl (g.2.1 0, 900, .inl (fun _ => 0)), .inl (g.2.1 0, 4, .inl (fun _ => 0)), .inl (g.2.1 0, 83, .inl (fun _ => 0)), .inl (g.2.1 4, 4, .inr (.inr (.inr (.inl (fun _ => 0))))), .inl (g.2.1 0, 83, .inl (fun _ => 0)), .inl (g.2.1 4, 4, .inr (.inr (.inr (.inl (fun _ => 0))))), .inl (g.2.1 0, 6, .inl (fun _ => 0)), .inl (g.2.1 0, 249, .inl (fun _ => 0)), .inl (g.2.1 4, 12, .inr (.inr (.inr (.inl (fun _ => 0))))), .inl (g.2.1 0, 4, .inl (upd (upd (upd (upd (fun _ => 0) 0 (-1)) 1 (-1)) 2 (-1)) 3 (-1))), .inl (g.2.1 0, 4, .inl (fun _ => 0))]) d_X9_init_148 (by decide) rfl (by decide) (Nat.le_of_ble_eq_true rfl) (Nat.le_of_ble_eq_true rfl) rfl rfl ?_
  refine pd_putF 0 (N0 := 327) (m := 17) (lst' := [.inr (9, [.int 0, .ref (g.2.2.1 + (327 + 1)), .ref (g.2.2.1 + (327 + 2)), .ref (g.2.2.1 + (327 + 3)), .ref (g.2.2.1 + (327 + 4)), .ref (g.2.2.1 + (327 + 5)), .int 0, .int 0, .int 0, .int 0, .int 0, .int 0, .int 0, .int 0, .int 0, .int (-1), .int 0, .ref (g.2.2.1 + (327 + 6)), .ref (g.2.2.1 + (327 + 7)), .ref (g.2.2.1 + (327 + 8)), .ref (g.2.2.1 + (327 + 9)), .int 0, .int 0, .int 0, .int 0, .int 0, .ref (g.2.2.1 + (327 + 10)), .ref (g.2.2.1 + (327 + 11)), .int 0, .int 0, .ref (g.2.2.1 + (327 + 12)), .ref (g.2.2.1 + (327 + 13)), .ref (g.2.2.1 + (327 + 14)), .long 0, .long 0, .ref (g.2.2.1 + (327 + 15)), .ref (g.2.2.1 + (327 + 16)), .null]), .inl (g.2.1 0, 5550, .inl (fun _ => 0)), .inl (g.2.1 4, 132, .inr (.inr (.inr (.inl (fun _ => 0))))), .inl (g.2.1 2, 2, .inl (fun _ => 0)), .inl (g.2.1 0, 900, .inl (fun _ => 0)), .inl (g.2.1 0, 1850, .inl (fun _ => 0)), .inl (g.2.1 0, 900, .inl (fun _ => 0)), .inl (g.2.1 0, 4, .inl (fun _ => 0)), .inl (g.2.1 0, 83, .inl (fun _ => 0)), .inl (g.2.1 4, 4, .inr (.inr (.inr (.inl (fun _ => 0))))), .inl (g.2.1 0, 83, .inl (fun _ => 0)), .inl (g.2.1 4, 4, .inr (.inr (.inr (.inl (fun _ => 0))))), .inl (g.2.1 0, 6, .inl (fun _ => 0)), .inl (g.2.1 0, 249, .inl (fun _ => 0)), .inl (g.2.1 4, 12, .inr (.inr (.inr (.inl (fun _ => 0))))), .inl (g.2.1 0, 4, .inl (upd (upd (upd (upd (fun _ => 0) 0 (-1)) 1 (-1)) 2 (-1)) 3 (-1))), .inl (g.2.1 0, 4, .inl (fun _ => 0))]) d_X9_init_150 rfl rfl (Nat.le_of_ble_eq_true rfl) rfl rfl rfl ?_
  refine pm_ald d_X9_init_153 rfl ?_
  refine pm_ki d_X9_init_154 ?_
  refine pd_newa_long (N0 := 327) (m := 17) (nn := 160) (lst' := [.inr (9, [.int 0, .ref (g.2.2.1 + (327 + 1)), .ref (g.2.2.1 + (327 + 2)), .ref (g.2.2.1 + (327 + 3)), .ref (g.2.2.1 + (327 + 4)), .ref (g.2.2.1 + (327 + 5)), .int 0, .int 0, .int 0, .int 0, .int 0, .int 0, .int 0, .int 0, .int 0, .int (-1), .int 0, .ref (g.2.2.1 + (327 + 6)), .ref (g.2.2.1 + (327 + 7)), .ref (g.2.2.1 + (327 + 8)), .ref (g.2.2.1 + (327 + 9)), .int 0, .int 0, .int 0, .int 0, .int 0, .ref (g.2.2.1 + (327 + 10)), .ref (g.2.2.1 + (327 + 11)), .int 0, .int 0, .ref (g.2.2.1 + (327 + 12)), .ref (g.2.2.1 + (327 + 13)), .ref (g.2.2.1 + (327 + 14)), .long 0, .long 0, .ref (g.2.2.1 + (327 + 15)), .ref (g.2.2.1 + (327 + 16)), .null]), .inl (g.2.1 0, 5550, .inl (fun _ => 0)), .inl (g.2.1 4, 132, .inr (.inr (.inr (.inl (fun _ => 0))))), .inl (g.2.1 2, 2, .inl (fun _ => 0)), .inl (g.2.1 0, 900, .inl (fun _ => 0)), .inl (g.2.1 0, 1850, .inl (fun _ => 0)), .inl (g.2.1 0, 900, .inl (fun _ => 0)), .inl (g.2.1 0, 4, .inl (fun _ => 0)), .inl (g.2.1 0, 83, .inl (fun _ => 0)), .inl (g.2.1 4, 4, .inr (.inr (.inr (.inl (fun _ => 0))))), .inl (g.2.1 0, 83, .inl (fun _ => 0)), .inl (g.2.1 4, 4, .inr (.inr (.inr (.inl (fun _ => 0))))), .inl (g.2.1 0, 6, .inl (fun _ => 0)), .inl (g.2.1 0, 249, .inl (fun _ => 0)), .inl (g.2.1 4, 12, .inr (.inr (.inr (.inl (fun _ => 0))))), .inl (g.2.1 0, 4, .inl (upd (upd (upd (upd (fun _ => 0) 0 (-1)) 1 (-1)) 2 (-1)) 3 (-1))), .inl (g.2.1 0, 4, .inl (fun _ => 0)), .inl (g.2.1 3, 160, .inr (.inl (fun _ => 0)))]) d_X9_init_157 (by decide) rfl (by decide) (Nat.le_of_ble_eq_true rfl) (Nat.le_of_ble_eq_true rfl) rfl rfl ?_
  refine pd_putF 0 (N0 := 327) (m := 18) (lst' := [.inr (9, [.int 0, .ref (g.2.2.1 + (327 + 1)), .ref (g.2.2.1 + (327 + 2)), .ref (g.2.2.1 + (327 + 3)), .ref (g.2.2.1 + (327 + 4)), .ref (g.2.2.1 + (327 + 5)), .int 0, .int 0, .int 0, .int 0, .int 0, .int 0, .int 0, .int 0, .int 0, .int (-1), .int 0, .ref (g.2.2.1 + (327 + 6)), .ref (g.2.2.1 + (327 + 7)), .ref (g.2.2.1 + (327 + 8)), .ref (g.2.2.1 + (327 + 9)), .int 0, .int 0, .int 0, .int 0, .int 0, .ref (g.2.2.1 + (327 + 10)), .ref (g.2.2.1 + (327 + 11)), .int 0, .int 0, .ref (g.2.2.1 + (327 + 12)), .ref (g.2.2.1 + (327 + 13)), .ref (g.2.2.1 + (327 + 14)), .long 0, .long 0, .ref (g.2.2.1 + (327 + 15)), .ref (g.2.2.1 + (327 + 16)), .ref (g.2.2.1 + (327 + 17))]), .inl (g.2.1 0, 5550, .inl (fun _ => 0)), .inl (g.2.1 4, 132, .inr (.inr (.inr (.inl (fun _ => 0))))), .inl (g.2.1 2, 2, .inl (fun _ => 0)), .inl (g.2.1 0, 900, .inl (fun _ => 0)), .inl (g.2.1 0, 1850, .inl (fun _ => 0)), .inl (g.2.1 0, 900, .inl (fun _ => 0)), .inl (g.2.1 0, 4, .inl (fun _ => 0)), .inl (g.2.1 0, 83, .inl (fun _ => 0)), .inl (g.2.1 4, 4, .inr (.inr (.inr (.inl (fun _ => 0))))), .inl (g.2.1 0, 83, .inl (fun _ => 0)), .inl (g.2.1 4, 4, .inr (.inr (.inr (.inl (fun _ => 0))))), .inl (g.2.1 0, 6, .inl (fun _ => 0)), .inl (g.2.1 0, 249, .inl (fun _ => 0)), .inl (g.2.1 4, 12, .inr (.inr (.inr (.inl (fun _ => 0))))), .inl (g.2.1 0, 4, .inl (upd (upd (upd (upd (fun _ => 0) 0 (-1)) 1 (-1)) 2 (-1)) 3 (-1))), .inl (g.2.1 0, 4, .inl (fun _ => 0)), .inl (g.2.1 3, 160, .inr (.inl (fun _ => 0)))]) d_X9_init_159 rfl rfl (Nat.le_of_ble_eq_true rfl) rfl rfl rfl ?_
  refine pm_ald d_X9_init_162 rfl ?_
  refine pd_get 0 (N0 := 327) (m := 18) d_X9_init_163 rfl rfl rfl ?_
  refine pw_cg (ps_E g (pw_m σ)) (cn' := 17) (sn' := 9947) (N' := 345) rfl rfl rfl (pw_sub2 hE (n := 18) (fun j hj => match j, hj with | 0, _ => rfl | 1, _ => rfl | 2, _ => rfl | 3, _ => rfl | 4, _ => rfl | 5, _ => rfl | 6, _ => rfl | 7, _ => rfl | 8, _ => rfl | 9, _ => rfl | 10, _ => rfl | 11, _ => rfl | 12, _ => rfl | 13, _ => rfl | 14, _ => rfl | 15, _ => rfl | 16, _ => rfl | 17, _ => rfl | j + 18, h => absurd h (by omega))) ?_
  refine ps_cSV d_X9_init_166 ms_X9_plain (As := [.ref (g.2.2.1 + 328)]) rfl rfl ⟨(Nat.le_of_ble_eq_true rfl), (Nat.le_of_ble_eq_true rfl), (Nat.le_of_ble_eq_true rfl), (Nat.le_of_ble_eq_true rfl)⟩ (Nat.le_of_ble_eq_true rfl) (C_X9_plain 328 5550 8 327 1 at_328 a_8_1 (pw_m σ) _ hK) (fun σ1 hP => ?_)
  exact pm_vret rfl d_X9_init_169 rfl (Nat.le_refl _) ⟨rfl, σ1, rfl, hP⟩
