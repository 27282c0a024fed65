/-! the cells behind the two constructors: 345, of a fixed shape; ints, longs, doubles in three tables -/
abbrev ps_S : Type := (Nat → Nat → Int32) × (Nat → Nat → Int64) × (Nat → Nat → UInt64)
def ps_rI (σ : ps_S) (k : Nat) (f : Nat → Int32) : ps_S := (fun a => if a = k then f else σ.1 a, σ.2)
def ps_rL (σ : ps_S) (k : Nat) (f : Nat → Int64) : ps_S := (σ.1, fun a => if a = k then f else σ.2.1 a, σ.2.2)
def ps_rD (σ : ps_S) (k : Nat) (f : Nat → UInt64) : ps_S := (σ.1, σ.2.1, fun a => if a = k then f else σ.2.2 a)
def ps_kind (k : Nat) : Nat × Nat :=
  if k = 0 then (0, 0) else if k = 1 then (1, 1) else if k < 11 then (2, 2) else if k = 11 then (3, 11) else if k < 21 then (2, 12) else if k < 26 then (4, 21)
  else if k < 80 then (5, 26 + 18 * ((k - 26) / 18)) else if k < 85 then (6, 80) else if k < 265 then (5, 85 + 18 * ((k - 85) / 18)) else if k < 273 then (7, 265 + 2 * ((k - 265) / 2))
  else if k < 327 then (if (k - 273) % 27 < 9 then (2, 273 + 27 * ((k - 273) / 27)) else (5, 282 + 27 * ((k - 273) / 27))) else (8, 327)
def ps_k0 (g : pm_G) (a : Nat → Int32) (b : Nat → Int64) (c : Nat → UInt64) (B off : Nat) : va_E := match off with
  | _ => .inr (8, [.ref (g.2.2.1 + 1), .int (a 1), .ref (g.2.2.1 + 2), .ref (g.2.2.1 + 11), .ref (g.2.2.1 + 12), .ref (g.2.2.1 + 21), .ref (g.2.2.1 + 26), .ref (g.2.2.1 + 44), .ref (g.2.2.1 + 62), .ref (g.2.2.1 + 80), .int (a 10), .int (a 11), .ref (g.2.2.1 + 81), .ref (g.2.2.1 + 82), .ref (g.2.2.1 + 83), .ref (g.2.2.1 + 84), .int (a 16)])
def ps_k1 (g : pm_G) (a : Nat → Int32) (b : Nat → Int64) (c : Nat → UInt64) (B off : Nat) : va_E := match off with
  | _ => .inl (g.2.1 1, 900, .inl a)
def ps_k2 (g : pm_G) (a : Nat → Int32) (b : Nat → Int64) (c : Nat → UInt64) (B off : Nat) : va_E := match off with
  | 0 => .inr (2, [.int (a 0), .int (a 1), .int (a 2), .int (a 3), .int (a 4), .int (a 5), .int (a 6), .int (a 7), .int (a 8), .int (a 9), .int (a 10), .ref (g.2.2.1 + (B + 1)), .ref (g.2.2.1 + (B + 2)), .ref (g.2.2.1 + (B + 3)), .ref (g.2.2.1 + (B + 4)), .ref (g.2.2.1 + (B + 5)), .ref (g.2.2.1 + (B + 6)), .ref (g.2.2.1 + (B + 7))])
  | 1 => .inl (g.2.1 0, 4, .inl a)
  | 2 => .inl (g.2.1 0, 4, .inl a)
  | 3 => .inl (g.2.1 0, 12, .inl a)
  | 4 => .inl (g.2.1 0, 6, .inl a)
  | 5 => .inl (g.2.1 0, 6, .inl a)
  | 6 => .inl (g.2.1 0, 6, .inl a)
  | 7 => .inr (3, [.ref (g.2.2.1 + (B + 8)), .int (a 1), .int (a 2), .int (a 3), .int (a 4), .int (a 5)])
  | _ => .inl (g.2.1 0, 900, .inl a)
def ps_k3 (g : pm_G) (a : Nat → Int32) (b : Nat → Int64) (c : Nat → UInt64) (B off : Nat) : va_E := match off with
  | _ => .inr (5, [.int (a 0), .int (a 1), .ref (g.2.2.1 + 1), .ref (g.2.2.1 + 2), .int (a 4), .int (a 5), .int (a 6), .int (a 7), .int (a 8), .int (a 9), .int (a 10), .int (a 11)])
def ps_k4 (g : pm_G) (a : Nat → Int32) (b : Nat → Int64) (c : Nat → UInt64) (B off : Nat) : va_E := match off with
  | 0 => .inr (0, [.ref (g.2.2.1 + 12), .ref (g.2.2.1 + 22)])
  | 1 => .inr (4, [.ref (g.2.2.1 + 12), .ref (g.2.2.1 + 23), .ref (g.2.2.1 + 24), .ref (g.2.2.1 + 25)])
  | 2 => .inl (g.2.1 0, 1000, .inl a)
  | 3 => .inl (g.2.1 0, 10, .inl a)
  | _ => .inl (g.2.1 0, 100, .inl a)
def ps_k5 (g : pm_G) (a : Nat → Int32) (b : Nat → Int64) (c : Nat → UInt64) (B off : Nat) : va_E := match off with
  | 0 => .inr (6, [.ref (g.2.2.1 + (B + 1)), .ref (g.2.2.1 + (B + 11)), .ref (g.2.2.1 + (B + 12)), .ref (g.2.2.1 + (B + 13)), .ref (g.2.2.1 + (B + 14)), .ref (g.2.2.1 + (B + 15)), .ref (g.2.2.1 + (B + 16)), .ref (g.2.2.1 + (B + 17)), .int (a 8), .int (a 9), .int (a 10), .int (a 11), .int (a 12), .int (a 13)])
  | 1 => .inr (1, [.ref (g.2.2.1 + (B + 2)), .ref (g.2.2.1 + (B + 3)), .ref (g.2.2.1 + (B + 4)), .ref (g.2.2.1 + (B + 5)), .ref (g.2.2.1 + (B + 6)), .ref (g.2.2.1 + (B + 7)), .ref (g.2.2.1 + (B + 8)), .ref (g.2.2.1 + (B + 9)), .ref (g.2.2.1 + (B + 10))])
  | 2 => .inl (g.2.1 0, 4, .inl a)
  | 3 => .inl (g.2.1 0, 4, .inl a)
  | 4 => .inl (g.2.1 0, 4, .inl a)
  | 5 => .inl (g.2.1 0, 4, .inl a)
  | 6 => .inl (g.2.1 4, 4, .inr (.inr (.inr (.inl c))))
  | 7 => .inl (g.2.1 0, 4, .inl a)
  | 8 => .inl (g.2.1 0, 4, .inl a)
  | 9 => .inl (g.2.1 0, 4, .inl a)
  | 10 => .inl (g.2.1 0, 4, .inl a)
  | 11 => .inl (g.2.1 0, 12, .inl a)
  | 12 => .inl (g.2.1 0, 12, .inl a)
  | 13 => .inl (g.2.1 0, 6, .inl a)
  | 14 => .inl (g.2.1 0, 6, .inl a)
  | 15 => .inl (g.2.1 0, 6, .inl a)
  | 16 => .inl (g.2.1 0, 6, .inl a)
  | _ => .inl (g.2.1 0, 6, .inl a)
def ps_k6 (g : pm_G) (a : Nat → Int32) (b : Nat → Int64) (c : Nat → UInt64) (B off : Nat) : va_E := match off with
  | 0 => .inl (g.2.1 5, 10, .inr (.inr (.inr (.inr (fun i => if i < 10 then some (g.2.2.1 + (85 + 18 * i)) else none)))))
  | 1 => .inl (g.2.1 6, 4, .inr (.inr (.inr (.inr (fun i => if i < 4 then some (g.2.2.1 + (265 + 2 * i)) else none)))))
  | 2 => .inl (g.2.1 7, 2, .inr (.inr (.inr (.inr (fun i => if i < 2 then some (g.2.2.1 + (273 + 27 * i)) else none)))))
  | 3 => .inl (g.2.1 5, 2, .inr (.inr (.inr (.inr (fun i => if i < 2 then some (g.2.2.1 + (282 + 27 * i)) else none)))))
  | _ => .inl (g.2.1 2, 2, .inl a)
def ps_k7 (g : pm_G) (a : Nat → Int32) (b : Nat → Int64) (c : Nat → UInt64) (B off : Nat) : va_E := match off with
  | 0 => .inr (7, [.ref (g.2.2.1 + (B + 1)), .int (a 1), .int (a 2), .int (a 3)])
  | _ => .inl (g.2.1 3, 40, .inr (.inl b))
def ps_k8 (g : pm_G) (a : Nat → Int32) (b : Nat → Int64) (c : Nat → UInt64) (B off : Nat) : va_E := match off with
  | 0 => .inr (9, [.int (a 0), .ref (g.2.2.1 + (327 + 1)), .ref (g.2.2.1 + (327 + 2)), .ref (g.2.2.1 + (327 + 3)), .ref (g.2.2.1 + (327 + 4)), .ref (g.2.2.1 + (327 + 5)), .int (a 6), .int (a 7), .int (a 8), .int (a 9), .int (a 10), .int (a 11), .int (a 12), .int (a 13), .int (a 14), .int (a 15), .int (a 16), .ref (g.2.2.1 + (327 + 6)), .ref (g.2.2.1 + (327 + 7)), .ref (g.2.2.1 + (327 + 8)), .ref (g.2.2.1 + (327 + 9)), .int (a 21), .int (a 22), .int (a 23), .int (a 24), .int (a 25), .ref (g.2.2.1 + (327 + 10)), .ref (g.2.2.1 + (327 + 11)), .int (a 28), .int (a 29), .ref (g.2.2.1 + (327 + 12)), .ref (g.2.2.1 + (327 + 13)), .ref (g.2.2.1 + (327 + 14)), .long (b 33), .long (b 34), .ref (g.2.2.1 + (327 + 15)), .ref (g.2.2.1 + (327 + 16)), .ref (g.2.2.1 + (327 + 17))])
  | 1 => .inl (g.2.1 0, 5550, .inl a)
  | 2 => .inl (g.2.1 4, 132, .inr (.inr (.inr (.inl c))))
  | 3 => .inl (g.2.1 2, 2, .inl a)
  | 4 => .inl (g.2.1 0, 900, .inl a)
  | 5 => .inl (g.2.1 0, 1850, .inl a)
  | 6 => .inl (g.2.1 0, 900, .inl a)
  | 7 => .inl (g.2.1 0, 4, .inl a)
  | 8 => .inl (g.2.1 0, 83, .inl a)
  | 9 => .inl (g.2.1 4, 4, .inr (.inr (.inr (.inl c))))
  | 10 => .inl (g.2.1 0, 83, .inl a)
  | 11 => .inl (g.2.1 4, 4, .inr (.inr (.inr (.inl c))))
  | 12 => .inl (g.2.1 0, 6, .inl a)
  | 13 => .inl (g.2.1 0, 249, .inl a)
  | 14 => .inl (g.2.1 4, 12, .inr (.inr (.inr (.inl c))))
  | 15 => .inl (g.2.1 0, 4, .inl a)
  | 16 => .inl (g.2.1 0, 4, .inl a)
  | _ => .inl (g.2.1 3, 160, .inr (.inl b))
def ps_cell (g : pm_G) (a : Nat → Int32) (b : Nat → Int64) (c : Nat → UInt64) (kd B off : Nat) : va_E := match kd with
  | 0 => ps_k0 g a b c B off
  | 1 => ps_k1 g a b c B off
  | 2 => ps_k2 g a b c B off
  | 3 => ps_k3 g a b c B off
  | 4 => ps_k4 g a b c B off
  | 5 => ps_k5 g a b c B off
  | 6 => ps_k6 g a b c B off
  | 7 => ps_k7 g a b c B off
  | _ => ps_k8 g a b c B off
def ps_E (g : pm_G) (σ : ps_S) : pm_E := fun k => ps_cell g (σ.1 k) (σ.2.1 k) (σ.2.2 k) (ps_kind k).1 (ps_kind k).2 (k - (ps_kind k).2)
/-- cell k is the one at 'off' of a block of kind kd that begins at B -/
def ps_at (k kd B off : Nat) : Prop := ps_kind k = (kd, B) ∧ k = B + off ∧ k < 345
theorem ps_at.E {k kd B off : Nat} (h : ps_at k kd B off) (g : pm_G) (σ : ps_S) : ps_E g σ k = ps_cell g (σ.1 k) (σ.2.1 k) (σ.2.2 k) kd B off := by
  obtain ⟨h1, h2, -⟩ := h
  unfold ps_E
  rw [h1]
  show ps_cell g _ _ _ kd B (k - B) = _
  rw [show k - B = off by omega]
theorem ps_upI {g : pm_G} {σ : ps_S} {k kd B off : Nat} {f : Nat → Int32} {e : va_E} (h : ps_at k kd B off) (he : ps_cell g f (σ.2.1 k) (σ.2.2 k) kd B off = e) : pm_up (ps_E g σ) k e = ps_E g (ps_rI σ k f) := by
  funext j
  by_cases hj : j = k
  · subst hj
    rw [h.E g (ps_rI σ j f)]
    simp only [pm_up, ps_rI, if_true]
    exact he.symm
  · simp only [pm_up, ps_rI, ps_E, hj, if_false]
theorem ps_upL {g : pm_G} {σ : ps_S} {k kd B off : Nat} {f : Nat → Int64} {e : va_E} (h : ps_at k kd B off) (he : ps_cell g (σ.1 k) f (σ.2.2 k) kd B off = e) : pm_up (ps_E g σ) k e = ps_E g (ps_rL σ k f) := by
  funext j
  by_cases hj : j = k
  · subst hj
    rw [h.E g (ps_rL σ j f)]
    simp only [pm_up, ps_rL, if_true]
    exact he.symm
  · simp only [pm_up, ps_rL, ps_E, hj, if_false]
theorem ps_upD {g : pm_G} {σ : ps_S} {k kd B off : Nat} {f : Nat → UInt64} {e : va_E} (h : ps_at k kd B off) (he : ps_cell g (σ.1 k) (σ.2.1 k) f kd B off = e) : pm_up (ps_E g σ) k e = ps_E g (ps_rD σ k f) := by
  funext j
  by_cases hj : j = k
  · subst hj
    rw [h.E g (ps_rD σ j f)]
    simp only [pm_up, ps_rD, if_true]
    exact he.symm
  · simp only [pm_up, ps_rD, ps_E, hj, if_false]
def ps_fI (kd off ci j : Nat) : Prop := ∀ (g : pm_G) (a : Nat → Int32) (b : Nat → Int64) (c : Nat → UInt64) (B : Nat), ∃ fs : List Value, ps_cell g a b c kd B off = .inr (ci, fs) ∧ fs[j]? = some (.int (a j)) ∧ j < fs.length ∧ ∀ v : Int32, ps_cell g (upd a j v) b c kd B off = .inr (ci, fs.set j (.int v))
def ps_fL (kd off ci j : Nat) : Prop := ∀ (g : pm_G) (a : Nat → Int32) (b : Nat → Int64) (c : Nat → UInt64) (B : Nat), ∃ fs : List Value, ps_cell g a b c kd B off = .inr (ci, fs) ∧ fs[j]? = some (.long (b j)) ∧ j < fs.length ∧ ∀ v : Int64, ps_cell g a (vp_updL b j v) c kd B off = .inr (ci, fs.set j (.long v))
def ps_fR (kd off ci j : Nat) (r : Nat → Nat) : Prop := ∀ (g : pm_G) (a : Nat → Int32) (b : Nat → Int64) (c : Nat → UInt64) (B : Nat), ∃ fs : List Value, ps_cell g a b c kd B off = .inr (ci, fs) ∧ fs[j]? = some (.ref (g.2.2.1 + r B))
def ps_aI (kd off n t : Nat) : Prop := ∀ (g : pm_G) (a : Nat → Int32) (b : Nat → Int64) (c : Nat → UInt64) (B : Nat), ps_cell g a b c kd B off = .inl (g.2.1 t, n, .inl a)
def ps_aL (kd off n : Nat) : Prop := ∀ (g : pm_G) (a : Nat → Int32) (b : Nat → Int64) (c : Nat → UInt64) (B : Nat), ps_cell g a b c kd B off = .inl (g.2.1 3, n, .inr (.inl b))
def ps_aD (kd off n : Nat) : Prop := ∀ (g : pm_G) (a : Nat → Int32) (b : Nat → Int64) (c : Nat → UInt64) (B : Nat), ps_cell g a b c kd B off = .inl (g.2.1 4, n, .inr (.inr (.inr (.inl c))))
def ps_aQ (kd off n t : Nat) (r : Nat → Nat) : Prop := ∀ (g : pm_G) (a : Nat → Int32) (b : Nat → Int64) (c : Nat → UInt64) (B : Nat), ps_cell g a b c kd B off = .inl (g.2.1 t, n, .inr (.inr (.inr (.inr (fun i => if i < n then some (g.2.2.1 + r i) else none)))))
/-- an object of class ci -/
def ps_ob (kd off ci : Nat) : Prop := ∀ (g : pm_G) (a : Nat → Int32) (b : Nat → Int64) (c : Nat → UInt64) (B : Nat), ∃ fs : List Value, ps_cell g a b c kd B off = .inr (ci, fs)
theorem ob_0_0 : ps_ob 0 0 8 := fun g a b c B => ⟨_, rfl⟩
theorem f_0_0_0 : ps_fR 0 0 8 0 (fun B => 1) := fun g a b c B => ⟨_, rfl, rfl⟩
theorem f_0_0_1 : ps_fI 0 0 8 1 := fun g a b c B => ⟨_, rfl, rfl, Nat.le_of_ble_eq_true rfl, fun v => rfl⟩
theorem f_0_0_2 : ps_fR 0 0 8 2 (fun B => 2) := fun g a b c B => ⟨_, rfl, rfl⟩
theorem f_0_0_3 : ps_fR 0 0 8 3 (fun B => 11) := fun g a b c B => ⟨_, rfl, rfl⟩
theorem f_0_0_4 : ps_fR 0 0 8 4 (fun B => 12) := fun g a b c B => ⟨_, rfl, rfl⟩
theorem f_0_0_5 : ps_fR 0 0 8 5 (fun B => 21) := fun g a b c B => ⟨_, rfl, rfl⟩
theorem f_0_0_6 : ps_fR 0 0 8 6 (fun B => 26) := fun g a b c B => ⟨_, rfl, rfl⟩
theorem f_0_0_7 : ps_fR 0 0 8 7 (fun B => 44) := fun g a b c B => ⟨_, rfl, rfl⟩
theorem f_0_0_8 : ps_fR 0 0 8 8 (fun B => 62) := fun g a b c B => ⟨_, rfl, rfl⟩
theorem f_0_0_9 : ps_fR 0 0 8 9 (fun B => 80) := fun g a b c B => ⟨_, rfl, rfl⟩
theorem f_0_0_10 : ps_fI 0 0 8 10 := fun g a b c B => ⟨_, rfl, rfl, Nat.le_of_ble_eq_true rfl, fun v => rfl⟩
theorem f_0_0_11 : ps_fI 0 0 8 11 := fun g a b c B => ⟨_, rfl, rfl, Nat.le_of_ble_eq_true rfl, fun v => rfl⟩
theorem f_0_0_12 : ps_fR 0 0 8 12 (fun B => 81) := fun g a b c B => ⟨_, rfl, rfl⟩
theorem f_0_0_13 : ps_fR 0 0 8 13 (fun B => 82) := fun g a b c B => ⟨_, rfl, rfl⟩
theorem f_0_0_14 : ps_fR 0 0 8 14 (fun B => 83) := fun g a b c B => ⟨_, rfl, rfl⟩
theorem f_0_0_15 : ps_fR 0 0 8 15 (fun B => 84) := fun g a b c B => ⟨_, rfl, rfl⟩
theorem f_0_0_16 : ps_fI 0 0 8 16 := fun g a b c B => ⟨_, rfl, rfl, Nat.le_of_ble_eq_true rfl, fun v => rfl⟩
theorem a_1_0 : ps_aI 1 0 900 1 := fun g a b c B => rfl
theorem ob_2_0 : ps_ob 2 0 2 := fun g a b c B => ⟨_, rfl⟩
theorem f_2_0_0 : ps_fI 2 0 2 0 := fun g a b c B => ⟨_, rfl, rfl, Nat.le_of_ble_eq_true rfl, fun v => rfl⟩
theorem f_2_0_1 : ps_fI 2 0 2 1 := fun g a b c B => ⟨_, rfl, rfl, Nat.le_of_ble_eq_true rfl, fun v => rfl⟩
theorem f_2_0_2 : ps_fI 2 0 2 2 := fun g a b c B => ⟨_, rfl, rfl, Nat.le_of_ble_eq_true rfl, fun v => rfl⟩
theorem f_2_0_3 : ps_fI 2 0 2 3 := fun g a b c B => ⟨_, rfl, rfl, Nat.le_of_ble_eq_true rfl, fun v => rfl⟩
theorem f_2_0_4 : ps_fI 2 0 2 4 := fun g a b c B => ⟨_, rfl, rfl, Nat.le_of_ble_eq_true rfl, fun v => rfl⟩
theorem f_2_0_5 : ps_fI 2 0 2 5 := fun g a b c B => ⟨_, rfl, rfl, Nat.le_of_ble_eq_true rfl, fun v => rfl⟩
theorem f_2_0_6 : ps_fI 2 0 2 6 := fun g a b c B => ⟨_, rfl, rfl, Nat.le_of_ble_eq_true rfl, fun v => rfl⟩
theorem f_2_0_7 : ps_fI 2 0 2 7 := fun g a b c B => ⟨_, rfl, rfl, Nat.le_of_ble_eq_true rfl, fun v => rfl⟩
theorem f_2_0_8 : ps_fI 2 0 2 8 := fun g a b c B => ⟨_, rfl, rfl, Nat.le_of_ble_eq_true rfl, fun v => rfl⟩
theorem f_2_0_9 : ps_fI 2 0 2 9 := fun g a b c B => ⟨_, rfl, rfl, Nat.le_of_ble_eq_true rfl, fun v => rfl⟩
theorem f_2_0_10 : ps_fI 2 0 2 10 := fun g a b c B => ⟨_, rfl, rfl, Nat.le_of_ble_eq_true rfl, fun v => rfl⟩
theorem f_2_0_11 : ps_fR 2 0 2 11 (fun B => (B + 1)) := fun g a b c B => ⟨_, rfl, rfl⟩
theorem f_2_0_12 : ps_fR 2 0 2 12 (fun B => (B + 2)) := fun g a b c B => ⟨_, rfl, rfl⟩
theorem f_2_0_13 : ps_fR 2 0 2 13 (fun B => (B + 3)) := fun g a b c B => ⟨_, rfl, rfl⟩
theorem f_2_0_14 : ps_fR 2 0 2 14 (fun B => (B + 4)) := fun g a b c B => ⟨_, rfl, rfl⟩
theorem f_2_0_15 : ps_fR 2 0 2 15 (fun B => (B + 5)) := fun g a b c B => ⟨_, rfl, rfl⟩
theorem f_2_0_16 : ps_fR 2 0 2 16 (fun B => (B + 6)) := fun g a b c B => ⟨_, rfl, rfl⟩
theorem f_2_0_17 : ps_fR 2 0 2 17 (fun B => (B + 7)) := fun g a b c B => ⟨_, rfl, rfl⟩
theorem a_2_1 : ps_aI 2 1 4 0 := fun g a b c B => rfl
theorem a_2_2 : ps_aI 2 2 4 0 := fun g a b c B => rfl
theorem a_2_3 : ps_aI 2 3 12 0 := fun g a b c B => rfl
theorem a_2_4 : ps_aI 2 4 6 0 := fun g a b c B => rfl
theorem a_2_5 : ps_aI 2 5 6 0 := fun g a b c B => rfl
theorem a_2_6 : ps_aI 2 6 6 0 := fun g a b c B => rfl
theorem ob_2_7 : ps_ob 2 7 3 := fun g a b c B => ⟨_, rfl⟩
theorem f_2_7_0 : ps_fR 2 7 3 0 (fun B => (B + 8)) := fun g a b c B => ⟨_, rfl, rfl⟩
theorem f_2_7_1 : ps_fI 2 7 3 1 := fun g a b c B => ⟨_, rfl, rfl, Nat.le_of_ble_eq_true rfl, fun v => rfl⟩
theorem f_2_7_2 : ps_fI 2 7 3 2 := fun g a b c B => ⟨_, rfl, rfl, Nat.le_of_ble_eq_true rfl, fun v => rfl⟩
theorem f_2_7_3 : ps_fI 2 7 3 3 := fun g a b c B => ⟨_, rfl, rfl, Nat.le_of_ble_eq_true rfl, fun v => rfl⟩
theorem f_2_7_4 : ps_fI 2 7 3 4 := fun g a b c B => ⟨_, rfl, rfl, Nat.le_of_ble_eq_true rfl, fun v => rfl⟩
theorem f_2_7_5 : ps_fI 2 7 3 5 := fun g a b c B => ⟨_, rfl, rfl, Nat.le_of_ble_eq_true rfl, fun v => rfl⟩
theorem a_2_8 : ps_aI 2 8 900 0 := fun g a b c B => rfl
theorem ob_3_0 : ps_ob 3 0 5 := fun g a b c B => ⟨_, rfl⟩
theorem f_3_0_0 : ps_fI 3 0 5 0 := fun g a b c B => ⟨_, rfl, rfl, Nat.le_of_ble_eq_true rfl, fun v => rfl⟩
theorem f_3_0_1 : ps_fI 3 0 5 1 := fun g a b c B => ⟨_, rfl, rfl, Nat.le_of_ble_eq_true rfl, fun v => rfl⟩
theorem f_3_0_2 : ps_fR 3 0 5 2 (fun B => 1) := fun g a b c B => ⟨_, rfl, rfl⟩
theorem f_3_0_3 : ps_fR 3 0 5 3 (fun B => 2) := fun g a b c B => ⟨_, rfl, rfl⟩
theorem f_3_0_4 : ps_fI 3 0 5 4 := fun g a b c B => ⟨_, rfl, rfl, Nat.le_of_ble_eq_true rfl, fun v => rfl⟩
theorem f_3_0_5 : ps_fI 3 0 5 5 := fun g a b c B => ⟨_, rfl, rfl, Nat.le_of_ble_eq_true rfl, fun v => rfl⟩
theorem f_3_0_6 : ps_fI 3 0 5 6 := fun g a b c B => ⟨_, rfl, rfl, Nat.le_of_ble_eq_true rfl, fun v => rfl⟩
theorem f_3_0_7 : ps_fI 3 0 5 7 := fun g a b c B => ⟨_, rfl, rfl, Nat.le_of_ble_eq_true rfl, fun v => rfl⟩
theorem f_3_0_8 : ps_fI 3 0 5 8 := fun g a b c B => ⟨_, rfl, rfl, Nat.le_of_ble_eq_true rfl, fun v => rfl⟩
theorem f_3_0_9 : ps_fI 3 0 5 9 := fun g a b c B => ⟨_, rfl, rfl, Nat.le_of_ble_eq_true rfl, fun v => rfl⟩
theorem f_3_0_10 : ps_fI 3 0 5 10 := fun g a b c B => ⟨_, rfl, rfl, Nat.le_of_ble_eq_true rfl, fun v => rfl⟩
theorem f_3_0_11 : ps_fI 3 0 5 11 := fun g a b c B => ⟨_, rfl, rfl, Nat.le_of_ble_eq_true rfl, fun v => rfl⟩
theorem ob_4_0 : ps_ob 4 0 0 := fun g a b c B => ⟨_, rfl⟩
theorem f_4_0_0 : ps_fR 4 0 0 0 (fun B => 12) := fun g a b c B => ⟨_, rfl, rfl⟩
theorem f_4_0_1 : ps_fR 4 0 0 1 (fun B => 22) := fun g a b c B => ⟨_, rfl, rfl⟩
theorem ob_4_1 : ps_ob 4 1 4 := fun g a b c B => ⟨_, rfl⟩
theorem f_4_1_0 : ps_fR 4 1 4 0 (fun B => 12) := fun g a b c B => ⟨_, rfl, rfl⟩
theorem f_4_1_1 : ps_fR 4 1 4 1 (fun B => 23) := fun g a b c B => ⟨_, rfl, rfl⟩
theorem f_4_1_2 : ps_fR 4 1 4 2 (fun B => 24) := fun g a b c B => ⟨_, rfl, rfl⟩
theorem f_4_1_3 : ps_fR 4 1 4 3 (fun B => 25) := fun g a b c B => ⟨_, rfl, rfl⟩
theorem a_4_2 : ps_aI 4 2 1000 0 := fun g a b c B => rfl
theorem a_4_3 : ps_aI 4 3 10 0 := fun g a b c B => rfl
theorem a_4_4 : ps_aI 4 4 100 0 := fun g a b c B => rfl
theorem ob_5_0 : ps_ob 5 0 6 := fun g a b c B => ⟨_, rfl⟩
theorem f_5_0_0 : ps_fR 5 0 6 0 (fun B => (B + 1)) := fun g a b c B => ⟨_, rfl, rfl⟩
theorem f_5_0_1 : ps_fR 5 0 6 1 (fun B => (B + 11)) := fun g a b c B => ⟨_, rfl, rfl⟩
theorem f_5_0_2 : ps_fR 5 0 6 2 (fun B => (B + 12)) := fun g a b c B => ⟨_, rfl, rfl⟩
theorem f_5_0_3 : ps_fR 5 0 6 3 (fun B => (B + 13)) := fun g a b c B => ⟨_, rfl, rfl⟩
theorem f_5_0_4 : ps_fR 5 0 6 4 (fun B => (B + 14)) := fun g a b c B => ⟨_, rfl, rfl⟩
theorem f_5_0_5 : ps_fR 5 0 6 5 (fun B => (B + 15)) := fun g a b c B => ⟨_, rfl, rfl⟩
theorem f_5_0_6 : ps_fR 5 0 6 6 (fun B => (B + 16)) := fun g a b c B => ⟨_, rfl, rfl⟩
theorem f_5_0_7 : ps_fR 5 0 6 7 (fun B => (B + 17)) := fun g a b c B => ⟨_, rfl, rfl⟩
theorem f_5_0_8 : ps_fI 5 0 6 8 := fun g a b c B => ⟨_, rfl, rfl, Nat.le_of_ble_eq_true rfl, fun v => rfl⟩
theorem f_5_0_9 : ps_fI 5 0 6 9 := fun g a b c B => ⟨_, rfl, rfl, Nat.le_of_ble_eq_true rfl, fun v => rfl⟩
theorem f_5_0_10 : ps_fI 5 0 6 10 := fun g a b c B => ⟨_, rfl, rfl, Nat.le_of_ble_eq_true rfl, fun v => rfl⟩
theorem f_5_0_11 : ps_fI 5 0 6 11 := fun g a b c B => ⟨_, rfl, rfl, Nat.le_of_ble_eq_true rfl, fun v => rfl⟩
theorem f_5_0_12 : ps_fI 5 0 6 12 := fun g a b c B => ⟨_, rfl, rfl, Nat.le_of_ble_eq_true rfl, fun v => rfl⟩
theorem f_5_0_13 : ps_fI 5 0 6 13 := fun g a b c B => ⟨_, rfl, rfl, Nat.le_of_ble_eq_true rfl, fun v => rfl⟩
theorem ob_5_1 : ps_ob 5 1 1 := fun g a b c B => ⟨_, rfl⟩
theorem f_5_1_0 : ps_fR 5 1 1 0 (fun B => (B + 2)) := fun g a b c B => ⟨_, rfl, rfl⟩
theorem f_5_1_1 : ps_fR 5 1 1 1 (fun B => (B + 3)) := fun g a b c B => ⟨_, rfl, rfl⟩
theorem f_5_1_2 : ps_fR 5 1 1 2 (fun B => (B + 4)) := fun g a b c B => ⟨_, rfl, rfl⟩
theorem f_5_1_3 : ps_fR 5 1 1 3 (fun B => (B + 5)) := fun g a b c B => ⟨_, rfl, rfl⟩
theorem f_5_1_4 : ps_fR 5 1 1 4 (fun B => (B + 6)) := fun g a b c B => ⟨_, rfl, rfl⟩
theorem f_5_1_5 : ps_fR 5 1 1 5 (fun B => (B + 7)) := fun g a b c B => ⟨_, rfl, rfl⟩
theorem f_5_1_6 : ps_fR 5 1 1 6 (fun B => (B + 8)) := fun g a b c B => ⟨_, rfl, rfl⟩
theorem f_5_1_7 : ps_fR 5 1 1 7 (fun B => (B + 9)) := fun g a b c B => ⟨_, rfl, rfl⟩
theorem f_5_1_8 : ps_fR 5 1 1 8 (fun B => (B + 10)) := fun g a b c B => ⟨_, rfl, rfl⟩
theorem a_5_2 : ps_aI 5 2 4 0 := fun g a b c B => rfl
theorem a_5_3 : ps_aI 5 3 4 0 := fun g a b c B => rfl
theorem a_5_4 : ps_aI 5 4 4 0 := fun g a b c B => rfl
theorem a_5_5 : ps_aI 5 5 4 0 := fun g a b c B => rfl
theorem a_5_6 : ps_aD 5 6 4 := fun g a b c B => rfl
theorem a_5_7 : ps_aI 5 7 4 0 := fun g a b c B => rfl
theorem a_5_8 : ps_aI 5 8 4 0 := fun g a b c B => rfl
theorem a_5_9 : ps_aI 5 9 4 0 := fun g a b c B => rfl
theorem a_5_10 : ps_aI 5 10 4 0 := fun g a b c B => rfl
theorem a_5_11 : ps_aI 5 11 12 0 := fun g a b c B => rfl
theorem a_5_12 : ps_aI 5 12 12 0 := fun g a b c B => rfl
theorem a_5_13 : ps_aI 5 13 6 0 := fun g a b c B => rfl
theorem a_5_14 : ps_aI 5 14 6 0 := fun g a b c B => rfl
theorem a_5_15 : ps_aI 5 15 6 0 := fun g a b c B => rfl
theorem a_5_16 : ps_aI 5 16 6 0 := fun g a b c B => rfl
theorem a_5_17 : ps_aI 5 17 6 0 := fun g a b c B => rfl
theorem a_6_0 : ps_aQ 6 0 10 5 (fun i => 85 + 18 * i) := fun g a b c B => rfl
theorem a_6_1 : ps_aQ 6 1 4 6 (fun i => 265 + 2 * i) := fun g a b c B => rfl
theorem a_6_2 : ps_aQ 6 2 2 7 (fun i => 273 + 27 * i) := fun g a b c B => rfl
theorem a_6_3 : ps_aQ 6 3 2 5 (fun i => 282 + 27 * i) := fun g a b c B => rfl
theorem a_6_4 : ps_aI 6 4 2 2 := fun g a b c B => rfl
theorem ob_7_0 : ps_ob 7 0 7 := fun g a b c B => ⟨_, rfl⟩
theorem f_7_0_0 : ps_fR 7 0 7 0 (fun B => (B + 1)) := fun g a b c B => ⟨_, rfl, rfl⟩
theorem f_7_0_1 : ps_fI 7 0 7 1 := fun g a b c B => ⟨_, rfl, rfl, Nat.le_of_ble_eq_true rfl, fun v => rfl⟩
theorem f_7_0_2 : ps_fI 7 0 7 2 := fun g a b c B => ⟨_, rfl, rfl, Nat.le_of_ble_eq_true rfl, fun v => rfl⟩
theorem f_7_0_3 : ps_fI 7 0 7 3 := fun g a b c B => ⟨_, rfl, rfl, Nat.le_of_ble_eq_true rfl, fun v => rfl⟩
theorem a_7_1 : ps_aL 7 1 40 := fun g a b c B => rfl
theorem ob_8_0 : ps_ob 8 0 9 := fun g a b c B => ⟨_, rfl⟩
theorem f_8_0_0 : ps_fI 8 0 9 0 := fun g a b c B => ⟨_, rfl, rfl, Nat.le_of_ble_eq_true rfl, fun v => rfl⟩
theorem f_8_0_1 : ps_fR 8 0 9 1 (fun B => (327 + 1)) := fun g a b c B => ⟨_, rfl, rfl⟩
theorem f_8_0_2 : ps_fR 8 0 9 2 (fun B => (327 + 2)) := fun g a b c B => ⟨_, rfl, rfl⟩
theorem f_8_0_3 : ps_fR 8 0 9 3 (fun B => (327 + 3)) := fun g a b c B => ⟨_, rfl, rfl⟩
theorem f_8_0_4 : ps_fR 8 0 9 4 (fun B => (327 + 4)) := fun g a b c B => ⟨_, rfl, rfl⟩
theorem f_8_0_5 : ps_fR 8 0 9 5 (fun B => (327 + 5)) := fun g a b c B => ⟨_, rfl, rfl⟩
theorem f_8_0_6 : ps_fI 8 0 9 6 := fun g a b c B => ⟨_, rfl, rfl, Nat.le_of_ble_eq_true rfl, fun v => rfl⟩
theorem f_8_0_7 : ps_fI 8 0 9 7 := fun g a b c B => ⟨_, rfl, rfl, Nat.le_of_ble_eq_true rfl, fun v => rfl⟩
theorem f_8_0_8 : ps_fI 8 0 9 8 := fun g a b c B => ⟨_, rfl, rfl, Nat.le_of_ble_eq_true rfl, fun v => rfl⟩
theorem f_8_0_9 : ps_fI 8 0 9 9 := fun g a b c B => ⟨_, rfl, rfl, Nat.le_of_ble_eq_true rfl, fun v => rfl⟩
theorem f_8_0_10 : ps_fI 8 0 9 10 := fun g a b c B => ⟨_, rfl, rfl, Nat.le_of_ble_eq_true rfl, fun v => rfl⟩
theorem f_8_0_11 : ps_fI 8 0 9 11 := fun g a b c B => ⟨_, rfl, rfl, Nat.le_of_ble_eq_true rfl, fun v => rfl⟩
theorem f_8_0_12 : ps_fI 8 0 9 12 := fun g a b c B => ⟨_, rfl, rfl, Nat.le_of_ble_eq_true rfl, fun v => rfl⟩
theorem f_8_0_13 : ps_fI 8 0 9 13 := fun g a b c B => ⟨_, rfl, rfl, Nat.le_of_ble_eq_true rfl, fun v => rfl⟩
theorem f_8_0_14 : ps_fI 8 0 9 14 := fun g a b c B => ⟨_, rfl, rfl, Nat.le_of_ble_eq_true rfl, fun v => rfl⟩
theorem f_8_0_15 : ps_fI 8 0 9 15 := fun g a b c B => ⟨_, rfl, rfl, Nat.le_of_ble_eq_true rfl, fun v => rfl⟩
theorem f_8_0_16 : ps_fI 8 0 9 16 := fun g a b c B => ⟨_, rfl, rfl, Nat.le_of_ble_eq_true rfl, fun v => rfl⟩
theorem f_8_0_17 : ps_fR 8 0 9 17 (fun B => (327 + 6)) := fun g a b c B => ⟨_, rfl, rfl⟩
theorem f_8_0_18 : ps_fR 8 0 9 18 (fun B => (327 + 7)) := fun g a b c B => ⟨_, rfl, rfl⟩
theorem f_8_0_19 : ps_fR 8 0 9 19 (fun B => (327 + 8)) := fun g a b c B => ⟨_, rfl, rfl⟩
theorem f_8_0_20 : ps_fR 8 0 9 20 (fun B => (327 + 9)) := fun g a b c B => ⟨_, rfl, rfl⟩
theorem f_8_0_21 : ps_fI 8 0 9 21 := fun g a b c B => ⟨_, rfl, rfl, Nat.le_of_ble_eq_true rfl, fun v => rfl⟩
theorem f_8_0_22 : ps_fI 8 0 9 22 := fun g a b c B => ⟨_, rfl, rfl, Nat.le_of_ble_eq_true rfl, fun v => rfl⟩
theorem f_8_0_23 : ps_fI 8 0 9 23 := fun g a b c B => ⟨_, rfl, rfl, Nat.le_of_ble_eq_true rfl, fun v => rfl⟩
theorem f_8_0_24 : ps_fI 8 0 9 24 := fun g a b c B => ⟨_, rfl, rfl, Nat.le_of_ble_eq_true rfl, fun v => rfl⟩
theorem f_8_0_25 : ps_fI 8 0 9 25 := fun g a b c B => ⟨_, rfl, rfl, Nat.le_of_ble_eq_true rfl, fun v => rfl⟩
theorem f_8_0_26 : ps_fR 8 0 9 26 (fun B => (327 + 10)) := fun g a b c B => ⟨_, rfl, rfl⟩
theorem f_8_0_27 : ps_fR 8 0 9 27 (fun B => (327 + 11)) := fun g a b c B => ⟨_, rfl, rfl⟩
theorem f_8_0_28 : ps_fI 8 0 9 28 := fun g a b c B => ⟨_, rfl, rfl, Nat.le_of_ble_eq_true rfl, fun v => rfl⟩
theorem f_8_0_29 : ps_fI 8 0 9 29 := fun g a b c B => ⟨_, rfl, rfl, Nat.le_of_ble_eq_true rfl, fun v => rfl⟩
theorem f_8_0_30 : ps_fR 8 0 9 30 (fun B => (327 + 12)) := fun g a b c B => ⟨_, rfl, rfl⟩
theorem f_8_0_31 : ps_fR 8 0 9 31 (fun B => (327 + 13)) := fun g a b c B => ⟨_, rfl, rfl⟩
theorem f_8_0_32 : ps_fR 8 0 9 32 (fun B => (327 + 14)) := fun g a b c B => ⟨_, rfl, rfl⟩
theorem f_8_0_33 : ps_fL 8 0 9 33 := fun g a b c B => ⟨_, rfl, rfl, Nat.le_of_ble_eq_true rfl, fun v => rfl⟩
theorem f_8_0_34 : ps_fL 8 0 9 34 := fun g a b c B => ⟨_, rfl, rfl, Nat.le_of_ble_eq_true rfl, fun v => rfl⟩
theorem f_8_0_35 : ps_fR 8 0 9 35 (fun B => (327 + 15)) := fun g a b c B => ⟨_, rfl, rfl⟩
theorem f_8_0_36 : ps_fR 8 0 9 36 (fun B => (327 + 16)) := fun g a b c B => ⟨_, rfl, rfl⟩
theorem f_8_0_37 : ps_fR 8 0 9 37 (fun B => (327 + 17)) := fun g a b c B => ⟨_, rfl, rfl⟩
theorem a_8_1 : ps_aI 8 1 5550 0 := fun g a b c B => rfl
theorem a_8_2 : ps_aD 8 2 132 := fun g a b c B => rfl
theorem a_8_3 : ps_aI 8 3 2 2 := fun g a b c B => rfl
theorem a_8_4 : ps_aI 8 4 900 0 := fun g a b c B => rfl
theorem a_8_5 : ps_aI 8 5 1850 0 := fun g a b c B => rfl
theorem a_8_6 : ps_aI 8 6 900 0 := fun g a b c B => rfl
theorem a_8_7 : ps_aI 8 7 4 0 := fun g a b c B => rfl
theorem a_8_8 : ps_aI 8 8 83 0 := fun g a b c B => rfl
theorem a_8_9 : ps_aD 8 9 4 := fun g a b c B => rfl
theorem a_8_10 : ps_aI 8 10 83 0 := fun g a b c B => rfl
theorem a_8_11 : ps_aD 8 11 4 := fun g a b c B => rfl
theorem a_8_12 : ps_aI 8 12 6 0 := fun g a b c B => rfl
theorem a_8_13 : ps_aI 8 13 249 0 := fun g a b c B => rfl
theorem a_8_14 : ps_aD 8 14 12 := fun g a b c B => rfl
theorem a_8_15 : ps_aI 8 15 4 0 := fun g a b c B => rfl
theorem a_8_16 : ps_aI 8 16 4 0 := fun g a b c B => rfl
theorem a_8_17 : ps_aL 8 17 160 := fun g a b c B => rfl
section PSR
variable {g : pm_G} {M : pm_M} {F : pm_F} {cn sn pc pc' : Nat} {ls : List (Option Value)} {st : List Value} {σ : ps_S} {k kd B off : Nat}
theorem ps_getI {ci j : Nat} {x : Int32} (hd : pm_GF M pc ci j pc') (ha : ps_at k kd B off) (hf : ps_fI kd off ci j) (hv : σ.1 k j = x) (K : pm_W g M F cn sn pc' ls (.int x :: st) 345 (ps_E g σ)) : pm_W g M F cn sn pc ls (.ref (g.2.2.1 + k) :: st) 345 (ps_E g σ) := by
  obtain ⟨fs, h1, h2, -⟩ := hf g (σ.1 k) (σ.2.1 k) (σ.2.2 k) B
  exact pm_get k hd ha.2.2 ((ha.E g σ).trans h1) (by rw [h2, hv]) K
theorem ps_getL {ci j : Nat} {x : Int64} (hd : pm_GF M pc ci j pc') (ha : ps_at k kd B off) (hf : ps_fL kd off ci j) (hv : σ.2.1 k j = x) (K : pm_W g M F cn sn pc' ls (.long x :: st) 345 (ps_E g σ)) : pm_W g M F cn sn pc ls (.ref (g.2.2.1 + k) :: st) 345 (ps_E g σ) := by
  obtain ⟨fs, h1, h2, -⟩ := hf g (σ.1 k) (σ.2.1 k) (σ.2.2 k) B
  exact pm_get k hd ha.2.2 ((ha.E g σ).trans h1) (by rw [h2, hv]) K
theorem ps_getR {ci j : Nat} {r : Nat → Nat} {q : Nat} (hd : pm_GF M pc ci j pc') (ha : ps_at k kd B off) (hf : ps_fR kd off ci j r) (hq : r B = q) (K : pm_W g M F cn sn pc' ls (.ref (g.2.2.1 + q) :: st) 345 (ps_E g σ)) : pm_W g M F cn sn pc ls (.ref (g.2.2.1 + k) :: st) 345 (ps_E g σ) := by
  subst hq
  obtain ⟨fs, h1, h2⟩ := hf g (σ.1 k) (σ.2.1 k) (σ.2.2 k) B
  exact pm_get k hd ha.2.2 ((ha.E g σ).trans h1) h2 K
theorem ps_putI {ci j : Nat} {ty : FieldType} {v : Int32} (hd : pm_PF M pc ci j ty pc') (ha : ps_at k kd B off) (hf : ps_fI kd off ci j) (hn : narrow ty (.int v) = .int v) (ht : fits ty (.int v) = true) (K : pm_W g M F cn sn pc' ls st 345 (ps_E g (ps_rI σ k (upd (σ.1 k) j v)))) : pm_W g M F cn sn pc ls (.int v :: .ref (g.2.2.1 + k) :: st) 345 (ps_E g σ) := by
  obtain ⟨fs, h1, h2, h3, h4⟩ := hf g (σ.1 k) (σ.2.1 k) (σ.2.2 k) B
  refine pm_put k hd ha.2.2 ((ha.E g σ).trans h1) h3 hn ht ?_
  rw [ps_upI ha (h4 v)]
  exact K
theorem ps_putL {ci j : Nat} {v : Int64} (hd : pm_PF M pc ci j .long pc') (ha : ps_at k kd B off) (hf : ps_fL kd off ci j) (K : pm_W g M F cn sn pc' ls st 345 (ps_E g (ps_rL σ k (vp_updL (σ.2.1 k) j v)))) : pm_W g M F cn sn pc ls (.long v :: .ref (g.2.2.1 + k) :: st) 345 (ps_E g σ) := by
  obtain ⟨fs, h1, h2, h3, h4⟩ := hf g (σ.1 k) (σ.2.1 k) (σ.2.2 k) B
  refine pm_put k hd ha.2.2 ((ha.E g σ).trans h1) h3 rfl rfl ?_
  rw [ps_upL ha (h4 v)]
  exact K
theorem ps_iald {n : Nat} {i : Int32} {x : Int32} (hd : pm_D M.2.2.1 pc .iaload 1 pc') (ha : ps_at k kd B off) (hf : ps_aI kd off n 0) (hin : vp_in i n) (hv : σ.1 k i.toNatClampNeg = x) (K : pm_W g M F cn sn pc' ls (.int x :: st) 345 (ps_E g σ)) : pm_W g M F cn sn pc ls (.int i :: .ref (g.2.2.1 + k) :: st) 345 (ps_E g σ) := by
  subst hv
  exact pm_iald k hd ha.2.2 ((ha.E g σ).trans (hf g _ _ _ B)) hin K
theorem ps_bald {n : Nat} {i : Int32} {x : Int32} (hd : pm_D M.2.2.1 pc .baload 1 pc') (ha : ps_at k kd B off) (hf : ps_aI kd off n 1) (hin : vp_in i n) (hv : σ.1 k i.toNatClampNeg = x) (K : pm_W g M F cn sn pc' ls (.int x :: st) 345 (ps_E g σ)) : pm_W g M F cn sn pc ls (.int i :: .ref (g.2.2.1 + k) :: st) 345 (ps_E g σ) := by
  subst hv
  exact pm_bald k hd ha.2.2 ((ha.E g σ).trans (hf g _ _ _ B)) hin K
theorem ps_zald {n : Nat} {i : Int32} {x : Int32} (hd : pm_D M.2.2.1 pc .baload 1 pc') (ha : ps_at k kd B off) (hf : ps_aI kd off n 2) (hin : vp_in i n) (hv : σ.1 k i.toNatClampNeg = x) (K : pm_W g M F cn sn pc' ls (.int x :: st) 345 (ps_E g σ)) : pm_W g M F cn sn pc ls (.int i :: .ref (g.2.2.1 + k) :: st) 345 (ps_E g σ) := by
  subst hv
  exact pm_zald k hd ha.2.2 ((ha.E g σ).trans (hf g _ _ _ B)) hin K
theorem ps_lald {n : Nat} {i : Int32} {x : Int64} (hd : pm_D M.2.2.1 pc .laload 1 pc') (ha : ps_at k kd B off) (hf : ps_aL kd off n) (hin : vp_in i n) (hv : σ.2.1 k i.toNatClampNeg = x) (K : pm_W g M F cn sn pc' ls (.long x :: st) 345 (ps_E g σ)) : pm_W g M F cn sn pc ls (.int i :: .ref (g.2.2.1 + k) :: st) 345 (ps_E g σ) := by
  subst hv
  exact pm_lald k hd ha.2.2 ((ha.E g σ).trans (hf g _ _ _ B)) hin K
theorem ps_dald {n : Nat} {i : Int32} {x : UInt64} (hd : pm_D M.2.2.1 pc .daload 1 pc') (ha : ps_at k kd B off) (hf : ps_aD kd off n) (hin : vp_in i n) (hv : σ.2.2 k i.toNatClampNeg = x) (K : pm_W g M F cn sn pc' ls (.double x :: st) 345 (ps_E g σ)) : pm_W g M F cn sn pc ls (.int i :: .ref (g.2.2.1 + k) :: st) 345 (ps_E g σ) := by
  subst hv
  exact pm_dald k hd ha.2.2 ((ha.E g σ).trans (hf g _ _ _ B)) hin K
theorem ps_iast {n : Nat} {i : Int32} {v : Int32} (hd : pm_D M.2.2.1 pc .iastore 1 pc') (ha : ps_at k kd B off) (hf : ps_aI kd off n 0) (hin : vp_in i n) (K : pm_W g M F cn sn pc' ls st 345 (ps_E g (ps_rI σ k (upd (σ.1 k) i.toNatClampNeg v)))) : pm_W g M F cn sn pc ls (.int v :: .int i :: .ref (g.2.2.1 + k) :: st) 345 (ps_E g σ) := by
  refine pm_iast k hd ha.2.2 ((ha.E g σ).trans (hf g _ _ _ B)) hin ?_
  rw [ps_upI ha (hf g _ _ _ B)]
  exact K
theorem ps_bast {n : Nat} {i : Int32} {v : Int32} (hd : pm_D M.2.2.1 pc .bastore 1 pc') (ha : ps_at k kd B off) (hf : ps_aI kd off n 1) (hin : vp_in i n) (K : pm_W g M F cn sn pc' ls st 345 (ps_E g (ps_rI σ k (upd (σ.1 k) i.toNatClampNeg (vp_nar .byte v))))) : pm_W g M F cn sn pc ls (.int v :: .int i :: .ref (g.2.2.1 + k) :: st) 345 (ps_E g σ) := by
  refine pm_bast k hd ha.2.2 ((ha.E g σ).trans (hf g _ _ _ B)) hin ?_
  rw [ps_upI ha (hf g _ _ _ B)]
  exact K
theorem ps_zast {n : Nat} {i : Int32} {v : Int32} (hd : pm_D M.2.2.1 pc .bastore 1 pc') (ha : ps_at k kd B off) (hf : ps_aI kd off n 2) (hin : vp_in i n) (K : pm_W g M F cn sn pc' ls st 345 (ps_E g (ps_rI σ k (upd (σ.1 k) i.toNatClampNeg (vp_nar .boolean v))))) : pm_W g M F cn sn pc ls (.int v :: .int i :: .ref (g.2.2.1 + k) :: st) 345 (ps_E g σ) := by
  refine pm_zast k hd ha.2.2 ((ha.E g σ).trans (hf g _ _ _ B)) hin ?_
  rw [ps_upI ha (hf g _ _ _ B)]
  exact K
theorem ps_last {n : Nat} {i : Int32} {v : Int64} (hd : pm_D M.2.2.1 pc .lastore 1 pc') (ha : ps_at k kd B off) (hf : ps_aL kd off n) (hin : vp_in i n) (K : pm_W g M F cn sn pc' ls st 345 (ps_E g (ps_rL σ k (vp_updL (σ.2.1 k) i.toNatClampNeg v)))) : pm_W g M F cn sn pc ls (.long v :: .int i :: .ref (g.2.2.1 + k) :: st) 345 (ps_E g σ) := by
  refine pm_last k hd ha.2.2 ((ha.E g σ).trans (hf g _ _ _ B)) hin ?_
  rw [ps_upL ha (hf g _ _ _ B)]
  exact K
theorem ps_dast {n : Nat} {i : Int32} {v : UInt64} (hd : pm_D M.2.2.1 pc .dastore 1 pc') (ha : ps_at k kd B off) (hf : ps_aD kd off n) (hin : vp_in i n) (K : pm_W g M F cn sn pc' ls st 345 (ps_E g (ps_rD σ k (vf_upd (σ.2.2 k) i.toNatClampNeg v)))) : pm_W g M F cn sn pc ls (.double v :: .int i :: .ref (g.2.2.1 + k) :: st) 345 (ps_E g σ) := by
  refine pm_dast k hd ha.2.2 ((ha.E g σ).trans (hf g _ _ _ B)) hin ?_
  rw [ps_upD ha (hf g _ _ _ B)]
  exact K
theorem ps_qald5 {n : Nat} {r : Nat → Nat} {i : Int32} {q : Nat} (hd : pm_D M.2.2.1 pc .aaload 1 pc') (ha : ps_at k kd B off) (hf : ps_aQ kd off n 5 r) (hin : vp_in i n) (hq : r i.toNatClampNeg = q) (K : pm_W g M F cn sn pc' ls (.ref (g.2.2.1 + q) :: st) 345 (ps_E g σ)) : pm_W g M F cn sn pc ls (.int i :: .ref (g.2.2.1 + k) :: st) 345 (ps_E g σ) := by
  subst hq
  have hlt : i.toNatClampNeg < n := Nat.not_le.mp fun z => hin (Or.inr z)
  refine pm_qald5 k hd ha.2.2 ((ha.E g σ).trans (hf g _ _ _ B)) hin ?_
  rw [if_pos hlt]
  exact K
theorem ps_qald6 {n : Nat} {r : Nat → Nat} {i : Int32} {q : Nat} (hd : pm_D M.2.2.1 pc .aaload 1 pc') (ha : ps_at k kd B off) (hf : ps_aQ kd off n 6 r) (hin : vp_in i n) (hq : r i.toNatClampNeg = q) (K : pm_W g M F cn sn pc' ls (.ref (g.2.2.1 + q) :: st) 345 (ps_E g σ)) : pm_W g M F cn sn pc ls (.int i :: .ref (g.2.2.1 + k) :: st) 345 (ps_E g σ) := by
  subst hq
  have hlt : i.toNatClampNeg < n := Nat.not_le.mp fun z => hin (Or.inr z)
  refine pm_qald6 k hd ha.2.2 ((ha.E g σ).trans (hf g _ _ _ B)) hin ?_
  rw [if_pos hlt]
  exact K
theorem ps_qald7 {n : Nat} {r : Nat → Nat} {i : Int32} {q : Nat} (hd : pm_D M.2.2.1 pc .aaload 1 pc') (ha : ps_at k kd B off) (hf : ps_aQ kd off n 7 r) (hin : vp_in i n) (hq : r i.toNatClampNeg = q) (K : pm_W g M F cn sn pc' ls (.ref (g.2.2.1 + q) :: st) 345 (ps_E g σ)) : pm_W g M F cn sn pc ls (.int i :: .ref (g.2.2.1 + k) :: st) 345 (ps_E g σ) := by
  subst hq
  have hlt : i.toNatClampNeg < n := Nat.not_le.mp fun z => hin (Or.inr z)
  refine pm_qald7 k hd ha.2.2 ((ha.E g σ).trans (hf g _ _ _ B)) hin ?_
  rw [if_pos hlt]
  exact K
theorem ps_alenI {n t : Nat} {v : Int32} (hd : pm_D M.2.2.1 pc .arraylength 1 pc') (ha : ps_at k kd B off) (hf : ps_aI kd off n t) (ht : t < 3) (hv : Int32.ofNat n = v) (K : pm_W g M F cn sn pc' ls (.int v :: st) 345 (ps_E g σ)) : pm_W g M F cn sn pc ls (.ref (g.2.2.1 + k) :: st) 345 (ps_E g σ) := by
  have h3 : ∃ ty, (pm_tys g)[t]? = some (g.2.1 t, ty) := by
    rcases (show t = 0 ∨ t = 1 ∨ t = 2 by omega) with rfl | rfl | rfl
    · exact ⟨_, rfl⟩
    · exact ⟨_, rfl⟩
    · exact ⟨_, rfl⟩
  obtain ⟨ty, h3⟩ := h3
  exact pm_alen k t hd ha.2.2 ((ha.E g σ).trans (hf g _ _ _ B)) h3 hv K
theorem ps_alenL {n : Nat} {v : Int32} (hd : pm_D M.2.2.1 pc .arraylength 1 pc') (ha : ps_at k kd B off) (hf : ps_aL kd off n) (hv : Int32.ofNat n = v) (K : pm_W g M F cn sn pc' ls (.int v :: st) 345 (ps_E g σ)) : pm_W g M F cn sn pc ls (.ref (g.2.2.1 + k) :: st) 345 (ps_E g σ) := pm_alen k 3 (ty := .long) hd ha.2.2 ((ha.E g σ).trans (hf g _ _ _ B)) rfl hv K
theorem ps_copyi {k2 kd2 B2 off2 n0 n1 : Nat} {sp dp n : Int32} (hd : pm_AC M pc pc') (ha : ps_at k kd B off) (ha2 : ps_at k2 kd2 B2 off2) (hf : ps_aI kd off n0 0) (hf2 : ps_aI kd2 off2 n1 0) (h1 : ¬ sp < 0) (h2 : ¬ dp < 0) (h3 : ¬ n < 0) (h4 : sp.toNatClampNeg + n.toNatClampNeg ≤ n0) (h5 : dp.toNatClampNeg + n.toNatClampNeg ≤ n1) (hR : 1 ≤ F.1.frames ∧ 26 ≤ F.1.locals) (hs : (st.map fun v => v.category).sum ≤ 8) (K : pm_W g M F cn sn pc' ls st 345 (ps_E g (ps_rI σ k2 (va_cpy (σ.1 k) (σ.1 k2) sp.toNatClampNeg dp.toNatClampNeg n.toNatClampNeg)))) : pm_W g M F cn sn pc ls (.int n :: .int dp :: .ref (g.2.2.1 + k2) :: .int sp :: .ref (g.2.2.1 + k) :: st) 345 (ps_E g σ) := by
  refine pm_copyi k k2 hd ha.2.2 ha2.2.2 ((ha.E g σ).trans (hf g _ _ _ B)) ((ha2.E g σ).trans (hf2 g _ _ _ B2)) h1 h2 h3 h4 h5 hR hs ?_
  rw [ps_upI ha2 (hf2 g _ _ _ B2)]
  exact K
theorem ps_copyd {k2 kd2 B2 off2 n0 n1 : Nat} {sp dp n : Int32} (hd : pm_AC M pc pc') (ha : ps_at k kd B off) (ha2 : ps_at k2 kd2 B2 off2) (hf : ps_aD kd off n0) (hf2 : ps_aD kd2 off2 n1) (h1 : ¬ sp < 0) (h2 : ¬ dp < 0) (h3 : ¬ n < 0) (h4 : sp.toNatClampNeg + n.toNatClampNeg ≤ n0) (h5 : dp.toNatClampNeg + n.toNatClampNeg ≤ n1) (hR : 1 ≤ F.1.frames ∧ 26 ≤ F.1.locals) (hs : (st.map fun v => v.category).sum ≤ 8) (K : pm_W g M F cn sn pc' ls st 345 (ps_E g (ps_rD σ k2 (va_cpy (σ.2.2 k) (σ.2.2 k2) sp.toNatClampNeg dp.toNatClampNeg n.toNatClampNeg)))) : pm_W g M F cn sn pc ls (.int n :: .int dp :: .ref (g.2.2.1 + k2) :: .int sp :: .ref (g.2.2.1 + k) :: st) 345 (ps_E g σ) := by
  refine pm_copyd k k2 hd ha.2.2 ha2.2.2 ((ha.E g σ).trans (hf g _ _ _ B)) ((ha2.E g σ).trans (hf2 g _ _ _ B2)) h1 h2 h3 h4 h5 hR hs ?_
  rw [ps_upD ha2 (hf2 g _ _ _ B2)]
  exact K
/-- a contract over the fixed shape: nothing is made -/
def ps_C (g : pm_G) (M : pm_M) (d : Nat) (av : List Value) (σ : ps_S) (Q : Option Value → ps_S → Prop) : Prop := pm_C g M d 0 0 av 345 (ps_E g σ) (fun r E => ∃ σ' : ps_S, E = ps_E g σ' ∧ Q r σ')
def ps_F (g : pm_G) (d : Nat) (Q : Option Value → ps_S → Prop) : pm_F := pm_Fm g d 0 0 345 (fun r E => ∃ σ' : ps_S, E = ps_E g σ' ∧ Q r σ')
theorem ps_C.of {d : Nat} {av : List Value} {Q : Option Value → ps_S → Prop} (kk : Nat) (hy : plainName M.2.1.cls = true) (ho : M.1 = M.2.1.cls) (hn : (lg_sl av).length ≤ M.2.2.2.1) (hl : pm_fl av ++ List.replicate kk none = ls) (k : pm_W g M (ps_F g d Q) 0 0 0 ls [] 345 (ps_E g σ)) : ps_C g M d av σ Q := pm_C.of kk hy ho hn hl k
theorem ps_C.mono {d : Nat} {av : List Value} {Q Q' : Option Value → ps_S → Prop} (h : ps_C g M d av σ Q) (hQ : ∀ r σ', Q r σ' → Q' r σ') : ps_C g M d av σ Q' := pm_C.mono h (fun r E ⟨σ', h1, h2⟩ => ⟨σ', h1, hQ r σ' h2⟩)
theorem ps_iret {d : Nat} {Q : Option Value → ps_S → Prop} {v : Int32} (hr : M.2.2.2.2 = some .int) (hd : pm_D M.2.2.1 pc .ireturn 1 pc') (hQ : Q (some (.int v)) σ) : pm_W g M (ps_F g d Q) 0 0 pc ls [.int v] 345 (ps_E g σ) := pm_iret hr hd rfl (Nat.le_refl _) ⟨σ, rfl, hQ⟩
theorem ps_lret {d : Nat} {Q : Option Value → ps_S → Prop} {v : Int64} (hr : M.2.2.2.2 = some .long) (hd : pm_D M.2.2.1 pc .lreturn 1 pc') (hQ : Q (some (.long v)) σ) : pm_W g M (ps_F g d Q) 0 0 pc ls [.long v] 345 (ps_E g σ) := pm_lret hr hd rfl (Nat.le_refl _) ⟨σ, rfl, hQ⟩
theorem ps_dret {d : Nat} {Q : Option Value → ps_S → Prop} {v : UInt64} (hr : M.2.2.2.2 = some .double) (hd : pm_D M.2.2.1 pc .dreturn 1 pc') (hQ : Q (some (.double v)) σ) : pm_W g M (ps_F g d Q) 0 0 pc ls [.double v] 345 (ps_E g σ) := pm_dret hr hd rfl (Nat.le_refl _) ⟨σ, rfl, hQ⟩
theorem ps_zret {d : Nat} {Q : Option Value → ps_S → Prop} {v : Int32} {ty : FieldType} (hr : M.2.2.2.2 = some ty) (hn : narrow ty (.int v) = .int v) (hd : pm_D M.2.2.1 pc .ireturn 1 pc') (hQ : Q (some (.int v)) σ) : pm_W g M (ps_F g d Q) 0 0 pc ls [.int v] 345 (ps_E g σ) := pm_zret hr hn hd rfl (Nat.le_refl _) ⟨σ, rfl, hQ⟩
theorem ps_vret {d : Nat} {Q : Option Value → ps_S → Prop} (hr : M.2.2.2.2 = none) (hd : pm_D M.2.2.1 pc .return_ 1 pc') (hQ : Q none σ) : pm_W g M (ps_F g d Q) 0 0 pc ls [] 345 (ps_E g σ) := pm_vret hr hd rfl (Nat.le_refl _) ⟨σ, rfl, hQ⟩
/-- room for a call: d' within d -/
def ps_room (F : pm_F) (cn sn d' nL : Nat) : Prop := d' + 1 ≤ F.1.frames ∧ 8 + (nL + 11) + 48 * d' ≤ F.1.locals ∧ cn ≤ F.1.cells ∧ sn ≤ F.1.slots
theorem ps_room.of {d d' nL : Nat} {Q : Option Value → ps_S → Prop} (h : d' < d) (hn : nL ≤ 29) : ps_room (ps_F g d Q) 0 0 d' nL := ⟨h, by show _ ≤ 48 * d; omega, Nat.le_refl 0, Nat.le_refl 0⟩
theorem ps_callV {M' : pm_M} {d' n ci nn : Nat} {As st0 : List Value} {T : u_T} {Q' : Option Value → ps_S → Prop} (hd : pm_CV M pc M' pc') (hm : pm_MV M' n) (ha : ps_at k kd B off) (hb : ps_ob kd off ci) (hc : vwCl[ci]? = some (M'.2.1.cls, T, nn)) (hn : As.length = n) (hst : st0 = As.reverse ++ .ref (g.2.2.1 + k) :: st) (hR : ps_room F cn sn d' M'.2.2.2.1) (hs : (st.map fun v => v.category).sum ≤ 8) (hcon : ps_C g M' d' (.ref (g.2.2.1 + k) :: As) σ Q')
    (K : ∀ (r : Option Value) (σ' : ps_S), Q' r σ' → pm_W g M F cn sn pc' ls (r.toList ++ st) 345 (ps_E g σ')) : pm_W g M F cn sn pc ls st0 345 (ps_E g σ) := by
  obtain ⟨fs, h1⟩ := hb g (σ.1 k) (σ.2.1 k) (σ.2.2 k) B
  exact pm_callV hd hm hn hst ha.2.2 ((ha.E g σ).trans h1) hc ⟨hR.1, hR.2.1⟩ ⟨hR.2.2.1, hR.2.2.2⟩ hs hcon (fun r E1 ⟨σ', e1, e2⟩ => by subst e1; exact K r σ' e2)
theorem ps_callS {M' : pm_M} {d' n : Nat} {As st0 : List Value} {Q' : Option Value → ps_S → Prop} (hd : pm_CS M pc M' pc') (hm : pm_MS M' n) (hn : As.length = n) (hst : st0 = As.reverse ++ st) (hR : ps_room F cn sn d' M'.2.2.2.1) (hs : (st.map fun v => v.category).sum ≤ 8) (hcon : ps_C g M' d' As σ Q')
    (K : ∀ (r : Option Value) (σ' : ps_S), Q' r σ' → pm_W g M F cn sn pc' ls (r.toList ++ st) 345 (ps_E g σ')) : pm_W g M F cn sn pc ls st0 345 (ps_E g σ) :=
  pm_callS hd hm hn hst ⟨hR.1, hR.2.1⟩ ⟨hR.2.2.1, hR.2.2.2⟩ hs hcon (fun r E1 ⟨σ', e1, e2⟩ => by subst e1; exact K r σ' e2)
theorem ps_callT {M' : pm_M} {d' n i : Nat} {As st0 : List Value} {Q' : Option Value → ps_S → Prop} (hi : i < 26) (hd : pm_CV M pc M' pc') (hm : pm_MV M' n) (hcl : M'.2.1.cls = "java/lang/String") (hn : As.length = n) (hst : st0 = As.reverse ++ .ref (g.2.2.2.1 i) :: st) (hR : ps_room F cn sn d' M'.2.2.2.1) (hs : (st.map fun v => v.category).sum ≤ 8) (hcon : ps_C g M' d' (.ref (g.2.2.2.1 i) :: As) σ Q')
    (K : ∀ (r : Option Value) (σ' : ps_S), Q' r σ' → pm_W g M F cn sn pc' ls (r.toList ++ st) 345 (ps_E g σ')) : pm_W g M F cn sn pc ls st0 345 (ps_E g σ) :=
  pm_callT hi hd hm hcl hn hst ⟨hR.1, hR.2.1⟩ ⟨hR.2.2.1, hR.2.2.2⟩ hs hcon (fun r E1 ⟨σ', e1, e2⟩ => by subst e1; exact K r σ' e2)
theorem ps_topI {x : Int32} (K : ∀ y : Int32, y = x → pm_W g M F cn sn pc ls (.int y :: st) 345 (ps_E g σ)) : pm_W g M F cn sn pc ls (.int x :: st) 345 (ps_E g σ) := K x rfl
theorem ps_topL {x : Int64} (K : ∀ y : Int64, y = x → pm_W g M F cn sn pc ls (.long y :: st) 345 (ps_E g σ)) : pm_W g M F cn sn pc ls (.long x :: st) 345 (ps_E g σ) := K x rfl
theorem ps_topD {x : UInt64} (K : ∀ y : UInt64, y = x → pm_W g M F cn sn pc ls (.double y :: st) 345 (ps_E g σ)) : pm_W g M F cn sn pc ls (.double x :: st) 345 (ps_E g σ) := K x rfl
theorem ps_nmS (K : ∀ τ : ps_S, τ = σ → pm_W g M F cn sn pc ls st 345 (ps_E g τ)) : pm_W g M F cn sn pc ls st 345 (ps_E g σ) := K σ rfl
theorem ps_nmLI {ls' : List (Option Value)} (h : ls = ls') (K : pm_W g M F cn sn pc ls' st 345 (ps_E g σ)) : pm_W g M F cn sn pc ls st 345 (ps_E g σ) := h ▸ K
end PSR
/-- a State, a Host, a Tray begins at B -/
def ps_St (B : Nat) : Prop := ∀ off, off < 18 → ps_kind (B + off) = (5, B) ∧ B + off < 345
def ps_Ho (B : Nat) : Prop := ∀ off, off < 9 → ps_kind (B + off) = (2, B) ∧ B + off < 345
def ps_Tr (B : Nat) : Prop := ∀ off, off < 2 → ps_kind (B + off) = (7, B) ∧ B + off < 345
theorem ps_St.at {B : Nat} (h : ps_St B) (off : Nat) (ho : off < 18) : ps_at (B + off) 5 B off := ⟨(h off ho).1, rfl, (h off ho).2⟩
theorem ps_Ho.at {B : Nat} (h : ps_Ho B) (off : Nat) (ho : off < 9) : ps_at (B + off) 2 B off := ⟨(h off ho).1, rfl, (h off ho).2⟩
theorem ps_Tr.at {B : Nat} (h : ps_Tr B) (off : Nat) (ho : off < 2) : ps_at (B + off) 7 B off := ⟨(h off ho).1, rfl, (h off ho).2⟩
theorem ps_St26 : ps_St 26 := by unfold ps_St; decide +kernel
theorem ps_St44 : ps_St 44 := by unfold ps_St; decide +kernel
theorem ps_St62 : ps_St 62 := by unfold ps_St; decide +kernel
theorem ps_Ho2 : ps_Ho 2 := by unfold ps_Ho; decide +kernel
theorem ps_Ho12 : ps_Ho 12 := by unfold ps_Ho; decide +kernel
theorem ps_Stp : ∀ i, i < 10 → ps_St (85 + 18 * i) := by unfold ps_St; decide +kernel
theorem ps_Sti : ∀ i, i < 2 → ps_St (282 + 27 * i) := by unfold ps_St; decide +kernel
theorem ps_Hoi : ∀ i, i < 2 → ps_Ho (273 + 27 * i) := by unfold ps_Ho; decide +kernel
theorem ps_Trt : ∀ i, i < 4 → ps_Tr (265 + 2 * i) := by unfold ps_Tr; decide +kernel
theorem at_0 : ps_at 0 0 0 0 := ⟨rfl, rfl, by decide⟩
theorem at_1 : ps_at 1 1 1 0 := ⟨rfl, rfl, by decide⟩
theorem at_11 : ps_at 11 3 11 0 := ⟨rfl, rfl, by decide⟩
theorem at_21 : ps_at 21 4 21 0 := ⟨rfl, rfl, by decide⟩
theorem at_22 : ps_at 22 4 21 1 := ⟨rfl, rfl, by decide⟩
theorem at_23 : ps_at 23 4 21 2 := ⟨rfl, rfl, by decide⟩
theorem at_24 : ps_at 24 4 21 3 := ⟨rfl, rfl, by decide⟩
theorem at_25 : ps_at 25 4 21 4 := ⟨rfl, rfl, by decide⟩
theorem at_80 : ps_at 80 6 80 0 := ⟨rfl, rfl, by decide⟩
theorem at_81 : ps_at 81 6 80 1 := ⟨rfl, rfl, by decide⟩
theorem at_82 : ps_at 82 6 80 2 := ⟨rfl, rfl, by decide⟩
theorem at_83 : ps_at 83 6 80 3 := ⟨rfl, rfl, by decide⟩
theorem at_84 : ps_at 84 6 80 4 := ⟨rfl, rfl, by decide⟩
theorem at_327 : ps_at 327 8 327 0 := ⟨rfl, rfl, by decide⟩
theorem at_328 : ps_at 328 8 327 1 := ⟨rfl, rfl, by decide⟩
theorem at_329 : ps_at 329 8 327 2 := ⟨rfl, rfl, by decide⟩
theorem at_330 : ps_at 330 8 327 3 := ⟨rfl, rfl, by decide⟩
theorem at_331 : ps_at 331 8 327 4 := ⟨rfl, rfl, by decide⟩
theorem at_332 : ps_at 332 8 327 5 := ⟨rfl, rfl, by decide⟩
theorem at_333 : ps_at 333 8 327 6 := ⟨rfl, rfl, by decide⟩
theorem at_334 : ps_at 334 8 327 7 := ⟨rfl, rfl, by decide⟩
theorem at_335 : ps_at 335 8 327 8 := ⟨rfl, rfl, by decide⟩
theorem at_336 : ps_at 336 8 327 9 := ⟨rfl, rfl, by decide⟩
theorem at_337 : ps_at 337 8 327 10 := ⟨rfl, rfl, by decide⟩
theorem at_338 : ps_at 338 8 327 11 := ⟨rfl, rfl, by decide⟩
theorem at_339 : ps_at 339 8 327 12 := ⟨rfl, rfl, by decide⟩
theorem at_340 : ps_at 340 8 327 13 := ⟨rfl, rfl, by decide⟩
theorem at_341 : ps_at 341 8 327 14 := ⟨rfl, rfl, by decide⟩
theorem at_342 : ps_at 342 8 327 15 := ⟨rfl, rfl, by decide⟩
theorem at_343 : ps_at 343 8 327 16 := ⟨rfl, rfl, by decide⟩
theorem at_344 : ps_at 344 8 327 17 := ⟨rfl, rfl, by decide⟩
section PSL
variable {g : pm_G} {M : pm_M} {F : pm_F} {cn sn pc pc' N : Nat} {st : List Value} {E : pm_E} {t : List (Option Value)}
theorem pm_ist0 {w : Option Value} {x : Int32} (hd : pm_STI M.2.2.1 pc 0 pc') (hi : 0 < M.2.2.2.1) (k : pm_W g M F cn sn pc' (some (.int x) :: t) st N E) : pm_W g M F cn sn pc (w :: t) (.int x :: st) N E := pm_ist 0 hd rfl hi k
theorem pm_ast0 {w : Option Value} {x : Nat} (hd : pm_STA M.2.2.1 pc 0 pc') (hi : 0 < M.2.2.2.1) (k : pm_W g M F cn sn pc' (some (.ref x) :: t) st N E) : pm_W g M F cn sn pc (w :: t) (.ref x :: st) N E := pm_ast 0 hd rfl hi k
theorem pm_lst0 {w w2 : Option Value} {x : Int64} (hd : pm_STL M.2.2.1 pc 0 pc') (hi : 0 + 1 < M.2.2.2.1) (k : pm_W g M F cn sn pc' (some (.long x) :: none :: t) st N E) : pm_W g M F cn sn pc (w :: w2 :: t) (.long x :: st) N E := pm_lst 0 hd rfl hi k
theorem pm_dst0 {w w2 : Option Value} {x : UInt64} (hd : pm_STD M.2.2.1 pc 0 pc') (hi : 0 + 1 < M.2.2.2.1) (k : pm_W g M F cn sn pc' (some (.double x) :: none :: t) st N E) : pm_W g M F cn sn pc (w :: w2 :: t) (.double x :: st) N E := pm_dst 0 hd rfl hi k
theorem pm_inc0  {x v : Int32} (hd : pm_INC M.2.2.1 pc 0 v pc') (k : pm_W g M F cn sn pc' (some (.int (x + v)) :: t) st N E) : pm_W g M F cn sn pc (some (.int x) :: t) st N E := pm_inc 0 hd rfl rfl k
theorem pm_ist1 {a0 w : Option Value} {x : Int32} (hd : pm_STI M.2.2.1 pc 1 pc') (h : pm_nw a0 = true) (hi : 1 < M.2.2.2.1) (k : pm_W g M F cn sn pc' (a0 :: some (.int x) :: t) st N E) : pm_W g M F cn sn pc (a0 :: w :: t) (.int x :: st) N E := pm_ist 1 hd h hi k
theorem pm_ast1 {a0 w : Option Value} {x : Nat} (hd : pm_STA M.2.2.1 pc 1 pc') (h : pm_nw a0 = true) (hi : 1 < M.2.2.2.1) (k : pm_W g M F cn sn pc' (a0 :: some (.ref x) :: t) st N E) : pm_W g M F cn sn pc (a0 :: w :: t) (.ref x :: st) N E := pm_ast 1 hd h hi k
theorem pm_lst1 {a0 w w2 : Option Value} {x : Int64} (hd : pm_STL M.2.2.1 pc 1 pc') (h : pm_nw a0 = true) (hi : 1 + 1 < M.2.2.2.1) (k : pm_W g M F cn sn pc' (a0 :: some (.long x) :: none :: t) st N E) : pm_W g M F cn sn pc (a0 :: w :: w2 :: t) (.long x :: st) N E := pm_lst 1 hd h hi k
theorem pm_dst1 {a0 w w2 : Option Value} {x : UInt64} (hd : pm_STD M.2.2.1 pc 1 pc') (h : pm_nw a0 = true) (hi : 1 + 1 < M.2.2.2.1) (k : pm_W g M F cn sn pc' (a0 :: some (.double x) :: none :: t) st N E) : pm_W g M F cn sn pc (a0 :: w :: w2 :: t) (.double x :: st) N E := pm_dst 1 hd h hi k
theorem pm_inc1 {a0 : Option Value} {x v : Int32} (hd : pm_INC M.2.2.1 pc 1 v pc') (h : pm_nw a0 = true) (k : pm_W g M F cn sn pc' (a0 :: some (.int (x + v)) :: t) st N E) : pm_W g M F cn sn pc (a0 :: some (.int x) :: t) st N E := pm_inc 1 hd rfl h k
theorem pm_ist2 {a0 a1 w : Option Value} {x : Int32} (hd : pm_STI M.2.2.1 pc 2 pc') (h : pm_nw a1 = true) (hi : 2 < M.2.2.2.1) (k : pm_W g M F cn sn pc' (a0 :: a1 :: some (.int x) :: t) st N E) : pm_W g M F cn sn pc (a0 :: a1 :: w :: t) (.int x :: st) N E := pm_ist 2 hd h hi k
theorem pm_ast2 {a0 a1 w : Option Value} {x : Nat} (hd : pm_STA M.2.2.1 pc 2 pc') (h : pm_nw a1 = true) (hi : 2 < M.2.2.2.1) (k : pm_W g M F cn sn pc' (a0 :: a1 :: some (.ref x) :: t) st N E) : pm_W g M F cn sn pc (a0 :: a1 :: w :: t) (.ref x :: st) N E := pm_ast 2 hd h hi k
theorem pm_lst2 {a0 a1 w w2 : Option Value} {x : Int64} (hd : pm_STL M.2.2.1 pc 2 pc') (h : pm_nw a1 = true) (hi : 2 + 1 < M.2.2.2.1) (k : pm_W g M F cn sn pc' (a0 :: a1 :: some (.long x) :: none :: t) st N E) : pm_W g M F cn sn pc (a0 :: a1 :: w :: w2 :: t) (.long x :: st) N E := pm_lst 2 hd h hi k
theorem pm_dst2 {a0 a1 w w2 : Option Value} {x : UInt64} (hd : pm_STD M.2.2.1 pc 2 pc') (h : pm_nw a1 = true) (hi : 2 + 1 < M.2.2.2.1) (k : pm_W g M F cn sn pc' (a0 :: a1 :: some (.double x) :: none :: t) st N E) : pm_W g M F cn sn pc (a0 :: a1 :: w :: w2 :: t) (.double x :: st) N E := pm_dst 2 hd h hi k
theorem pm_inc2 {a0 a1 : Option Value} {x v : Int32} (hd : pm_INC M.2.2.1 pc 2 v pc') (h : pm_nw a1 = true) (k : pm_W g M F cn sn pc' (a0 :: a1 :: some (.int (x + v)) :: t) st N E) : pm_W g M F cn sn pc (a0 :: a1 :: some (.int x) :: t) st N E := pm_inc 2 hd rfl h k
theorem pm_ist3 {a0 a1 a2 w : Option Value} {x : Int32} (hd : pm_STI M.2.2.1 pc 3 pc') (h : pm_nw a2 = true) (hi : 3 < M.2.2.2.1) (k : pm_W g M F cn sn pc' (a0 :: a1 :: a2 :: some (.int x) :: t) st N E) : pm_W g M F cn sn pc (a0 :: a1 :: a2 :: w :: t) (.int x :: st) N E := pm_ist 3 hd h hi k
theorem pm_ast3 {a0 a1 a2 w : Option Value} {x : Nat} (hd : pm_STA M.2.2.1 pc 3 pc') (h : pm_nw a2 = true) (hi : 3 < M.2.2.2.1) (k : pm_W g M F cn sn pc' (a0 :: a1 :: a2 :: some (.ref x) :: t) st N E) : pm_W g M F cn sn pc (a0 :: a1 :: a2 :: w :: t) (.ref x :: st) N E := pm_ast 3 hd h hi k
theorem pm_lst3 {a0 a1 a2 w w2 : Option Value} {x : Int64} (hd : pm_STL M.2.2.1 pc 3 pc') (h : pm_nw a2 = true) (hi : 3 + 1 < M.2.2.2.1) (k : pm_W g M F cn sn pc' (a0 :: a1 :: a2 :: some (.long x) :: none :: t) st N E) : pm_W g M F cn sn pc (a0 :: a1 :: a2 :: w :: w2 :: t) (.long x :: st) N E := pm_lst 3 hd h hi k
theorem pm_dst3 {a0 a1 a2 w w2 : Option Value} {x : UInt64} (hd : pm_STD M.2.2.1 pc 3 pc') (h : pm_nw a2 = true) (hi : 3 + 1 < M.2.2.2.1) (k : pm_W g M F cn sn pc' (a0 :: a1 :: a2 :: some (.double x) :: none :: t) st N E) : pm_W g M F cn sn pc (a0 :: a1 :: a2 :: w :: w2 :: t) (.double x :: st) N E := pm_dst 3 hd h hi k
theorem pm_inc3 {a0 a1 a2 : Option Value} {x v : Int32} (hd : pm_INC M.2.2.1 pc 3 v pc') (h : pm_nw a2 = true) (k : pm_W g M F cn sn pc' (a0 :: a1 :: a2 :: some (.int (x + v)) :: t) st N E) : pm_W g M F cn sn pc (a0 :: a1 :: a2 :: some (.int x) :: t) st N E := pm_inc 3 hd rfl h k
theorem pm_ist4 {a0 a1 a2 a3 w : Option Value} {x : Int32} (hd : pm_STI M.2.2.1 pc 4 pc') (h : pm_nw a3 = true) (hi : 4 < M.2.2.2.1) (k : pm_W g M F cn sn pc' (a0 :: a1 :: a2 :: a3 :: some (.int x) :: t) st N E) : pm_W g M F cn sn pc (a0 :: a1 :: a2 :: a3 :: w :: t) (.int x :: st) N E := pm_ist 4 hd h hi k
theorem pm_ast4 {a0 a1 a2 a3 w : Option Value} {x : Nat} (hd : pm_STA M.2.2.1 pc 4 pc') (h : pm_nw a3 = true) (hi : 4 < M.2.2.2.1) (k : pm_W g M F cn sn pc' (a0 :: a1 :: a2 :: a3 :: some (.ref x) :: t) st N E) : pm_W g M F cn sn pc (a0 :: a1 :: a2 :: a3 :: w :: t) (.ref x :: st) N E := pm_ast 4 hd h hi k
theorem pm_lst4 {a0 a1 a2 a3 w w2 : Option Value} {x : Int64} (hd : pm_STL M.2.2.1 pc 4 pc') (h : pm_nw a3 = true) (hi : 4 + 1 < M.2.2.2.1) (k : pm_W g M F cn sn pc' (a0 :: a1 :: a2 :: a3 :: some (.long x) :: none :: t) st N E) : pm_W g M F cn sn pc (a0 :: a1 :: a2 :: a3 :: w :: w2 :: t) (.long x :: st) N E := pm_lst 4 hd h hi k
theorem pm_dst4 {a0 a1 a2 a3 w w2 : Option Value} {x : UInt64} (hd : pm_STD M.2.2.1 pc 4 pc') (h : pm_nw a3 = true) (hi : 4 + 1 < M.2.2.2.1) (k : pm_W g M F cn sn pc' (a0 :: a1 :: a2 :: a3 :: some (.double x) :: none :: t) st N E) : pm_W g M F cn sn pc (a0 :: a1 :: a2 :: a3 :: w :: w2 :: t) (.double x :: st) N E := pm_dst 4 hd h hi k
theorem pm_inc4 {a0 a1 a2 a3 : Option Value} {x v : Int32} (hd : pm_INC M.2.2.1 pc 4 v pc') (h : pm_nw a3 = true) (k : pm_W g M F cn sn pc' (a0 :: a1 :: a2 :: a3 :: some (.int (x + v)) :: t) st N E) : pm_W g M F cn sn pc (a0 :: a1 :: a2 :: a3 :: some (.int x) :: t) st N E := pm_inc 4 hd rfl h k
theorem pm_ist5 {a0 a1 a2 a3 a4 w : Option Value} {x : Int32} (hd : pm_STI M.2.2.1 pc 5 pc') (h : pm_nw a4 = true) (hi : 5 < M.2.2.2.1) (k : pm_W g M F cn sn pc' (a0 :: a1 :: a2 :: a3 :: a4 :: some (.int x) :: t) st N E) : pm_W g M F cn sn pc (a0 :: a1 :: a2 :: a3 :: a4 :: w :: t) (.int x :: st) N E := pm_ist 5 hd h hi k
theorem pm_ast5 {a0 a1 a2 a3 a4 w : Option Value} {x : Nat} (hd : pm_STA M.2.2.1 pc 5 pc') (h : pm_nw a4 = true) (hi : 5 < M.2.2.2.1) (k : pm_W g M F cn sn pc' (a0 :: a1 :: a2 :: a3 :: a4 :: some (.ref x) :: t) st N E) : pm_W g M F cn sn pc (a0 :: a1 :: a2 :: a3 :: a4 :: w :: t) (.ref x :: st) N E := pm_ast 5 hd h hi k
theorem pm_lst5 {a0 a1 a2 a3 a4 w w2 : Option Value} {x : Int64} (hd : pm_STL M.2.2.1 pc 5 pc') (h : pm_nw a4 = true) (hi : 5 + 1 < M.2.2.2.1) (k : pm_W g M F cn sn pc' (a0 :: a1 :: a2 :: a3 :: a4 :: some (.long x) :: none :: t) st N E) : pm_W g M F cn sn pc (a0 :: a1 :: a2 :: a3 :: a4 :: w :: w2 :: t) (.long x :: st) N E := pm_lst 5 hd h hi k
theorem pm_dst5 {a0 a1 a2 a3 a4 w w2 : Option Value} {x : UInt64} (hd : pm_STD M.2.2.1 pc 5 pc') (h : pm_nw a4 = true) (hi : 5 + 1 < M.2.2.2.1) (k : pm_W g M F cn sn pc' (a0 :: a1 :: a2 :: a3 :: a4 :: some (.double x) :: none :: t) st N E) : pm_W g M F cn sn pc (a0 :: a1 :: a2 :: a3 :: a4 :: w :: w2 :: t) (.double x :: st) N E := pm_dst 5 hd h hi k
theorem pm_inc5 {a0 a1 a2 a3 a4 : Option Value} {x v : Int32} (hd : pm_INC M.2.2.1 pc 5 v pc') (h : pm_nw a4 = true) (k : pm_W g M F cn sn pc' (a0 :: a1 :: a2 :: a3 :: a4 :: some (.int (x + v)) :: t) st N E) : pm_W g M F cn sn pc (a0 :: a1 :: a2 :: a3 :: a4 :: some (.int x) :: t) st N E := pm_inc 5 hd rfl h k
theorem pm_ist6 {a0 a1 a2 a3 a4 a5 w : Option Value} {x : Int32} (hd : pm_STI M.2.2.1 pc 6 pc') (h : pm_nw a5 = true) (hi : 6 < M.2.2.2.1) (k : pm_W g M F cn sn pc' (a0 :: a1 :: a2 :: a3 :: a4 :: a5 :: some (.int x) :: t) st N E) : pm_W g M F cn sn pc (a0 :: a1 :: a2 :: a3 :: a4 :: a5 :: w :: t) (.int x :: st) N E := pm_ist 6 hd h hi k
theorem pm_ast6 {a0 a1 a2 a3 a4 a5 w : Option Value} {x : Nat} (hd : pm_STA M.2.2.1 pc 6 pc') (h : pm_nw a5 = true) (hi : 6 < M.2.2.2.1) (k : pm_W g M F cn sn pc' (a0 :: a1 :: a2 :: a3 :: a4 :: a5 :: some (.ref x) :: t) st N E) : pm_W g M F cn sn pc (a0 :: a1 :: a2 :: a3 :: a4 :: a5 :: w :: t) (.ref x :: st) N E := pm_ast 6 hd h hi k
theorem pm_lst6 {a0 a1 a2 a3 a4 a5 w w2 : Option Value} {x : Int64} (hd : pm_STL M.2.2.1 pc 6 pc') (h : pm_nw a5 = true) (hi : 6 + 1 < M.2.2.2.1) (k : pm_W g M F cn sn pc' (a0 :: a1 :: a2 :: a3 :: a4 :: a5 :: some (.long x) :: none :: t) st N E) : pm_W g M F cn sn pc (a0 :: a1 :: a2 :: a3 :: a4 :: a5 :: w :: w2 :: t) (.long x :: st) N E := pm_lst 6 hd h hi k
theorem pm_dst6 {a0 a1 a2 a3 a4 a5 w w2 : Option Value} {x : UInt64} (hd : pm_STD M.2.2.1 pc 6 pc') (h : pm_nw a5 = true) (hi : 6 + 1 < M.2.2.2.1) (k : pm_W g M F cn sn pc' (a0 :: a1 :: a2 :: a3 :: a4 :: a5 :: some (.double x) :: none :: t) st N E) : pm_W g M F cn sn pc (a0 :: a1 :: a2 :: a3 :: a4 :: a5 :: w :: w2 :: t) (.double x :: st) N E := pm_dst 6 hd h hi k
theorem pm_inc6 {a0 a1 a2 a3 a4 a5 : Option Value} {x v : Int32} (hd : pm_INC M.2.2.1 pc 6 v pc') (h : pm_nw a5 = true) (k : pm_W g M F cn sn pc' (a0 :: a1 :: a2 :: a3 :: a4 :: a5 :: some (.int (x + v)) :: t) st N E) : pm_W g M F cn sn pc (a0 :: a1 :: a2 :: a3 :: a4 :: a5 :: some (.int x) :: t) st N E := pm_inc 6 hd rfl h k
theorem pm_ist7 {a0 a1 a2 a3 a4 a5 a6 w : Option Value} {x : Int32} (hd : pm_STI M.2.2.1 pc 7 pc') (h : pm_nw a6 = true) (hi : 7 < M.2.2.2.1) (k : pm_W g M F cn sn pc' (a0 :: a1 :: a2 :: a3 :: a4 :: a5 :: a6 :: some (.int x) :: t) st N E) : pm_W g M F cn sn pc (a0 :: a1 :: a2 :: a3 :: a4 :: a5 :: a6 :: w :: t) (.int x :: st) N E := pm_ist 7 hd h hi k
theorem pm_ast7 {a0 a1 a2 a3 a4 a5 a6 w : Option Value} {x : Nat} (hd : pm_STA M.2.2.1 pc 7 pc') (h : pm_nw a6 = true) (hi : 7 < M.2.2.2.1) (k : pm_W g M F cn sn pc' (a0 :: a1 :: a2 :: a3 :: a4 :: a5 :: a6 :: some (.ref x) :: t) st N E) : pm_W g M F cn sn pc (a0 :: a1 :: a2 :: a3 :: a4 :: a5 :: a6 :: w :: t) (.ref x :: st) N E := pm_ast 7 hd h hi k
theorem pm_lst7 {a0 a1 a2 a3 a4 a5 a6 w w2 : Option Value} {x : Int64} (hd : pm_STL M.2.2.1 pc 7 pc') (h : pm_nw a6 = true) (hi : 7 + 1 < M.2.2.2.1) (k : pm_W g M F cn sn pc' (a0 :: a1 :: a2 :: a3 :: a4 :: a5 :: a6 :: some (.long x) :: none :: t) st N E) : pm_W g M F cn sn pc (a0 :: a1 :: a2 :: a3 :: a4 :: a5 :: a6 :: w :: w2 :: t) (.long x :: st) N E := pm_lst 7 hd h hi k
theorem pm_dst7 {a0 a1 a2 a3 a4 a5 a6 w w2 : Option Value} {x : UInt64} (hd : pm_STD M.2.2.1 pc 7 pc') (h : pm_nw a6 = true) (hi : 7 + 1 < M.2.2.2.1) (k : pm_W g M F cn sn pc' (a0 :: a1 :: a2 :: a3 :: a4 :: a5 :: a6 :: some (.double x) :: none :: t) st N E) : pm_W g M F cn sn pc (a0 :: a1 :: a2 :: a3 :: a4 :: a5 :: a6 :: w :: w2 :: t) (.double x :: st) N E := pm_dst 7 hd h hi k
theorem pm_inc7 {a0 a1 a2 a3 a4 a5 a6 : Option Value} {x v : Int32} (hd : pm_INC M.2.2.1 pc 7 v pc') (h : pm_nw a6 = true) (k : pm_W g M F cn sn pc' (a0 :: a1 :: a2 :: a3 :: a4 :: a5 :: a6 :: some (.int (x + v)) :: t) st N E) : pm_W g M F cn sn pc (a0 :: a1 :: a2 :: a3 :: a4 :: a5 :: a6 :: some (.int x) :: t) st N E := pm_inc 7 hd rfl h k
theorem pm_ist8 {a0 a1 a2 a3 a4 a5 a6 a7 w : Option Value} {x : Int32} (hd : pm_STI M.2.2.1 pc 8 pc') (h : pm_nw a7 = true) (hi : 8 < M.2.2.2.1) (k : pm_W g M F cn sn pc' (a0 :: a1 :: a2 :: a3 :: a4 :: a5 :: a6 :: a7 :: some (.int x) :: t) st N E) : pm_W g M F cn sn pc (a0 :: a1 :: a2 :: a3 :: a4 :: a5 :: a6 :: a7 :: w :: t) (.int x :: st) N E := pm_ist 8 hd h hi k
theorem pm_ast8 {a0 a1 a2 a3 a4 a5 a6 a7 w : Option Value} {x : Nat} (hd : pm_STA M.2.2.1 pc 8 pc') (h : pm_nw a7 = true) (hi : 8 < M.2.2.2.1) (k : pm_W g M F cn sn pc' (a0 :: a1 :: a2 :: a3 :: a4 :: a5 :: a6 :: a7 :: some (.ref x) :: t) st N E) : pm_W g M F cn sn pc (a0 :: a1 :: a2 :: a3 :: a4 :: a5 :: a6 :: a7 :: w :: t) (.ref x :: st) N E := pm_ast 8 hd h hi k
theorem pm_lst8 {a0 a1 a2 a3 a4 a5 a6 a7 w w2 : Option Value} {x : Int64} (hd : pm_STL M.2.2.1 pc 8 pc') (h : pm_nw a7 = true) (hi : 8 + 1 < M.2.2.2.1) (k : pm_W g M F cn sn pc' (a0 :: a1 :: a2 :: a3 :: a4 :: a5 :: a6 :: a7 :: some (.long x) :: none :: t) st N E) : pm_W g M F cn sn pc (a0 :: a1 :: a2 :: a3 :: a4 :: a5 :: a6 :: a7 :: w :: w2 :: t) (.long x :: st) N E := pm_lst 8 hd h hi k
theorem pm_dst8 {a0 a1 a2 a3 a4 a5 a6 a7 w w2 : Option Value} {x : UInt64} (hd : pm_STD M.2.2.1 pc 8 pc') (h : pm_nw a7 = true) (hi : 8 + 1 < M.2.2.2.1) (k : pm_W g M F cn sn pc' (a0 :: a1 :: a2 :: a3 :: a4 :: a5 :: a6 :: a7 :: some (.double x) :: none :: t) st N E) : pm_W g M F cn sn pc (a0 :: a1 :: a2 :: a3 :: a4 :: a5 :: a6 :: a7 :: w :: w2 :: t) (.double x :: st) N E := pm_dst 8 hd h hi k
theorem pm_inc8 {a0 a1 a2 a3 a4 a5 a6 a7 : Option Value} {x v : Int32} (hd : pm_INC M.2.2.1 pc 8 v pc') (h : pm_nw a7 = true) (k : pm_W g M F cn sn pc' (a0 :: a1 :: a2 :: a3 :: a4 :: a5 :: a6 :: a7 :: some (.int (x + v)) :: t) st N E) : pm_W g M F cn sn pc (a0 :: a1 :: a2 :: a3 :: a4 :: a5 :: a6 :: a7 :: some (.int x) :: t) st N E := pm_inc 8 hd rfl h k
theorem pm_ist9 {a0 a1 a2 a3 a4 a5 a6 a7 a8 w : Option Value} {x : Int32} (hd : pm_STI M.2.2.1 pc 9 pc') (h : pm_nw a8 = true) (hi : 9 < M.2.2.2.1) (k : pm_W g M F cn sn pc' (a0 :: a1 :: a2 :: a3 :: a4 :: a5 :: a6 :: a7 :: a8 :: some (.int x) :: t) st N E) : pm_W g M F cn sn pc (a0 :: a1 :: a2 :: a3 :: a4 :: a5 :: a6 :: a7 :: a8 :: w :: t) (.int x :: st) N E := pm_ist 9 hd h hi k
theorem pm_ast9 {a0 a1 a2 a3 a4 a5 a6 a7 a8 w : Option Value} {x : Nat} (hd : pm_STA M.2.2.1 pc 9 pc') (h : pm_nw a8 = true) (hi : 9 < M.2.2.2.1) (k : pm_W g M F cn sn pc' (a0 :: a1 :: a2 :: a3 :: a4 :: a5 :: a6 :: a7 :: a8 :: some (.ref x) :: t) st N E) : pm_W g M F cn sn pc (a0 :: a1 :: a2 :: a3 :: a4 :: a5 :: a6 :: a7 :: a8 :: w :: t) (.ref x :: st) N E := pm_ast 9 hd h hi k
theorem pm_lst9 {a0 a1 a2 a3 a4 a5 a6 a7 a8 w w2 : Option Value} {x : Int64} (hd : pm_STL M.2.2.1 pc 9 pc') (h : pm_nw a8 = true) (hi : 9 + 1 < M.2.2.2.1) (k : pm_W g M F cn sn pc' (a0 :: a1 :: a2 :: a3 :: a4 :: a5 :: a6 :: a7 :: a8 :: some (.long x) :: none :: t) st N E) : pm_W g M F cn sn pc (a0 :: a1 :: a2 :: a3 :: a4 :: a5 :: a6 :: a7 :: a8 :: w :: w2 :: t) (.long x :: st) N E := pm_lst 9 hd h hi k
theorem pm_dst9 {a0 a1 a2 a3 a4 a5 a6 a7 a8 w w2 : Option Value} {x : UInt64} (hd : pm_STD M.2.2.1 pc 9 pc') (h : pm_nw a8 = true) (hi : 9 + 1 < M.2.2.2.1) (k : pm_W g M F cn sn pc' (a0 :: a1 :: a2 :: a3 :: a4 :: a5 :: a6 :: a7 :: a8 :: some (.double x) :: none :: t) st N E) : pm_W g M F cn sn pc (a0 :: a1 :: a2 :: a3 :: a4 :: a5 :: a6 :: a7 :: a8 :: w :: w2 :: t) (.double x :: st) N E := pm_dst 9 hd h hi k
theorem pm_inc9 {a0 a1 a2 a3 a4 a5 a6 a7 a8 : Option Value} {x v : Int32} (hd : pm_INC M.2.2.1 pc 9 v pc') (h : pm_nw a8 = true) (k : pm_W g M F cn sn pc' (a0 :: a1 :: a2 :: a3 :: a4 :: a5 :: a6 :: a7 :: a8 :: some (.int (x + v)) :: t) st N E) : pm_W g M F cn sn pc (a0 :: a1 :: a2 :: a3 :: a4 :: a5 :: a6 :: a7 :: a8 :: some (.int x) :: t) st N E := pm_inc 9 hd rfl h k
theorem pm_ist10 {a0 a1 a2 a3 a4 a5 a6 a7 a8 a9 w : Option Value} {x : Int32} (hd : pm_STI M.2.2.1 pc 10 pc') (h : pm_nw a9 = true) (hi : 10 < M.2.2.2.1) (k : pm_W g M F cn sn pc' (a0 :: a1 :: a2 :: a3 :: a4 :: a5 :: a6 :: a7 :: a8 :: a9 :: some (.int x) :: t) st N E) : pm_W g M F cn sn pc (a0 :: a1 :: a2 :: a3 :: a4 :: a5 :: a6 :: a7 :: a8 :: a9 :: w :: t) (.int x :: st) N E := pm_ist 10 hd h hi k
theorem pm_ast10 {a0 a1 a2 a3 a4 a5 a6 a7 a8 a9 w : Option Value} {x : Nat} (hd : pm_STA M.2.2.1 pc 10 pc') (h : pm_nw a9 = true) (hi : 10 < M.2.2.2.1) (k : pm_W g M F cn sn pc' (a0 :: a1 :: a2 :: a3 :: a4 :: a5 :: a6 :: a7 :: a8 :: a9 :: some (.ref x) :: t) st N E) : pm_W g M F cn sn pc (a0 :: a1 :: a2 :: a3 :: a4 :: a5 :: a6 :: a7 :: a8 :: a9 :: w :: t) (.ref x :: st) N E := pm_ast 10 hd h hi k
theorem pm_lst10 {a0 a1 a2 a3 a4 a5 a6 a7 a8 a9 w w2 : Option Value} {x : Int64} (hd : pm_STL M.2.2.1 pc 10 pc') (h : pm_nw a9 = true) (hi : 10 + 1 < M.2.2.2.1) (k : pm_W g M F cn sn pc' (a0 :: a1 :: a2 :: a3 :: a4 :: a5 :: a6 :: a7 :: a8 :: a9 :: some (.long x) :: none :: t) st N E) : pm_W g M F cn sn pc (a0 :: a1 :: a2 :: a3 :: a4 :: a5 :: a6 :: a7 :: a8 :: a9 :: w :: w2 :: t) (.long x :: st) N E := pm_lst 10 hd h hi k
theorem pm_dst10 {a0 a1 a2 a3 a4 a5 a6 a7 a8 a9 w w2 : Option Value} {x : UInt64} (hd : pm_STD M.2.2.1 pc 10 pc') (h : pm_nw a9 = true) (hi : 10 + 1 < M.2.2.2.1) (k : pm_W g M F cn sn pc' (a0 :: a1 :: a2 :: a3 :: a4 :: a5 :: a6 :: a7 :: a8 :: a9 :: some (.double x) :: none :: t) st N E) : pm_W g M F cn sn pc (a0 :: a1 :: a2 :: a3 :: a4 :: a5 :: a6 :: a7 :: a8 :: a9 :: w :: w2 :: t) (.double x :: st) N E := pm_dst 10 hd h hi k
theorem pm_inc10 {a0 a1 a2 a3 a4 a5 a6 a7 a8 a9 : Option Value} {x v : Int32} (hd : pm_INC M.2.2.1 pc 10 v pc') (h : pm_nw a9 = true) (k : pm_W g M F cn sn pc' (a0 :: a1 :: a2 :: a3 :: a4 :: a5 :: a6 :: a7 :: a8 :: a9 :: some (.int (x + v)) :: t) st N E) : pm_W g M F cn sn pc (a0 :: a1 :: a2 :: a3 :: a4 :: a5 :: a6 :: a7 :: a8 :: a9 :: some (.int x) :: t) st N E := pm_inc 10 hd rfl h k
theorem pm_ist11 {a0 a1 a2 a3 a4 a5 a6 a7 a8 a9 a10 w : Option Value} {x : Int32} (hd : pm_STI M.2.2.1 pc 11 pc') (h : pm_nw a10 = true) (hi : 11 < M.2.2.2.1) (k : pm_W g M F cn sn pc' (a0 :: a1 :: a2 :: a3 :: a4 :: a5 :: a6 :: a7 :: a8 :: a9 :: a10 :: some (.int x) :: t) st N E) : pm_W g M F cn sn pc (a0 :: a1 :: a2 :: a3 :: a4 :: a5 :: a6 :: a7 :: a8 :: a9 :: a10 :: w :: t) (.int x :: st) N E := pm_ist 11 hd h hi k
theorem pm_ast11 {a0 a1 a2 a3 a4 a5 a6 a7 a8 a9 a10 w : Option Value} {x : Nat} (hd : pm_STA M.2.2.1 pc 11 pc') (h : pm_nw a10 = true) (hi : 11 < M.2.2.2.1) (k : pm_W g M F cn sn pc' (a0 :: a1 :: a2 :: a3 :: a4 :: a5 :: a6 :: a7 :: a8 :: a9 :: a10 :: some (.ref x) :: t) st N E) : pm_W g M F cn sn pc (a0 :: a1 :: a2 :: a3 :: a4 :: a5 :: a6 :: a7 :: a8 :: a9 :: a10 :: w :: t) (.ref x :: st) N E := pm_ast 11 hd h hi k
theorem pm_lst11 {a0 a1 a2 a3 a4 a5 a6 a7 a8 a9 a10 w w2 : Option Value} {x : Int64} (hd : pm_STL M.2.2.1 pc 11 pc') (h : pm_nw a10 = true) (hi : 11 + 1 < M.2.2.2.1) (k : pm_W g M F cn sn pc' (a0 :: a1 :: a2 :: a3 :: a4 :: a5 :: a6 :: a7 :: a8 :: a9 :: a10 :: some (.long x) :: none :: t) st N E) : pm_W g M F cn sn pc (a0 :: a1 :: a2 :: a3 :: a4 :: a5 :: a6 :: a7 :: a8 :: a9 :: a10 :: w :: w2 :: t) (.long x :: st) N E := pm_lst 11 hd h hi k
theorem pm_dst11 {a0 a1 a2 a3 a4 a5 a6 a7 a8 a9 a10 w w2 : Option Value} {x : UInt64} (hd : pm_STD M.2.2.1 pc 11 pc') (h : pm_nw a10 = true) (hi : 11 + 1 < M.2.2.2.1) (k : pm_W g M F cn sn pc' (a0 :: a1 :: a2 :: a3 :: a4 :: a5 :: a6 :: a7 :: a8 :: a9 :: a10 :: some (.double x) :: none :: t) st N E) : pm_W g M F cn sn pc (a0 :: a1 :: a2 :: a3 :: a4 :: a5 :: a6 :: a7 :: a8 :: a9 :: a10 :: w :: w2 :: t) (.double x :: st) N E := pm_dst 11 hd h hi k
theorem pm_inc11 {a0 a1 a2 a3 a4 a5 a6 a7 a8 a9 a10 : Option Value} {x v : Int32} (hd : pm_INC M.2.2.1 pc 11 v pc') (h : pm_nw a10 = true) (k : pm_W g M F cn sn pc' (a0 :: a1 :: a2 :: a3 :: a4 :: a5 :: a6 :: a7 :: a8 :: a9 :: a10 :: some (.int (x + v)) :: t) st N E) : pm_W g M F cn sn pc (a0 :: a1 :: a2 :: a3 :: a4 :: a5 :: a6 :: a7 :: a8 :: a9 :: a10 :: some (.int x) :: t) st N E := pm_inc 11 hd rfl h k
theorem pm_ist12 {a0 a1 a2 a3 a4 a5 a6 a7 a8 a9 a10 a11 w : Option Value} {x : Int32} (hd : pm_STI M.2.2.1 pc 12 pc') (h : pm_nw a11 = true) (hi : 12 < M.2.2.2.1) (k : pm_W g M F cn sn pc' (a0 :: a1 :: a2 :: a3 :: a4 :: a5 :: a6 :: a7 :: a8 :: a9 :: a10 :: a11 :: some (.int x) :: t) st N E) : pm_W g M F cn sn pc (a0 :: a1 :: a2 :: a3 :: a4 :: a5 :: a6 :: a7 :: a8 :: a9 :: a10 :: a11 :: w :: t) (.int x :: st) N E := pm_ist 12 hd h hi k
theorem pm_ast12 {a0 a1 a2 a3 a4 a5 a6 a7 a8 a9 a10 a11 w : Option Value} {x : Nat} (hd : pm_STA M.2.2.1 pc 12 pc') (h : pm_nw a11 = true) (hi : 12 < M.2.2.2.1) (k : pm_W g M F cn sn pc' (a0 :: a1 :: a2 :: a3 :: a4 :: a5 :: a6 :: a7 :: a8 :: a9 :: a10 :: a11 :: some (.ref x) :: t) st N E) : pm_W g M F cn sn pc (a0 :: a1 :: a2 :: a3 :: a4 :: a5 :: a6 :: a7 :: a8 :: a9 :: a10 :: a11 :: w :: t) (.ref x :: st) N E := pm_ast 12 hd h hi k
theorem pm_lst12 {a0 a1 a2 a3 a4 a5 a6 a7 a8 a9 a10 a11 w w2 : Option Value} {x : Int64} (hd : pm_STL M.2.2.1 pc 12 pc') (h : pm_nw a11 = true) (hi : 12 + 1 < M.2.2.2.1) (k : pm_W g M F cn sn pc' (a0 :: a1 :: a2 :: a3 :: a4 :: a5 :: a6 :: a7 :: a8 :: a9 :: a10 :: a11 :: some (.long x) :: none :: t) st N E) : pm_W g M F cn sn pc (a0 :: a1 :: a2 :: a3 :: a4 :: a5 :: a6 :: a7 :: a8 :: a9 :: a10 :: a11 :: w :: w2 :: t) (.long x :: st) N E := pm_lst 12 hd h hi k
theorem pm_dst12 {a0 a1 a2 a3 a4 a5 a6 a7 a8 a9 a10 a11 w w2 : Option Value} {x : UInt64} (hd : pm_STD M.2.2.1 pc 12 pc') (h : pm_nw a11 = true) (hi : 12 + 1 < M.2.2.2.1) (k : pm_W g M F cn sn pc' (a0 :: a1 :: a2 :: a3 :: a4 :: a5 :: a6 :: a7 :: a8 :: a9 :: a10 :: a11 :: some (.double x) :: none :: t) st N E) : pm_W g M F cn sn pc (a0 :: a1 :: a2 :: a3 :: a4 :: a5 :: a6 :: a7 :: a8 :: a9 :: a10 :: a11 :: w :: w2 :: t) (.double x :: st) N E := pm_dst 12 hd h hi k
theorem pm_inc12 {a0 a1 a2 a3 a4 a5 a6 a7 a8 a9 a10 a11 : Option Value} {x v : Int32} (hd : pm_INC M.2.2.1 pc 12 v pc') (h : pm_nw a11 = true) (k : pm_W g M F cn sn pc' (a0 :: a1 :: a2 :: a3 :: a4 :: a5 :: a6 :: a7 :: a8 :: a9 :: a10 :: a11 :: some (.int (x + v)) :: t) st N E) : pm_W g M F cn sn pc (a0 :: a1 :: a2 :: a3 :: a4 :: a5 :: a6 :: a7 :: a8 :: a9 :: a10 :: a11 :: some (.int x) :: t) st N E := pm_inc 12 hd rfl h k
theorem pm_ist13 {a0 a1 a2 a3 a4 a5 a6 a7 a8 a9 a10 a11 a12 w : Option Value} {x : Int32} (hd : pm_STI M.2.2.1 pc 13 pc') (h : pm_nw a12 = true) (hi : 13 < M.2.2.2.1) (k : pm_W g M F cn sn pc' (a0 :: a1 :: a2 :: a3 :: a4 :: a5 :: a6 :: a7 :: a8 :: a9 :: a10 :: a11 :: a12 :: some (.int x) :: t) st N E) : pm_W g M F cn sn pc (a0 :: a1 :: a2 :: a3 :: a4 :: a5 :: a6 :: a7 :: a8 :: a9 :: a10 :: a11 :: a12 :: w :: t) (.int x :: st) N E := pm_ist 13 hd h hi k
theorem pm_ast13 {a0 a1 a2 a3 a4 a5 a6 a7 a8 a9 a10 a11 a12 w : Option Value} {x : Nat} (hd : pm_STA M.2.2.1 pc 13 pc') (h : pm_nw a12 = true) (hi : 13 < M.2.2.2.1) (k : pm_W g M F cn sn pc' (a0 :: a1 :: a2 :: a3 :: a4 :: a5 :: a6 :: a7 :: a8 :: a9 :: a10 :: a11 :: a12 :: some (.ref x) :: t) st N E) : pm_W g M F cn sn pc (a0 :: a1 :: a2 :: a3 :: a4 :: a5 :: a6 :: a7 :: a8 :: a9 :: a10 :: a11 :: a12 :: w :: t) (.ref x :: st) N E := pm_ast 13 hd h hi k
theorem pm_lst13 {a0 a1 a2 a3 a4 a5 a6 a7 a8 a9 a10 a11 a12 w w2 : Option Value} {x : Int64} (hd : pm_STL M.2.2.1 pc 13 pc') (h : pm_nw a12 = true) (hi : 13 + 1 < M.2.2.2.1) (k : pm_W g M F cn sn pc' (a0 :: a1 :: a2 :: a3 :: a4 :: a5 :: a6 :: a7 :: a8 :: a9 :: a10 :: a11 :: a12 :: some (.long x) :: none :: t) st N E) : pm_W g M F cn sn pc (a0 :: a1 :: a2 :: a3 :: a4 :: a5 :: a6 :: a7 :: a8 :: a9 :: a10 :: a11 :: a12 :: w :: w2 :: t) (.long x :: st) N E := pm_lst 13 hd h hi k
theorem pm_dst13 {a0 a1 a2 a3 a4 a5 a6 a7 a8 a9 a10 a11 a12 w w2 : Option Value} {x : UInt64} (hd : pm_STD M.2.2.1 pc 13 pc') (h : pm_nw a12 = true) (hi : 13 + 1 < M.2.2.2.1) (k : pm_W g M F cn sn pc' (a0 :: a1 :: a2 :: a3 :: a4 :: a5 :: a6 :: a7 :: a8 :: a9 :: a10 :: a11 :: a12 :: some (.double x) :: none :: t) st N E) : pm_W g M F cn sn pc (a0 :: a1 :: a2 :: a3 :: a4 :: a5 :: a6 :: a7 :: a8 :: a9 :: a10 :: a11 :: a12 :: w :: w2 :: t) (.double x :: st) N E := pm_dst 13 hd h hi k
theorem pm_inc13 {a0 a1 a2 a3 a4 a5 a6 a7 a8 a9 a10 a11 a12 : Option Value} {x v : Int32} (hd : pm_INC M.2.2.1 pc 13 v pc') (h : pm_nw a12 = true) (k : pm_W g M F cn sn pc' (a0 :: a1 :: a2 :: a3 :: a4 :: a5 :: a6 :: a7 :: a8 :: a9 :: a10 :: a11 :: a12 :: some (.int (x + v)) :: t) st N E) : pm_W g M F cn sn pc (a0 :: a1 :: a2 :: a3 :: a4 :: a5 :: a6 :: a7 :: a8 :: a9 :: a10 :: a11 :: a12 :: some (.int x) :: t) st N E := pm_inc 13 hd rfl h k
theorem pm_ist14 {a0 a1 a2 a3 a4 a5 a6 a7 a8 a9 a10 a11 a12 a13 w : Option Value} {x : Int32} (hd : pm_STI M.2.2.1 pc 14 pc') (h : pm_nw a13 = true) (hi : 14 < M.2.2.2.1) (k : pm_W g M F cn sn pc' (a0 :: a1 :: a2 :: a3 :: a4 :: a5 :: a6 :: a7 :: a8 :: a9 :: a10 :: a11 :: a12 :: a13 :: some (.int x) :: t) st N E) : pm_W g M F cn sn pc (a0 :: a1 :: a2 :: a3 :: a4 :: a5 :: a6 :: a7 :: a8 :: a9 :: a10 :: a11 :: a12 :: a13 :: w :: t) (.int x :: st) N E := pm_ist 14 hd h hi k
theorem pm_ast14 {a0 a1 a2 a3 a4 a5 a6 a7 a8 a9 a10 a11 a12 a13 w : Option Value} {x : Nat} (hd : pm_STA M.2.2.1 pc 14 pc') (h : pm_nw a13 = true) (hi : 14 < M.2.2.2.1) (k : pm_W g M F cn sn pc' (a0 :: a1 :: a2 :: a3 :: a4 :: a5 :: a6 :: a7 :: a8 :: a9 :: a10 :: a11 :: a12 :: a13 :: some (.ref x) :: t) st N E) : pm_W g M F cn sn pc (a0 :: a1 :: a2 :: a3 :: a4 :: a5 :: a6 :: a7 :: a8 :: a9 :: a10 :: a11 :: a12 :: a13 :: w :: t) (.ref x :: st) N E := pm_ast 14 hd h hi k
theorem pm_lst14 {a0 a1 a2 a3 a4 a5 a6 a7 a8 a9 a10 a11 a12 a13 w w2 : Option Value} {x : Int64} (hd : pm_STL M.2.2.1 pc 14 pc') (h : pm_nw a13 = true) (hi : 14 + 1 < M.2.2.2.1) (k : pm_W g M F cn sn pc' (a0 :: a1 :: a2 :: a3 :: a4 :: a5 :: a6 :: a7 :: a8 :: a9 :: a10 :: a11 :: a12 :: a13 :: some (.long x) :: none :: t) st N E) : pm_W g M F cn sn pc (a0 :: a1 :: a2 :: a3 :: a4 :: a5 :: a6 :: a7 :: a8 :: a9 :: a10 :: a11 :: a12 :: a13 :: w :: w2 :: t) (.long x :: st) N E := pm_lst 14 hd h hi k
theorem pm_dst14 {a0 a1 a2 a3 a4 a5 a6 a7 a8 a9 a10 a11 a12 a13 w w2 : Option Value} {x : UInt64} (hd : pm_STD M.2.2.1 pc 14 pc') (h : pm_nw a13 = true) (hi : 14 + 1 < M.2.2.2.1) (k : pm_W g M F cn sn pc' (a0 :: a1 :: a2 :: a3 :: a4 :: a5 :: a6 :: a7 :: a8 :: a9 :: a10 :: a11 :: a12 :: a13 :: some (.double x) :: none :: t) st N E) : pm_W g M F cn sn pc (a0 :: a1 :: a2 :: a3 :: a4 :: a5 :: a6 :: a7 :: a8 :: a9 :: a10 :: a11 :: a12 :: a13 :: w :: w2 :: t) (.double x :: st) N E := pm_dst 14 hd h hi k
theorem pm_inc14 {a0 a1 a2 a3 a4 a5 a6 a7 a8 a9 a10 a11 a12 a13 : Option Value} {x v : Int32} (hd : pm_INC M.2.2.1 pc 14 v pc') (h : pm_nw a13 = true) (k : pm_W g M F cn sn pc' (a0 :: a1 :: a2 :: a3 :: a4 :: a5 :: a6 :: a7 :: a8 :: a9 :: a10 :: a11 :: a12 :: a13 :: some (.int (x + v)) :: t) st N E) : pm_W g M F cn sn pc (a0 :: a1 :: a2 :: a3 :: a4 :: a5 :: a6 :: a7 :: a8 :: a9 :: a10 :: a11 :: a12 :: a13 :: some (.int x) :: t) st N E := pm_inc 14 hd rfl h k
theorem pm_ist15 {a0 a1 a2 a3 a4 a5 a6 a7 a8 a9 a10 a11 a12 a13 a14 w : Option Value} {x : Int32} (hd : pm_STI M.2.2.1 pc 15 pc') (h : pm_nw a14 = true) (hi : 15 < M.2.2.2.1) (k : pm_W g M F cn sn pc' (a0 :: a1 :: a2 :: a3 :: a4 :: a5 :: a6 :: a7 :: a8 :: a9 :: a10 :: a11 :: a12 :: a13 :: a14 :: some (.int x) :: t) st N E) : pm_W g M F cn sn pc (a0 :: a1 :: a2 :: a3 :: a4 :: a5 :: a6 :: a7 :: a8 :: a9 :: a10 :: a11 :: a12 :: a13 :: a14 :: w :: t) (.int x :: st) N E := pm_ist 15 hd h hi k
theorem pm_ast15 {a0 a1 a2 a3 a4 a5 a6 a7 a8 a9 a10 a11 a12 a13 a14 w : Option Value} {x : Nat} (hd : pm_STA M.2.2.1 pc 15 pc') (h : pm_nw a14 = true) (hi : 15 < M.2.2.2.1) (k : pm_W g M F cn sn pc' (a0 :: a1 :: a2 :: a3 :: a4 :: a5 :: a6 :: a7 :: a8 :: a9 :: a10 :: a11 :: a12 :: a13 :: a14 :: some (.ref x) :: t) st N E) : pm_W g M F cn sn pc (a0 :: a1 :: a2 :: a3 :: a4 :: a5 :: a6 :: a7 :: a8 :: a9 :: a10 :: a11 :: a12 :: a13 :: a14 :: w :: t) (.ref x :: st) N E := pm_ast 15 hd h hi k
theorem pm_lst15 {a0 a1 a2 a3 a4 a5 a6 a7 a8 a9 a10 a11 a12 a13 a14 w w2 : Option Value} {x : Int64} (hd : pm_STL M.2.2.1 pc 15 pc') (h : pm_nw a14 = true) (hi : 15 + 1 < M.2.2.2.1) (k : pm_W g M F cn sn pc' (a0 :: a1 :: a2 :: a3 :: a4 :: a5 :: a6 :: a7 :: a8 :: a9 :: a10 :: a11 :: a12 :: a13 :: a14 :: some (.long x) :: none :: t) st N E) : pm_W g M F cn sn pc (a0 :: a1 :: a2 :: a3 :: a4 :: a5 :: a6 :: a7 :: a8 :: a9 :: a10 :: a11 :: a12 :: a13 :: a14 :: w :: w2 :: t) (.long x :: st) N E := pm_lst 15 hd h hi k
theorem pm_dst15 {a0 a1 a2 a3 a4 a5 a6 a7 a8 a9 a10 a11 a12 a13 a14 w w2 : Option Value} {x : UInt64} (hd : pm_STD M.2.2.1 pc 15 pc') (h : pm_nw a14 = true) (hi : 15 + 1 < M.2.2.2.1) (k : pm_W g M F cn sn pc' (a0 :: a1 :: a2 :: a3 :: a4 :: a5 :: a6 :: a7 :: a8 :: a9 :: a10 :: a11 :: a12 :: a13 :: a14 :: some (.double x) :: none :: t) st N E) : pm_W g M F cn sn pc (a0 :: a1 :: a2 :: a3 :: a4 :: a5 :: a6 :: a7 :: a8 :: a9 :: a10 :: a11 :: a12 :: a13 :: a14 :: w :: w2 :: t) (.double x :: st) N E := pm_dst 15 hd h hi k
theorem pm_inc15 {a0 a1 a2 a3 a4 a5 a6 a7 a8 a9 a10 a11 a12 a13 a14 : Option Value} {x v : Int32} (hd : pm_INC M.2.2.1 pc 15 v pc') (h : pm_nw a14 = true) (k : pm_W g M F cn sn pc' (a0 :: a1 :: a2 :: a3 :: a4 :: a5 :: a6 :: a7 :: a8 :: a9 :: a10 :: a11 :: a12 :: a13 :: a14 :: some (.int (x + v)) :: t) st N E) : pm_W g M F cn sn pc (a0 :: a1 :: a2 :: a3 :: a4 :: a5 :: a6 :: a7 :: a8 :: a9 :: a10 :: a11 :: a12 :: a13 :: a14 :: some (.int x) :: t) st N E := pm_inc 15 hd rfl h k
theorem pm_ist16 {a0 a1 a2 a3 a4 a5 a6 a7 a8 a9 a10 a11 a12 a13 a14 a15 w : Option Value} {x : Int32} (hd : pm_STI M.2.2.1 pc 16 pc') (h : pm_nw a15 = true) (hi : 16 < M.2.2.2.1) (k : pm_W g M F cn sn pc' (a0 :: a1 :: a2 :: a3 :: a4 :: a5 :: a6 :: a7 :: a8 :: a9 :: a10 :: a11 :: a12 :: a13 :: a14 :: a15 :: some (.int x) :: t) st N E) : pm_W g M F cn sn pc (a0 :: a1 :: a2 :: a3 :: a4 :: a5 :: a6 :: a7 :: a8 :: a9 :: a10 :: a11 :: a12 :: a13 :: a14 :: a15 :: w :: t) (.int x :: st) N E := pm_ist 16 hd h hi k
theorem pm_ast16 {a0 a1 a2 a3 a4 a5 a6 a7 a8 a9 a10 a11 a12 a13 a14 a15 w : Option Value} {x : Nat} (hd : pm_STA M.2.2.1 pc 16 pc') (h : pm_nw a15 = true) (hi : 16 < M.2.2.2.1) (k : pm_W g M F cn sn pc' (a0 :: a1 :: a2 :: a3 :: a4 :: a5 :: a6 :: a7 :: a8 :: a9 :: a10 :: a11 :: a12 :: a13 :: a14 :: a15 :: some (.ref x) :: t) st N E) : pm_W g M F cn sn pc (a0 :: a1 :: a2 :: a3 :: a4 :: a5 :: a6 :: a7 :: a8 :: a9 :: a10 :: a11 :: a12 :: a13 :: a14 :: a15 :: w :: t) (.ref x :: st) N E := pm_ast 16 hd h hi k
theorem pm_lst16 {a0 a1 a2 a3 a4 a5 a6 a7 a8 a9 a10 a11 a12 a13 a14 a15 w w2 : Option Value} {x : Int64} (hd : pm_STL M.2.2.1 pc 16 pc') (h : pm_nw a15 = true) (hi : 16 + 1 < M.2.2.2.1) (k : pm_W g M F cn sn pc' (a0 :: a1 :: a2 :: a3 :: a4 :: a5 :: a6 :: a7 :: a8 :: a9 :: a10 :: a11 :: a12 :: a13 :: a14 :: a15 :: some (.long x) :: none :: t) st N E) : pm_W g M F cn sn pc (a0 :: a1 :: a2 :: a3 :: a4 :: a5 :: a6 :: a7 :: a8 :: a9 :: a10 :: a11 :: a12 :: a13 :: a14 :: a15 :: w :: w2 :: t) (.long x :: st) N E := pm_lst 16 hd h hi k
theorem pm_dst16 {a0 a1 a2 a3 a4 a5 a6 a7 a8 a9 a10 a11 a12 a13 a14 a15 w w2 : Option Value} {x : UInt64} (hd : pm_STD M.2.2.1 pc 16 pc') (h : pm_nw a15 = true) (hi : 16 + 1 < M.2.2.2.1) (k : pm_W g M F cn sn pc' (a0 :: a1 :: a2 :: a3 :: a4 :: a5 :: a6 :: a7 :: a8 :: a9 :: a10 :: a11 :: a12 :: a13 :: a14 :: a15 :: some (.double x) :: none :: t) st N E) : pm_W g M F cn sn pc (a0 :: a1 :: a2 :: a3 :: a4 :: a5 :: a6 :: a7 :: a8 :: a9 :: a10 :: a11 :: a12 :: a13 :: a14 :: a15 :: w :: w2 :: t) (.double x :: st) N E := pm_dst 16 hd h hi k
theorem pm_inc16 {a0 a1 a2 a3 a4 a5 a6 a7 a8 a9 a10 a11 a12 a13 a14 a15 : Option Value} {x v : Int32} (hd : pm_INC M.2.2.1 pc 16 v pc') (h : pm_nw a15 = true) (k : pm_W g M F cn sn pc' (a0 :: a1 :: a2 :: a3 :: a4 :: a5 :: a6 :: a7 :: a8 :: a9 :: a10 :: a11 :: a12 :: a13 :: a14 :: a15 :: some (.int (x + v)) :: t) st N E) : pm_W g M F cn sn pc (a0 :: a1 :: a2 :: a3 :: a4 :: a5 :: a6 :: a7 :: a8 :: a9 :: a10 :: a11 :: a12 :: a13 :: a14 :: a15 :: some (.int x) :: t) st N E := pm_inc 16 hd rfl h k
theorem pm_ist17 {a0 a1 a2 a3 a4 a5 a6 a7 a8 a9 a10 a11 a12 a13 a14 a15 a16 w : Option Value} {x : Int32} (hd : pm_STI M.2.2.1 pc 17 pc') (h : pm_nw a16 = true) (hi : 17 < M.2.2.2.1) (k : pm_W g M F cn sn pc' (a0 :: a1 :: a2 :: a3 :: a4 :: a5 :: a6 :: a7 :: a8 :: a9 :: a10 :: a11 :: a12 :: a13 :: a14 :: a15 :: a16 :: some (.int x) :: t) st N E) : pm_W g M F cn sn pc (a0 :: a1 :: a2 :: a3 :: a4 :: a5 :: a6 :: a7 :: a8 :: a9 :: a10 :: a11 :: a12 :: a13 :: a14 :: a15 :: a16 :: w :: t) (.int x :: st) N E := pm_ist 17 hd h hi k
theorem pm_ast17 {a0 a1 a2 a3 a4 a5 a6 a7 a8 a9 a10 a11 a12 a13 a14 a15 a16 w : Option Value} {x : Nat} (hd : pm_STA M.2.2.1 pc 17 pc') (h : pm_nw a16 = true) (hi : 17 < M.2.2.2.1) (k : pm_W g M F cn sn pc' (a0 :: a1 :: a2 :: a3 :: a4 :: a5 :: a6 :: a7 :: a8 :: a9 :: a10 :: a11 :: a12 :: a13 :: a14 :: a15 :: a16 :: some (.ref x) :: t) st N E) : pm_W g M F cn sn pc (a0 :: a1 :: a2 :: a3 :: a4 :: a5 :: a6 :: a7 :: a8 :: a9 :: a10 :: a11 :: a12 :: a13 :: a14 :: a15 :: a16 :: w :: t) (.ref x :: st) N E := pm_ast 17 hd h hi k
theorem pm_lst17 {a0 a1 a2 a3 a4 a5 a6 a7 a8 a9 a10 a11 a12 a13 a14 a15 a16 w w2 : Option Value} {x : Int64} (hd : pm_STL M.2.2.1 pc 17 pc') (h : pm_nw a16 = true) (hi : 17 + 1 < M.2.2.2.1) (k : pm_W g M F cn sn pc' (a0 :: a1 :: a2 :: a3 :: a4 :: a5 :: a6 :: a7 :: a8 :: a9 :: a10 :: a11 :: a12 :: a13 :: a14 :: a15 :: a16 :: some (.long x) :: none :: t) st N E) : pm_W g M F cn sn pc (a0 :: a1 :: a2 :: a3 :: a4 :: a5 :: a6 :: a7 :: a8 :: a9 :: a10 :: a11 :: a12 :: a13 :: a14 :: a15 :: a16 :: w :: w2 :: t) (.long x :: st) N E := pm_lst 17 hd h hi k
theorem pm_dst17 {a0 a1 a2 a3 a4 a5 a6 a7 a8 a9 a10 a11 a12 a13 a14 a15 a16 w w2 : Option Value} {x : UInt64} (hd : pm_STD M.2.2.1 pc 17 pc') (h : pm_nw a16 = true) (hi : 17 + 1 < M.2.2.2.1) (k : pm_W g M F cn sn pc' (a0 :: a1 :: a2 :: a3 :: a4 :: a5 :: a6 :: a7 :: a8 :: a9 :: a10 :: a11 :: a12 :: a13 :: a14 :: a15 :: a16 :: some (.double x) :: none :: t) st N E) : pm_W g M F cn sn pc (a0 :: a1 :: a2 :: a3 :: a4 :: a5 :: a6 :: a7 :: a8 :: a9 :: a10 :: a11 :: a12 :: a13 :: a14 :: a15 :: a16 :: w :: w2 :: t) (.double x :: st) N E := pm_dst 17 hd h hi k
theorem pm_inc17 {a0 a1 a2 a3 a4 a5 a6 a7 a8 a9 a10 a11 a12 a13 a14 a15 a16 : Option Value} {x v : Int32} (hd : pm_INC M.2.2.1 pc 17 v pc') (h : pm_nw a16 = true) (k : pm_W g M F cn sn pc' (a0 :: a1 :: a2 :: a3 :: a4 :: a5 :: a6 :: a7 :: a8 :: a9 :: a10 :: a11 :: a12 :: a13 :: a14 :: a15 :: a16 :: some (.int (x + v)) :: t) st N E) : pm_W g M F cn sn pc (a0 :: a1 :: a2 :: a3 :: a4 :: a5 :: a6 :: a7 :: a8 :: a9 :: a10 :: a11 :: a12 :: a13 :: a14 :: a15 :: a16 :: some (.int x) :: t) st N E := pm_inc 17 hd rfl h k
theorem pm_ist18 {a0 a1 a2 a3 a4 a5 a6 a7 a8 a9 a10 a11 a12 a13 a14 a15 a16 a17 w : Option Value} {x : Int32} (hd : pm_STI M.2.2.1 pc 18 pc') (h : pm_nw a17 = true) (hi : 18 < M.2.2.2.1) (k : pm_W g M F cn sn pc' (a0 :: a1 :: a2 :: a3 :: a4 :: a5 :: a6 :: a7 :: a8 :: a9 :: a10 :: a11 :: a12 :: a13 :: a14 :: a15 :: a16 :: a17 :: some (.int x) :: t) st N E) : pm_W g M F cn sn pc (a0 :: a1 :: a2 :: a3 :: a4 :: a5 :: a6 :: a7 :: a8 :: a9 :: a10 :: a11 :: a12 :: a13 :: a14 :: a15 :: a16 :: a17 :: w :: t) (.int x :: st) N E := pm_ist 18 hd h hi k
theorem pm_ast18 {a0 a1 a2 a3 a4 a5 a6 a7 a8 a9 a10 a11 a12 a13 a14 a15 a16 a17 w : Option Value} {x : Nat} (hd : pm_STA M.2.2.1 pc 18 pc') (h : pm_nw a17 = true) (hi : 18 < M.2.2.2.1) (k : pm_W g M F cn sn pc' (a0 :: a1 :: a2 :: a3 :: a4 :: a5 :: a6 :: a7 :: a8 :: a9 :: a10 :: a11 :: a12 :: a13 :: a14 :: a15 :: a16 :: a17 :: some (.ref x) :: t) st N E) : pm_W g M F cn sn pc (a0 :: a1 :: a2 :: a3 :: a4 :: a5 :: a6 :: a7 :: a8 :: a9 :: a10 :: a11 :: a12 :: a13 :: a14 :: a15 :: a16 :: a17 :: w :: t) (.ref x :: st) N E := pm_ast 18 hd h hi k
theorem pm_lst18 {a0 a1 a2 a3 a4 a5 a6 a7 a8 a9 a10 a11 a12 a13 a14 a15 a16 a17 w w2 : Option Value} {x : Int64} (hd : pm_STL M.2.2.1 pc 18 pc') (h : pm_nw a17 = true) (hi : 18 + 1 < M.2.2.2.1) (k : pm_W g M F cn sn pc' (a0 :: a1 :: a2 :: a3 :: a4 :: a5 :: a6 :: a7 :: a8 :: a9 :: a10 :: a11 :: a12 :: a13 :: a14 :: a15 :: a16 :: a17 :: some (.long x) :: none :: t) st N E) : pm_W g M F cn sn pc (a0 :: a1 :: a2 :: a3 :: a4 :: a5 :: a6 :: a7 :: a8 :: a9 :: a10 :: a11 :: a12 :: a13 :: a14 :: a15 :: a16 :: a17 :: w :: w2 :: t) (.long x :: st) N E := pm_lst 18 hd h hi k
theorem pm_dst18 {a0 a1 a2 a3 a4 a5 a6 a7 a8 a9 a10 a11 a12 a13 a14 a15 a16 a17 w w2 : Option Value} {x : UInt64} (hd : pm_STD M.2.2.1 pc 18 pc') (h : pm_nw a17 = true) (hi : 18 + 1 < M.2.2.2.1) (k : pm_W g M F cn sn pc' (a0 :: a1 :: a2 :: a3 :: a4 :: a5 :: a6 :: a7 :: a8 :: a9 :: a10 :: a11 :: a12 :: a13 :: a14 :: a15 :: a16 :: a17 :: some (.double x) :: none :: t) st N E) : pm_W g M F cn sn pc (a0 :: a1 :: a2 :: a3 :: a4 :: a5 :: a6 :: a7 :: a8 :: a9 :: a10 :: a11 :: a12 :: a13 :: a14 :: a15 :: a16 :: a17 :: w :: w2 :: t) (.double x :: st) N E := pm_dst 18 hd h hi k
theorem pm_inc18 {a0 a1 a2 a3 a4 a5 a6 a7 a8 a9 a10 a11 a12 a13 a14 a15 a16 a17 : Option Value} {x v : Int32} (hd : pm_INC M.2.2.1 pc 18 v pc') (h : pm_nw a17 = true) (k : pm_W g M F cn sn pc' (a0 :: a1 :: a2 :: a3 :: a4 :: a5 :: a6 :: a7 :: a8 :: a9 :: a10 :: a11 :: a12 :: a13 :: a14 :: a15 :: a16 :: a17 :: some (.int (x + v)) :: t) st N E) : pm_W g M F cn sn pc (a0 :: a1 :: a2 :: a3 :: a4 :: a5 :: a6 :: a7 :: a8 :: a9 :: a10 :: a11 :: a12 :: a13 :: a14 :: a15 :: a16 :: a17 :: some (.int x) :: t) st N E := pm_inc 18 hd rfl h k
theorem pm_ist19 {a0 a1 a2 a3 a4 a5 a6 a7 a8 a9 a10 a11 a12 a13 a14 a15 a16 a17 a18 w : Option Value} {x : Int32} (hd : pm_STI M.2.2.1 pc 19 pc') (h : pm_nw a18 = true) (hi : 19 < M.2.2.2.1) (k : pm_W g M F cn sn pc' (a0 :: a1 :: a2 :: a3 :: a4 :: a5 :: a6 :: a7 :: a8 :: a9 :: a10 :: a11 :: a12 :: a13 :: a14 :: a15 :: a16 :: a17 :: a18 :: some (.int x) :: t) st N E) : pm_W g M F cn sn pc (a0 :: a1 :: a2 :: a3 :: a4 :: a5 :: a6 :: a7 :: a8 :: a9 :: a10 :: a11 :: a12 :: a13 :: a14 :: a15 :: a16 :: a17 :: a18 :: w :: t) (.int x :: st) N E := pm_ist 19 hd h hi k
theorem pm_ast19 {a0 a1 a2 a3 a4 a5 a6 a7 a8 a9 a10 a11 a12 a13 a14 a15 a16 a17 a18 w : Option Value} {x : Nat} (hd : pm_STA M.2.2.1 pc 19 pc') (h : pm_nw a18 = true) (hi : 19 < M.2.2.2.1) (k : pm_W g M F cn sn pc' (a0 :: a1 :: a2 :: a3 :: a4 :: a5 :: a6 :: a7 :: a8 :: a9 :: a10 :: a11 :: a12 :: a13 :: a14 :: a15 :: a16 :: a17 :: a18 :: some (.ref x) :: t) st N E) : pm_W g M F cn sn pc (a0 :: a1 :: a2 :: a3 :: a4 :: a5 :: a6 :: a7 :: a8 :: a9 :: a10 :: a11 :: a12 :: a13 :: a14 :: a15 :: a16 :: a17 :: a18 :: w :: t) (.ref x :: st) N E := pm_ast 19 hd h hi k
theorem pm_lst19 {a0 a1 a2 a3 a4 a5 a6 a7 a8 a9 a10 a11 a12 a13 a14 a15 a16 a17 a18 w w2 : Option Value} {x : Int64} (hd : pm_STL M.2.2.1 pc 19 pc') (h : pm_nw a18 = true) (hi : 19 + 1 < M.2.2.2.1) (k : pm_W g M F cn sn pc' (a0 :: a1 :: a2 :: a3 :: a4 :: a5 :: a6 :: a7 :: a8 :: a9 :: a10 :: a11 :: a12 :: a13 :: a14 :: a15 :: a16 :: a17 :: a18 :: some (.long x) :: none :: t) st N E) : pm_W g M F cn sn pc (a0 :: a1 :: a2 :: a3 :: a4 :: a5 :: a6 :: a7 :: a8 :: a9 :: a10 :: a11 :: a12 :: a13 :: a14 :: a15 :: a16 :: a17 :: a18 :: w :: w2 :: t) (.long x :: st) N E := pm_lst 19 hd h hi k
theorem pm_dst19 {a0 a1 a2 a3 a4 a5 a6 a7 a8 a9 a10 a11 a12 a13 a14 a15 a16 a17 a18 w w2 : Option Value} {x : UInt64} (hd : pm_STD M.2.2.1 pc 19 pc') (h : pm_nw a18 = true) (hi : 19 + 1 < M.2.2.2.1) (k : pm_W g M F cn sn pc' (a0 :: a1 :: a2 :: a3 :: a4 :: a5 :: a6 :: a7 :: a8 :: a9 :: a10 :: a11 :: a12 :: a13 :: a14 :: a15 :: a16 :: a17 :: a18 :: some (.double x) :: none :: t) st N E) : pm_W g M F cn sn pc (a0 :: a1 :: a2 :: a3 :: a4 :: a5 :: a6 :: a7 :: a8 :: a9 :: a10 :: a11 :: a12 :: a13 :: a14 :: a15 :: a16 :: a17 :: a18 :: w :: w2 :: t) (.double x :: st) N E := pm_dst 19 hd h hi k
theorem pm_inc19 {a0 a1 a2 a3 a4 a5 a6 a7 a8 a9 a10 a11 a12 a13 a14 a15 a16 a17 a18 : Option Value} {x v : Int32} (hd : pm_INC M.2.2.1 pc 19 v pc') (h : pm_nw a18 = true) (k : pm_W g M F cn sn pc' (a0 :: a1 :: a2 :: a3 :: a4 :: a5 :: a6 :: a7 :: a8 :: a9 :: a10 :: a11 :: a12 :: a13 :: a14 :: a15 :: a16 :: a17 :: a18 :: some (.int (x + v)) :: t) st N E) : pm_W g M F cn sn pc (a0 :: a1 :: a2 :: a3 :: a4 :: a5 :: a6 :: a7 :: a8 :: a9 :: a10 :: a11 :: a12 :: a13 :: a14 :: a15 :: a16 :: a17 :: a18 :: some (.int x) :: t) st N E := pm_inc 19 hd rfl h k
theorem pm_ist20 {a0 a1 a2 a3 a4 a5 a6 a7 a8 a9 a10 a11 a12 a13 a14 a15 a16 a17 a18 a19 w : Option Value} {x : Int32} (hd : pm_STI M.2.2.1 pc 20 pc') (h : pm_nw a19 = true) (hi : 20 < M.2.2.2.1) (k : pm_W g M F cn sn pc' (a0 :: a1 :: a2 :: a3 :: a4 :: a5 :: a6 :: a7 :: a8 :: a9 :: a10 :: a11 :: a12 :: a13 :: a14 :: a15 :: a16 :: a17 :: a18 :: a19 :: some (.int x) :: t) st N E) : pm_W g M F cn sn pc (a0 :: a1 :: a2 :: a3 :: a4 :: a5 :: a6 :: a7 :: a8 :: a9 :: a10 :: a11 :: a12 :: a13 :: a14 :: a15 :: a16 :: a17 :: a18 :: a19 :: w :: t) (.int x :: st) N E := pm_ist 20 hd h hi k
theorem pm_ast20 {a0 a1 a2 a3 a4 a5 a6 a7 a8 a9 a10 a11 a12 a13 a14 a15 a16 a17 a18 a19 w : Option Value} {x : Nat} (hd : pm_STA M.2.2.1 pc 20 pc') (h : pm_nw a19 = true) (hi : 20 < M.2.2.2.1) (k : pm_W g M F cn sn pc' (a0 :: a1 :: a2 :: a3 :: a4 :: a5 :: a6 :: a7 :: a8 :: a9 :: a10 :: a11 :: a12 :: a13 :: a14 :: a15 :: a16 :: a17 :: a18 :: a19 :: some (.ref x) :: t) st N E) : pm_W g M F cn sn pc (a0 :: a1 :: a2 :: a3 :: a4 :: a5 :: a6 :: a7 :: a8 :: a9 :: a10 :: a11 :: a12 :: a13 :: a14 :: a15 :: a16 :: a17 :: a18 :: a19 :: w :: t) (.ref x :: st) N E := pm_ast 20 hd h hi k
theorem pm_lst20 {a0 a1 a2 a3 a4 a5 a6 a7 a8 a9 a10 a11 a12 a13 a14 a15 a16 a17 a18 a19 w w2 : Option Value} {x : Int64} (hd : pm_STL M.2.2.1 pc 20 pc') (h : pm_nw a19 = true) (hi : 20 + 1 < M.2.2.2.1) (k : pm_W g M F cn sn pc' (a0 :: a1 :: a2 :: a3 :: a4 :: a5 :: a6 :: a7 :: a8 :: a9 :: a10 :: a11 :: a12 :: a13 :: a14 :: a15 :: a16 :: a17 :: a18 :: a19 :: some (.long x) :: none :: t) st N E) : pm_W g M F cn sn pc (a0 :: a1 :: a2 :: a3 :: a4 :: a5 :: a6 :: a7 :: a8 :: a9 :: a10 :: a11 :: a12 :: a13 :: a14 :: a15 :: a16 :: a17 :: a18 :: a19 :: w :: w2 :: t) (.long x :: st) N E := pm_lst 20 hd h hi k
theorem pm_dst20 {a0 a1 a2 a3 a4 a5 a6 a7 a8 a9 a10 a11 a12 a13 a14 a15 a16 a17 a18 a19 w w2 : Option Value} {x : UInt64} (hd : pm_STD M.2.2.1 pc 20 pc') (h : pm_nw a19 = true) (hi : 20 + 1 < M.2.2.2.1) (k : pm_W g M F cn sn pc' (a0 :: a1 :: a2 :: a3 :: a4 :: a5 :: a6 :: a7 :: a8 :: a9 :: a10 :: a11 :: a12 :: a13 :: a14 :: a15 :: a16 :: a17 :: a18 :: a19 :: some (.double x) :: none :: t) st N E) : pm_W g M F cn sn pc (a0 :: a1 :: a2 :: a3 :: a4 :: a5 :: a6 :: a7 :: a8 :: a9 :: a10 :: a11 :: a12 :: a13 :: a14 :: a15 :: a16 :: a17 :: a18 :: a19 :: w :: w2 :: t) (.double x :: st) N E := pm_dst 20 hd h hi k
theorem pm_inc20 {a0 a1 a2 a3 a4 a5 a6 a7 a8 a9 a10 a11 a12 a13 a14 a15 a16 a17 a18 a19 : Option Value} {x v : Int32} (hd : pm_INC M.2.2.1 pc 20 v pc') (h : pm_nw a19 = true) (k : pm_W g M F cn sn pc' (a0 :: a1 :: a2 :: a3 :: a4 :: a5 :: a6 :: a7 :: a8 :: a9 :: a10 :: a11 :: a12 :: a13 :: a14 :: a15 :: a16 :: a17 :: a18 :: a19 :: some (.int (x + v)) :: t) st N E) : pm_W g M F cn sn pc (a0 :: a1 :: a2 :: a3 :: a4 :: a5 :: a6 :: a7 :: a8 :: a9 :: a10 :: a11 :: a12 :: a13 :: a14 :: a15 :: a16 :: a17 :: a18 :: a19 :: some (.int x) :: t) st N E := pm_inc 20 hd rfl h k
theorem pm_ist21 {a0 a1 a2 a3 a4 a5 a6 a7 a8 a9 a10 a11 a12 a13 a14 a15 a16 a17 a18 a19 a20 w : Option Value} {x : Int32} (hd : pm_STI M.2.2.1 pc 21 pc') (h : pm_nw a20 = true) (hi : 21 < M.2.2.2.1) (k : pm_W g M F cn sn pc' (a0 :: a1 :: a2 :: a3 :: a4 :: a5 :: a6 :: a7 :: a8 :: a9 :: a10 :: a11 :: a12 :: a13 :: a14 :: a15 :: a16 :: a17 :: a18 :: a19 :: a20 :: some (.int x) :: t) st N E) : pm_W g M F cn sn pc (a0 :: a1 :: a2 :: a3 :: a4 :: a5 :: a6 :: a7 :: a8 :: a9 :: a10 :: a11 :: a12 :: a13 :: a14 :: a15 :: a16 :: a17 :: a18 :: a19 :: a20 :: w :: t) (.int x :: st) N E := pm_ist 21 hd h hi k
theorem pm_ast21 {a0 a1 a2 a3 a4 a5 a6 a7 a8 a9 a10 a11 a12 a13 a14 a15 a16 a17 a18 a19 a20 w : Option Value} {x : Nat} (hd : pm_STA M.2.2.1 pc 21 pc') (h : pm_nw a20 = true) (hi : 21 < M.2.2.2.1) (k : pm_W g M F cn sn pc' (a0 :: a1 :: a2 :: a3 :: a4 :: a5 :: a6 :: a7 :: a8 :: a9 :: a10 :: a11 :: a12 :: a13 :: a14 :: a15 :: a16 :: a17 :: a18 :: a19 :: a20 :: some (.ref x) :: t) st N E) : pm_W g M F cn sn pc (a0 :: a1 :: a2 :: a3 :: a4 :: a5 :: a6 :: a7 :: a8 :: a9 :: a10 :: a11 :: a12 :: a13 :: a14 :: a15 :: a16 :: a17 :: a18 :: a19 :: a20 :: w :: t) (.ref x :: st) N E := pm_ast 21 hd h hi k
theorem pm_lst21 {a0 a1 a2 a3 a4 a5 a6 a7 a8 a9 a10 a11 a12 a13 a14 a15 a16 a17 a18 a19 a20 w w2 : Option Value} {x : Int64} (hd : pm_STL M.2.2.1 pc 21 pc') (h : pm_nw a20 = true) (hi : 21 + 1 < M.2.2.2.1) (k : pm_W g M F cn sn pc' (a0 :: a1 :: a2 :: a3 :: a4 :: a5 :: a6 :: a7 :: a8 :: a9 :: a10 :: a11 :: a12 :: a13 :: a14 :: a15 :: a16 :: a17 :: a18 :: a19 :: a20 :: some (.long x) :: none :: t) st N E) : pm_W g M F cn sn pc (a0 :: a1 :: a2 :: a3 :: a4 :: a5 :: a6 :: a7 :: a8 :: a9 :: a10 :: a11 :: a12 :: a13 :: a14 :: a15 :: a16 :: a17 :: a18 :: a19 :: a20 :: w :: w2 :: t) (.long x :: st) N E := pm_lst 21 hd h hi k
theorem pm_dst21 {a0 a1 a2 a3 a4 a5 a6 a7 a8 a9 a10 a11 a12 a13 a14 a15 a16 a17 a18 a19 a20 w w2 : Option Value} {x : UInt64} (hd : pm_STD M.2.2.1 pc 21 pc') (h : pm_nw a20 = true) (hi : 21 + 1 < M.2.2.2.1) (k : pm_W g M F cn sn pc' (a0 :: a1 :: a2 :: a3 :: a4 :: a5 :: a6 :: a7 :: a8 :: a9 :: a10 :: a11 :: a12 :: a13 :: a14 :: a15 :: a16 :: a17 :: a18 :: a19 :: a20 :: some (.double x) :: none :: t) st N E) : pm_W g M F cn sn pc (a0 :: a1 :: a2 :: a3 :: a4 :: a5 :: a6 :: a7 :: a8 :: a9 :: a10 :: a11 :: a12 :: a13 :: a14 :: a15 :: a16 :: a17 :: a18 :: a19 :: a20 :: w :: w2 :: t) (.double x :: st) N E := pm_dst 21 hd h hi k
theorem pm_inc21 {a0 a1 a2 a3 a4 a5 a6 a7 a8 a9 a10 a11 a12 a13 a14 a15 a16 a17 a18 a19 a20 : Option Value} {x v : Int32} (hd : pm_INC M.2.2.1 pc 21 v pc') (h : pm_nw a20 = true) (k : pm_W g M F cn sn pc' (a0 :: a1 :: a2 :: a3 :: a4 :: a5 :: a6 :: a7 :: a8 :: a9 :: a10 :: a11 :: a12 :: a13 :: a14 :: a15 :: a16 :: a17 :: a18 :: a19 :: a20 :: some (.int (x + v)) :: t) st N E) : pm_W g M F cn sn pc (a0 :: a1 :: a2 :: a3 :: a4 :: a5 :: a6 :: a7 :: a8 :: a9 :: a10 :: a11 :: a12 :: a13 :: a14 :: a15 :: a16 :: a17 :: a18 :: a19 :: a20 :: some (.int x) :: t) st N E := pm_inc 21 hd rfl h k
end PSL
