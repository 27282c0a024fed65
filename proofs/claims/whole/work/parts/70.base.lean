/-! how a mirror is followed -/
theorem pz_gd {β : Type} {c : Prop} {inst : Decidable c} {A : Option (β × ps_S)} {P : β → ps_S → Prop} (hc : c) (h : ps_ok A P) : ps_ok (if c then A else none) P := by rw [if_pos hc]; exact h
theorem pz_nz {β : Type} {c : Prop} {inst : Decidable c} {A : Option (β × ps_S)} {P : β → ps_S → Prop} (hc : ¬ c) (h : ps_ok A P) : ps_ok (if c then none else A) P := by rw [if_neg hc]; exact h
theorem pz_if {β : Type} {c : Prop} {inst : Decidable c} {A B : Option (β × ps_S)} {P : β → ps_S → Prop} (h1 : c → ps_ok A P) (h2 : ¬ c → ps_ok B P) : ps_ok (if c then A else B) P := by
  by_cases h : c
  · rw [if_pos h]; exact h1 h
  · rw [if_neg h]; exact h2 h
theorem pz_le {α β : Type} {a : α} {f : α → Option (β × ps_S)} {P : β → ps_S → Prop} (h : ∀ x, x = a → ps_ok (f x) P) : ps_ok (ps_let a f) P := h a rfl
theorem pz_bd {α β : Type} {o : Option (α × ps_S)} {f : α → ps_S → Option (β × ps_S)} {P : β → ps_S → Prop} {Q : α → ps_S → Prop} (h : ps_ok o Q) (k : ∀ a σ, Q a σ → ps_ok (f a σ) P) : ps_ok (ps_bd o f) P := by
  obtain ⟨x, e, hx⟩ := h
  rw [e]
  exact k _ _ hx
theorem pz_bde {α β : Type} {o : Option (α × ps_S)} {f : α → ps_S → Option (β × ps_S)} {a : α} {σ : ps_S} (h : o = some (a, σ)) : ps_bd o f = f a σ := by rw [h]; rfl
theorem pz_bds {α β : Type} {f : α → ps_S → Option (β × ps_S)} {a : α} {σ : ps_S} : ps_bd (some (a, σ)) f = f a σ := rfl
theorem pz_ok_eq {α : Type} {o : Option (α × ps_S)} {a : α} {σ : ps_S} {P : α → ps_S → Prop} (h : o = some (a, σ)) (hp : P a σ) : ps_ok o P := ⟨(a, σ), h, hp⟩
/-! numbers -/
theorem pz_ini {a n : Nat} (h : a < n) (hn : n ≤ 2147483648) : ps_in (nI a) n = true := by
  unfold ps_in
  exact decide_eq_true ⟨by rw [show (nI a).toBitVec.toNat = a from pk_tn (by omega)]; exact h, hn⟩
theorem pz_a1 (d : Nat) : (1 : Int32) + nI d = nI (1 + d) := nI_add 1 d
theorem pz_a4 (d : Nat) : (4 : Int32) + nI d = nI (4 + d) := nI_add 4 d
theorem pz_a6 (d : Nat) : (6 : Int32) + nI d = nI (6 + d) := nI_add 6 d
theorem pz_a8 (d : Nat) : (8 : Int32) + nI d = nI (8 + d) := nI_add 8 d
theorem pz_a13 (d : Nat) : (13 : Int32) + nI d = nI (13 + d) := nI_add 13 d
theorem pz_a17 (d : Nat) : (17 : Int32) + nI d = nI (17 + d) := nI_add 17 d
theorem pz_a25 (d : Nat) : (25 : Int32) + nI d = nI (25 + d) := nI_add 25 d
theorem pz_a29 (d : Nat) : (29 : Int32) + nI d = nI (29 + d) := nI_add 29 d
theorem pz_a33 (d : Nat) : (33 : Int32) + nI d = nI (33 + d) := nI_add 33 d
theorem pz_a37 (d : Nat) : (37 : Int32) + nI d = nI (37 + d) := nI_add 37 d
theorem pz_a41 (d : Nat) : (41 : Int32) + nI d = nI (41 + d) := nI_add 41 d
theorem pz_a45 (d : Nat) : (45 : Int32) + nI d = nI (45 + d) := nI_add 45 d
theorem pz_a49 (d : Nat) : (49 : Int32) + nI d = nI (49 + d) := nI_add 49 d
theorem pz_a53 (d : Nat) : (53 : Int32) + nI d = nI (53 + d) := nI_add 53 d
theorem pz_a59 (d : Nat) : (59 : Int32) + nI d = nI (59 + d) := nI_add 59 d
theorem pz_a65 (d : Nat) : (65 : Int32) + nI d = nI (65 + d) := nI_add 65 d
theorem pz_a71 (d : Nat) : (71 : Int32) + nI d = nI (71 + d) := nI_add 71 d
theorem pz_a77 (d : Nat) : (77 : Int32) + nI d = nI (77 + d) := nI_add 77 d
/-! rows -/
abbrev pa_R : Type := Nat → Int32
abbrev pa_D : Type := Nat → UInt64
def pa_sum (r : pa_R) (a : Nat) : Nat → Int32
  | 0 => 0
  | n + 1 => pa_sum r a n + r (a + n)
def pa_all (r : pa_R) : Int32 := pa_sum r 1 12 + pa_sum r 29 4
theorem pg_sumL (a n : Nat) (ha : a + n ≤ 83) (σ : ps_S) : ∀ (m k fuel : Nat), k + m = n → m < fuel → qX9_sumOf_5 (nI a) (nI n) fuel (pa_sum (σ.1 335) a k) (nI k) σ = some ((pa_sum (σ.1 335) a n, nI n), σ) := by
  intro m
  induction m with
  | zero =>
    intro k fuel hk hf
    obtain ⟨f, rfl⟩ : ∃ f, fuel = f + 1 := ⟨fuel - 1, by omega⟩
    have : k = n := by omega
    subst this
    rw [qX9_sumOf_5, if_pos (nI_le (Nat.le_refl _) (by omega))]
  | succ m ih =>
    intro k fuel hk hf
    obtain ⟨f, rfl⟩ : ∃ f, fuel = f + 1 := ⟨fuel - 1, by omega⟩
    rw [qX9_sumOf_5, if_neg (nI_ge (by omega) (by omega)), nI_add, if_pos (pz_ini (by omega) (by omega)), nI_clamp (by omega)]
    show qX9_sumOf_5 (nI a) (nI n) f (pa_sum (σ.1 335) a (k + 1)) (nI k + 1) σ = _
    rw [nI_1]
    exact ih (k + 1) f (by omega) (by omega)
theorem pg_sum (a n : Nat) (ha : a + n ≤ 83) (σ : ps_S) : qX9_sumOf (nI a) (nI n) σ = some (pa_sum (σ.1 335) a n, σ) := by
  unfold qX9_sumOf
  have h : qX9_sumOf_5 (nI a) (nI n) ps_N 0 0 σ = _ := pg_sumL a n ha σ n 0 ps_N (by omega) (by unfold ps_N; omega)
  rw [pz_bde h]
theorem pg_all (σ : ps_S) : qX9_allNow σ = some (pa_all (σ.1 335), σ) := by
  unfold qX9_allNow
  have h1 : qX9_sumOf 1 12 σ = _ := pg_sum 1 12 (by omega) σ
  have h2 : qX9_sumOf 29 4 σ = _ := pg_sum 29 4 (by omega) σ
  rw [pz_bde h1, pz_bde h2]
  rfl
/-! canonical rows: only what lives -/
def pa_can (D W : Nat) (f : pa_R) : pa_R := fun k => if k < 83 then (if 25 + D ≤ k ∧ k < 29 then 0 else if 53 + W ≤ k ∧ k < 59 then 0 else f k) else 0
def pa_live (D W k : Nat) : Prop := k < 83 ∧ (k < 25 + D ∨ 29 ≤ k) ∧ (k < 53 + W ∨ 59 ≤ k)
theorem pa_can_at {D W k : Nat} {f : pa_R} (h : pa_live D W k) : pa_can D W f k = f k := by
  obtain ⟨h1, h2, h3⟩ := h
  unfold pa_can
  rw [if_pos h1, if_neg (by omega), if_neg (by omega)]
theorem pa_can_upd {D W k : Nat} {f : pa_R} {v : Int32} (h : pa_live D W k) : pa_can D W (upd f k v) = upd (pa_can D W f) k v := by
  obtain ⟨h1, h2, h3⟩ := h
  funext j
  unfold pa_can upd
  by_cases hj : j = k
  · subst hj
    rw [if_pos h1, if_neg (by omega), if_neg (by omega), if_pos rfl, if_pos rfl]
  · rw [if_neg hj, if_neg hj]
theorem pa_can_congr {D W : Nat} {f g : pa_R} (h : ∀ k, pa_live D W k → f k = g k) : pa_can D W f = pa_can D W g := by
  funext k
  unfold pa_can
  by_cases h1 : k < 83
  · rw [if_pos h1, if_pos h1]
    by_cases h2 : 25 + D ≤ k ∧ k < 29
    · rw [if_pos h2, if_pos h2]
    · rw [if_neg h2, if_neg h2]
      by_cases h3 : 53 + W ≤ k ∧ k < 59
      · rw [if_pos h3, if_pos h3]
      · rw [if_neg h3, if_neg h3]
        exact h k ⟨h1, by omega, by omega⟩
  · rw [if_neg h1, if_neg h1]
theorem upd_self (f : pa_R) (k : Nat) (v : Int32) : upd f k v k = v := by simp [upd]
theorem upd_ne (f : pa_R) {k j : Nat} (v : Int32) (h : j ≠ k) : upd f k v j = f j := by simp [upd, h]
theorem upd_upd (f : pa_R) (k : Nat) (v w : Int32) : upd (upd f k v) k w = upd f k w := by
  funext j; unfold upd; by_cases h : j = k
  · rw [if_pos h, if_pos h]
  · rw [if_neg h, if_neg h, if_neg h]
theorem upd_comm (f : pa_R) {k j : Nat} (v w : Int32) (h : k ≠ j) : upd (upd f k v) j w = upd (upd f j w) k v := by
  funext i; unfold upd; by_cases h1 : i = j
  · subst h1; rw [if_pos rfl, if_neg (Ne.symm h), if_pos rfl]
  · rw [if_neg h1, if_neg h1]
theorem upd_id (f : pa_R) (k : Nat) : upd f k (f k) = f := by
  funext i; unfold upd; by_cases h : i = k
  · rw [if_pos h, h]
  · rw [if_neg h]
theorem ps_rI_at (σ : ps_S) (k : Nat) (f : pa_R) : (ps_rI σ k f).1 k = f := by simp [ps_rI]
theorem ps_rI_ne (σ : ps_S) {k j : Nat} (f : pa_R) (h : j ≠ k) : (ps_rI σ k f).1 j = σ.1 j := by simp [ps_rI, h]
theorem ps_rI_2 (σ : ps_S) (k : Nat) (f : pa_R) : (ps_rI σ k f).2 = σ.2 := rfl
theorem ps_rD_1 (σ : ps_S) (k : Nat) (f : pa_D) : (ps_rD σ k f).1 = σ.1 := rfl
theorem ps_rD_21 (σ : ps_S) (k : Nat) (f : pa_D) : (ps_rD σ k f).2.1 = σ.2.1 := rfl
theorem ps_rD_at (σ : ps_S) (k : Nat) (f : pa_D) : (ps_rD σ k f).2.2 k = f := by simp [ps_rD]
theorem ps_rD_ne (σ : ps_S) {k j : Nat} (f : pa_D) (h : j ≠ k) : (ps_rD σ k f).2.2 j = σ.2.2 j := by simp [ps_rD, h]
/-! the reference's rows that go on -/
def pg_f (σ : ps_S) : pa_R := fun k => if 25 ≤ k ∧ k < 29 ∧ σ.1 327 23 = nI (k - 25) then σ.1 327 24 else σ.1 335 k
def pg_r (D W : Nat) (σ : ps_S) : pa_R := pa_can D W (pg_f σ)
def pg_e (D : Nat) (σ : ps_S) : pa_D := fun k => if k < D then σ.2.2 336 k else 0
def pg_h (σ : ps_S) : pa_R := fun k => if k < 35 ∨ (949 ≤ k ∧ k < 1850) then σ.1 328 k else 0
theorem pg_rd {D W k : Nat} {σ : ps_S} (h : k < 83) (h1 : k < 25 ∨ 29 ≤ k) (h2 : k < 53 + W ∨ 59 ≤ k) : pg_r D W σ k = σ.1 335 k := by
  unfold pg_r
  rw [pa_can_at ⟨h, by omega, by omega⟩]
  unfold pg_f
  rw [if_neg (by omega)]
theorem pg_up {D W k : Nat} {σ : ps_S} {v : Int32} (h : k < 83) (h1 : k < 25 ∨ 29 ≤ k) (h2 : k < 53 + W ∨ 59 ≤ k) : pg_r D W (ps_rI σ 335 (upd (σ.1 335) k v)) = upd (pg_r D W σ) k v := by
  unfold pg_r
  rw [← pa_can_upd ⟨h, by omega, by omega⟩]
  congr 1
  funext j
  unfold pg_f
  rw [ps_rI_at, ps_rI_ne _ _ (by decide)]
  unfold upd
  by_cases hj : j = k
  · subst hj
    rw [if_neg (by omega), if_pos rfl, if_pos rfl]
  · rw [if_neg hj, if_neg hj]
theorem pg_hd {σ : ps_S} {k : Nat} (h : k < 35 ∨ (949 ≤ k ∧ k < 1850)) : pg_h σ k = σ.1 328 k := by unfold pg_h; rw [if_pos h]
/-- what ticks of the reference leave as it is -/
def pg_fr (σ τ : ps_S) : Prop := (∀ k, k ≠ 333 → k ≠ 334 → k ≠ 335 → τ.1 k = σ.1 k) ∧ τ.2.1 = σ.2.1 ∧ ∀ k, k ≠ 336 → τ.2.2 k = σ.2.2 k
theorem pg_fr.rf (σ : ps_S) : pg_fr σ σ := ⟨fun _ _ _ _ => rfl, rfl, fun _ _ => rfl⟩
theorem pg_fr.tr {σ τ υ : ps_S} (h : pg_fr σ τ) (g : pg_fr τ υ) : pg_fr σ υ := ⟨fun k a b c => (g.1 k a b c).trans (h.1 k a b c), g.2.1.trans h.2.1, fun k a => (g.2.2 k a).trans (h.2.2 k a)⟩
theorem pg_fr.h {σ τ : ps_S} (h : pg_fr σ τ) : pg_h τ = pg_h σ := by unfold pg_h; rw [h.1 328 (by decide) (by decide) (by decide)]
theorem pg_fr.I (σ : ps_S) (k : Nat) (f : pa_R) (hk : k = 333 ∨ k = 334 ∨ k = 335) : pg_fr σ (ps_rI σ k f) := ⟨fun j a b c => ps_rI_ne _ _ (by omega), rfl, fun _ _ => rfl⟩
theorem pg_fr.D (σ : ps_S) (f : pa_D) : pg_fr σ (ps_rD σ 336 f) := ⟨fun j a b c => rfl, rfl, fun _ h => ps_rD_ne _ _ h⟩
/-- rows of words and of reckoning don't count -/
theorem pg_rI_other {D W : Nat} (σ : ps_S) {k : Nat} (f : pa_R) (h1 : k ≠ 327) (h2 : k ≠ 335) : pg_r D W (ps_rI σ k f) = pg_r D W σ := by
  unfold pg_r pg_f
  rw [ps_rI_ne _ _ (Ne.symm h1), ps_rI_ne _ _ (Ne.symm h2)]
theorem pg_eI {D : Nat} (σ : ps_S) {k : Nat} (f : pa_R) : pg_e D (ps_rI σ k f) = pg_e D σ := rfl
theorem pg_rD {D W : Nat} (σ : ps_S) {k : Nat} (f : pa_D) : pg_r D W (ps_rD σ k f) = pg_r D W σ := rfl
/-! the host's numbers -/
def pa_HI (h : pa_R) (D F W : Nat) : Prop :=
  (h 1 = nI D ∧ D ≤ 4) ∧ (h 2 = nI F ∧ F ≤ 12) ∧ (h 3 = nI W ∧ W ≤ 6) ∧ (∀ f, f < F → ∃ d, d < D ∧ h (17 + f) = nI d) ∧ (∀ w, w < W → ∃ f, f < F ∧ h (29 + w) = nI f) ∧
  ∃ li bg ag pa wi ch qu : Nat, (h 10 = nI li ∧ 1 ≤ li ∧ li ≤ 999) ∧ (h 11 = nI bg ∧ bg < li) ∧ (h 12 = nI ag ∧ 1 ≤ ag ∧ ag ≤ 999) ∧ (h 13 = nI pa ∧ 1 ≤ pa ∧ pa ≤ 999) ∧ (h 14 = nI wi ∧ 1 ≤ wi ∧ wi ≤ 999) ∧ (h 15 = nI ch ∧ 1 ≤ ch ∧ ch ≤ 99) ∧ (h 16 = nI qu ∧ 1 ≤ qu ∧ qu ≤ 99)
