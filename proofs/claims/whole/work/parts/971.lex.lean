/-! tokens -/
def tk_go (p : Nat → Bool) (n : Nat) (b : Nat → Nat) : Nat → Nat → Nat
  | 0, s => s
  | m + 1, s => if s < n ∧ p (b s) = true then tk_go p n b m (s + 1) else s
def tk_bl (c : Nat) : Bool := decide (c = 10 ∨ c = 32)
def tk_le (c : Nat) : Bool := decide (97 ≤ c ∧ c ≤ 122)
def tk_di (c : Nat) : Bool := decide (48 ≤ c ∧ c ≤ 57)
section TKG
variable {p : Nat → Bool} {n : Nat} {b : Nat → Nat}
theorem tk_go_le : ∀ m s, s ≤ tk_go p n b m s
  | 0, s => Nat.le_refl _
  | m + 1, s => by
    rw [tk_go]
    by_cases c : s < n ∧ p (b s) = true
    · rw [if_pos c]; have := tk_go_le m (s + 1); omega
    · rw [if_neg c]; exact Nat.le_refl _
theorem tk_go_n : ∀ m s, s ≤ n → tk_go p n b m s ≤ n
  | 0, s, h => h
  | m + 1, s, h => by
    rw [tk_go]
    by_cases c : s < n ∧ p (b s) = true
    · rw [if_pos c]; exact tk_go_n m (s + 1) (by omega)
    · rw [if_neg c]; exact h
theorem tk_go_st {s : Nat} (h : s < n) (hp : p (b s) = true) : tk_go p n b (n - s) s = tk_go p n b (n - (s + 1)) (s + 1) := by
  rw [show n - s = n - (s + 1) + 1 by omega, tk_go, if_pos ⟨h, hp⟩]
theorem tk_go_no {s m : Nat} (h : ¬ (s < n ∧ p (b s) = true)) : tk_go p n b m s = s := by
  cases m with
  | zero => rfl
  | succ m => rw [tk_go, if_neg h]
theorem tk_go_in : ∀ m s i, s ≤ i → i < tk_go p n b m s → p (b i) = true
  | 0, s, i, h1, h2 => by rw [tk_go] at h2; omega
  | m + 1, s, i, h1, h2 => by
    rw [tk_go] at h2
    by_cases c : s < n ∧ p (b s) = true
    · rw [if_pos c] at h2
      by_cases e : i = s
      · rw [e]; exact c.2
      · exact tk_go_in m (s + 1) i (by omega) h2
    · rw [if_neg c] at h2; omega
end TKG
def tk_KW : List (List Nat) := [[104, 111, 115, 116], [108, 105, 109, 105, 116], [98, 97, 99, 107, 103, 114, 111, 117, 110, 100], [97, 103, 101], [112, 97, 117, 115, 101], [119, 105, 110, 100, 111, 119], [99, 104, 117, 110, 107], [113, 117, 101, 117, 101], [100, 101, 118, 105, 99, 101], [115, 112, 101, 101, 100], [102, 105, 108, 101], [111, 110], [119, 114, 105, 116, 101, 114], [116, 111], [119, 97, 110, 116, 115], [105, 102], [116, 104, 101, 110], [101, 108, 115, 101], [101, 110, 100], [116, 105, 109, 101], [116, 111, 108, 100], [97, 110, 100], [111, 114], [110, 111, 116]]
def tk_SG : List Nat := [59, 58, 43, 45, 42, 40, 41, 91, 93, 61, 60, 62]
def tk_w (b : Nat → Nat) (st sp : Nat) : List Nat := (List.range (sp - st)).map (fun i => b (st + i))
def tk_st (n : Nat) (b : Nat → Nat) (s : Nat) : Nat := tk_go tk_bl n b (n - s) s
def tk_sp (n : Nat) (b : Nat → Nat) (st : Nat) : Nat := if n ≤ st then st else if tk_le (b st) = true then tk_go tk_le n b (n - st) st else if tk_di (b st) = true then tk_go tk_di n b (n - st) st else st + 1
def tk_cd (n : Nat) (b : Nat → Nat) (st : Nat) : Nat := if n ≤ st then 26 else if tk_le (b st) = true then tk_KW.idxOf (tk_w b st (tk_sp n b st)) else if tk_di (b st) = true then (if tk_sp n b st - st ≤ 3 then 25 else 27) else if b st ∈ tk_SG then 30 + tk_SG.idxOf (b st) else 27
def tk_val (b : Nat → Nat) (st : Nat) : Nat → Nat
  | 0 => 0
  | k + 1 => 10 * tk_val b st k + (b (st + k) - 48)
def tk_kd (c : Nat) : Int32 := if c ≤ 24 then 1 else if c = 25 then 2 else if c = 26 then 0 else if c = 27 then 4 else 3
/-- what a step of the class's reader leaves -/
def pf_a (σ τ : ps_S) : Prop := (∀ k, k ≠ 11 → τ.1 k = σ.1 k) ∧ (∀ j, j < 5 ∨ 9 ≤ j → τ.1 11 j = σ.1 11 j) ∧ τ.2 = σ.2
theorem pf_a.rf (σ : ps_S) : pf_a σ σ := ⟨fun _ _ => rfl, fun _ _ => rfl, rfl⟩
theorem pf_a.tr {σ τ υ : ps_S} (h : pf_a σ τ) (g : pf_a τ υ) : pf_a σ υ := ⟨fun k a => (g.1 k a).trans (h.1 k a), fun k a => (g.2.1 k a).trans (h.2.1 k a), g.2.2.trans h.2.2⟩
theorem pf_a.I (σ : ps_S) {j : Nat} (v : Int32) (hj : 5 ≤ j ∧ j < 9) : pf_a σ (ps_rI σ 11 (upd (σ.1 11) j v)) := ⟨fun k hk => ps_rI_ne _ _ hk, fun i hi => by rw [ps_rI_at, upd_ne _ _ (by omega)], rfl⟩
/-- the text, where the class's reader finds it -/
def pc_tx (n : Nat) (b : Nat → Nat) (σ : ps_S) : Prop := (n ≤ 900 ∧ ∀ j, j < n → b j < 256) ∧ σ.1 11 4 = nI n ∧ ∀ j, j < n → σ.1 1 j = pa_sb (b j)
theorem pc_tx.a {n : Nat} {b : Nat → Nat} {σ τ : ps_S} (h : pc_tx n b σ) (g : pf_a σ τ) : pc_tx n b τ := ⟨h.1, by rw [g.2.1 4 (by omega)]; exact h.2.1, by rw [g.1 1 (by decide)]; exact h.2.2⟩
def pc_K (n : Nat) (b : Nat → Nat) (st : Nat) (σ : ps_S) : Prop := pc_tx n b σ ∧ σ.1 11 6 = nI st ∧ σ.1 11 7 = nI (tk_sp n b st) ∧ σ.1 11 5 = tk_kd (tk_cd n b st) ∧ (tk_cd n b st = 25 → σ.1 11 8 = nI (tk_val b st (tk_sp n b st - st))) ∧ st ≤ n
theorem pa_sb_dec : ∀ c, c < 256 → (pa_sb c < 97 ↔ c < 97 ∨ 128 ≤ c) ∧ (122 < pa_sb c ↔ 122 < c ∧ c < 128) ∧ (pa_sb c < 48 ↔ c < 48 ∨ 128 ≤ c) ∧ (57 < pa_sb c ↔ 57 < c ∧ c < 128) ∧ (pa_sb c = 10 ↔ c = 10) ∧ (pa_sb c = 32 ↔ c = 32) := by decide +kernel
section CLEX
variable {n : Nat} {b : Nat → Nat} {σ τ : ps_S} {s st c : Nat}
theorem pc_isLe (hc : c < 256) : qX5_isLetter (pa_sb c) σ = some (if tk_le c = true then 1 else 0, σ) := by
  obtain ⟨h1, h2, -⟩ := pa_sb_dec c hc
  unfold qX5_isLetter tk_le
  by_cases e1 : pa_sb c < 97
  · rw [if_pos e1, if_neg]
    rw [decide_eq_true_iff]; have := h1.mp e1; omega
  · rw [if_neg e1]
    have e1' := fun hh => e1 (h1.mpr hh)
    by_cases e2 : 122 < pa_sb c
    · rw [if_pos e2, if_neg]
      rw [decide_eq_true_iff]; have := h2.mp e2; omega
    · rw [if_neg e2, if_pos]
      have e2' := fun hh => e2 (h2.mpr hh)
      rw [decide_eq_true_iff]
      have a1 : ¬ (c < 97 ∨ 128 ≤ c) := e1'
      have a2 : ¬ (122 < c ∧ c < 128) := e2'
      omega
theorem pc_isDi (hc : c < 256) : qX5_isDigit (pa_sb c) σ = some (if tk_di c = true then 1 else 0, σ) := by
  obtain ⟨-, -, h1, h2, -⟩ := pa_sb_dec c hc
  unfold qX5_isDigit tk_di
  by_cases e1 : pa_sb c < 48
  · rw [if_pos e1, if_neg]
    rw [decide_eq_true_iff]; have := h1.mp e1; omega
  · rw [if_neg e1]
    have e1' := fun hh => e1 (h1.mpr hh)
    by_cases e2 : 57 < pa_sb c
    · rw [if_pos e2, if_neg]
      rw [decide_eq_true_iff]; have := h2.mp e2; omega
    · rw [if_neg e2, if_pos]
      have e2' := fun hh => e2 (h2.mpr hh)
      rw [decide_eq_true_iff]
      have a1 : ¬ (c < 48 ∨ 128 ≤ c) := e1'
      have a2 : ¬ (57 < c ∧ c < 128) := e2'
      omega
theorem pc_isBl (hc : c < 256) : qX5_isBlank (pa_sb c) σ = some (if tk_bl c = true then 1 else 0, σ) := by
  obtain ⟨-, -, -, -, h1, h2⟩ := pa_sb_dec c hc
  unfold qX5_isBlank tk_bl
  by_cases e1 : pa_sb c = 10
  · rw [if_pos e1, if_pos]
    rw [decide_eq_true_iff]; exact Or.inl (h1.mp e1)
  · rw [if_neg e1]
    by_cases e2 : pa_sb c = 32
    · rw [if_pos e2, if_pos]
      rw [decide_eq_true_iff]; exact Or.inr (h2.mp e2)
    · rw [if_neg e2, if_neg]
      rw [decide_eq_true_iff]
      exact fun hh => hh.elim (fun h => e1 (h1.mpr h)) (fun h => e2 (h2.mpr h))
theorem pc_adv10 (hn : n ≤ 900) : ∀ (m i s fuel : Nat) (τ : ps_S), m = n - s → i ≤ s → m < fuel → s ≤ n → pc_tx n b τ → τ.1 11 6 = nI s → ps_ok (qX5_advance_10 fuel (nI i) τ) (fun _ υ => pf_a τ υ ∧ υ.1 11 6 = nI (tk_go tk_bl n b (n - s) s)) := by
  intro m
  induction m with
  | zero =>
    intro i s fuel τ e1 e2 e3 e4 t h6
    obtain ⟨f, rfl⟩ : ∃ f, fuel = f + 1 := ⟨fuel - 1, by omega⟩
    have : s = n := by omega
    subst this
    rw [tk_go_no (by omega), qX5_advance_10]
    by_cases c9 : 900 ≤ i
    · exact pz_t (nI_le (a := 900) c9 (by omega)) (pz_done ⟨pf_a.rf _, h6⟩)
    refine pz_e (nI_ge (b := 900) (by omega) (by decide)) ?_
    refine pz_l h6 ?_
    refine pz_l t.2.1 ?_
    exact pz_t (nI_le (Nat.le_refl _) (by omega)) (pz_done ⟨pf_a.rf _, h6⟩)
  | succ m ih =>
    intro i s fuel τ e1 e2 e3 e4 t h6
    obtain ⟨f, rfl⟩ : ∃ f, fuel = f + 1 := ⟨fuel - 1, by omega⟩
    rw [qX5_advance_10]
    refine pz_e (nI_ge (b := 900) (by omega) (by decide)) ?_
    refine pz_l h6 ?_
    refine pz_l t.2.1 ?_
    refine pz_e (nI_ge (by omega) (by omega)) ?_
    refine pz_l h6 ?_
    refine pz_rd rfl (by omega) (by decide) (t.2.2 s (by omega)) ?_
    refine pz_bd' (pc_isBl (t.1.2 s (by omega))) ?_
    by_cases cb : tk_bl (b s) = true
    · rw [if_pos cb, tk_go_st (by omega) cb]
      refine pz_e (by decide) ?_
      refine pz_l h6 ?_
      rw [pz_lt, pz_lt, nI_1, nI_1]
      have k := pf_a.I τ (j := 6) (nI (s + 1)) (by omega)
      refine pz_im (ih (i + 1) (s + 1) f _ (by omega) (by omega) (by omega) (by omega) (t.a k) (by rw [ps_rI_at, upd_self])) (fun _ υ hu => ⟨k.tr hu.1, hu.2⟩)
    · rw [if_neg cb, tk_go_no (fun h => cb h.2)]
      exact pz_t rfl (pz_done ⟨pf_a.rf _, h6⟩)
theorem pc_adv111 (hn : n ≤ 900) : ∀ (m s fuel : Nat) (τ : ps_S), m = n - s → m < fuel → s ≤ n → pc_tx n b τ → τ.1 11 7 = nI s → ps_ok (qX5_advance_111 fuel (nI s) τ) (fun _ υ => pf_a τ υ ∧ υ.1 11 7 = nI (tk_go tk_le n b (n - s) s) ∧ υ.1 11 5 = τ.1 11 5 ∧ υ.1 11 6 = τ.1 11 6) := by
  intro m
  induction m with
  | zero =>
    intro s fuel τ e1 e3 e4 t h7
    obtain ⟨f, rfl⟩ : ∃ f, fuel = f + 1 := ⟨fuel - 1, by omega⟩
    have : s = n := by omega
    subst this
    rw [tk_go_no (by omega), qX5_advance_111]
    refine pz_l t.2.1 ?_
    exact pz_t (nI_le (Nat.le_refl _) (by omega)) (pz_done ⟨pf_a.rf _, h7, rfl, rfl⟩)
  | succ m ih =>
    intro s fuel τ e1 e3 e4 t h7
    obtain ⟨f, rfl⟩ : ∃ f, fuel = f + 1 := ⟨fuel - 1, by omega⟩
    rw [qX5_advance_111]
    refine pz_l t.2.1 ?_
    refine pz_e (nI_ge (by omega) (by omega)) ?_
    refine pz_rd rfl (by omega) (by decide) (t.2.2 s (by omega)) ?_
    refine pz_bd' (pc_isLe (t.1.2 s (by omega))) ?_
    by_cases cb : tk_le (b s) = true
    · rw [if_pos cb, tk_go_st (by omega) cb]
      refine pz_e (by decide) ?_
      rw [pz_lt, pz_lt, nI_1]
      have k := pf_a.I τ (j := 7) (nI (s + 1)) (by omega)
      refine pz_im (ih (s + 1) f _ (by omega) (by omega) (by omega) (t.a k) (by rw [ps_rI_at, upd_self])) (fun _ υ hu => ⟨k.tr hu.1, hu.2.1, ?_, ?_⟩)
      · rw [hu.2.2.1, ps_rI_at, upd_ne _ _ (by decide)]
      · rw [hu.2.2.2, ps_rI_at, upd_ne _ _ (by decide)]
    · rw [if_neg cb, tk_go_no (fun h => cb h.2)]
      exact pz_t rfl (pz_done ⟨pf_a.rf _, h7, rfl, rfl⟩)
end CLEX
