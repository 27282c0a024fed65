/-! the reference's reader steps -/
def pf_g (σ τ : ps_S) : Prop := (∀ k, k ≠ 327 → τ.1 k = σ.1 k) ∧ (∀ j, j ≠ 7 → j ≠ 8 → j ≠ 10 → j ≠ 11 → τ.1 327 j = σ.1 327 j) ∧ τ.2 = σ.2
theorem pf_g.rf (σ : ps_S) : pf_g σ σ := ⟨fun _ _ => rfl, fun _ _ _ _ _ => rfl, rfl⟩
theorem pf_g.tr {σ τ υ : ps_S} (h : pf_g σ τ) (g : pf_g τ υ) : pf_g σ υ := ⟨fun k a => (g.1 k a).trans (h.1 k a), fun k a1 a2 a3 a4 => (g.2.1 k a1 a2 a3 a4).trans (h.2.1 k a1 a2 a3 a4), g.2.2.trans h.2.2⟩
theorem pf_g.I (σ : ps_S) {j : Nat} (v : Int32) (hj : j = 7 ∨ j = 8 ∨ j = 10 ∨ j = 11) : pf_g σ (ps_rI σ 327 (upd (σ.1 327) j v)) := ⟨fun k hk => ps_rI_ne _ _ hk, fun i _ _ _ _ => by rw [ps_rI_at, upd_ne _ _ (by omega)], rfl⟩
def pg_tx (n : Nat) (b : Nat → Nat) (σ : ps_S) : Prop := (n ≤ 900 ∧ ∀ j, j < n → b j < 256) ∧ σ.1 327 9 = nI n ∧ ∀ j, j < n → σ.1 331 j = nI (b j)
theorem pg_tx.a {n : Nat} {b : Nat → Nat} {σ τ : ps_S} (h : pg_tx n b σ) (g : pf_g σ τ) : pg_tx n b τ := ⟨h.1, by rw [g.2.1 9 (by decide) (by decide) (by decide) (by decide)]; exact h.2.1, by rw [g.1 331 (by decide)]; exact h.2.2⟩
def pg_K (n : Nat) (b : Nat → Nat) (st : Nat) (σ : ps_S) : Prop := pg_tx n b σ ∧ σ.1 327 7 = nI st ∧ σ.1 327 8 = nI (tk_sp n b st) ∧ σ.1 327 10 = nI (tk_cd n b st) ∧ (tk_cd n b st = 25 → σ.1 327 11 = nI (tk_val b st (tk_sp n b st - st))) ∧ st ≤ n
section GLEX
variable {n : Nat} {b : Nat → Nat} {σ τ : ps_S} {s st c : Nat}
theorem pg_see0 (t : pg_tx n b σ) (h : n ≤ s) (hs : s < 2 ^ 31) : qX9_see (nI s) σ = some (-1, σ) := by
  unfold qX9_see
  rw [pz_lt, t.2.1, if_pos (nI_le h hs)]
theorem pg_see1 (t : pg_tx n b σ) (h : s < n) : qX9_see (nI s) σ = some (nI (b s), σ) := by
  have := t.1.1
  unfold qX9_see
  rw [pz_lt, t.2.1, if_neg (nI_ge h (by omega)), if_pos (pz_ini (by omega) (by decide)), nI_clamp (by omega), pz_lt, t.2.2 s h]
theorem pg_isLe (hc : c < 256) : qX9_isSmall (nI c) σ = some (if tk_le c = true then 1 else 0, σ) := by
  unfold qX9_isSmall tk_le
  by_cases e1 : c < 97
  · have q : nI c < 97 := Int32.not_le.mp (nI_ge (b := 97) e1 (by decide))
    rw [if_pos q, if_neg (by rw [decide_eq_true_iff]; omega)]
  · have q : ¬ nI c < 97 := Int32.not_lt.mpr (nI_le (a := 97) (b := c) (by omega) (by omega))
    rw [if_neg q]
    by_cases e2 : 122 < c
    · have q2 : 122 < nI c := Int32.not_le.mp (nI_ge (a := 122) e2 (by omega))
      rw [if_pos q2, if_neg (by rw [decide_eq_true_iff]; omega)]
    · have q2 : ¬ 122 < nI c := Int32.not_lt.mpr (nI_le (a := c) (b := 122) (by omega) (by decide))
      rw [if_neg q2, if_pos (by rw [decide_eq_true_iff]; omega)]
theorem pg_isDi (hc : c < 256) : qX9_isDigit (nI c) σ = some (if tk_di c = true then 1 else 0, σ) := by
  unfold qX9_isDigit tk_di
  by_cases e1 : c < 48
  · have q : nI c < 48 := Int32.not_le.mp (nI_ge (b := 48) e1 (by decide))
    rw [if_pos q, if_neg (by rw [decide_eq_true_iff]; omega)]
  · have q : ¬ nI c < 48 := Int32.not_lt.mpr (nI_le (a := 48) (b := c) (by omega) (by omega))
    rw [if_neg q]
    by_cases e2 : 57 < c
    · have q2 : 57 < nI c := Int32.not_le.mp (nI_ge (a := 57) e2 (by omega))
      rw [if_pos q2, if_neg (by rw [decide_eq_true_iff]; omega)]
    · have q2 : ¬ 57 < nI c := Int32.not_lt.mpr (nI_le (a := c) (b := 57) (by omega) (by decide))
      rw [if_neg q2, if_pos (by rw [decide_eq_true_iff]; omega)]
theorem pg_isLe1 : qX9_isSmall (-1) σ = some (0, σ) := rfl
theorem pg_isDi1 : qX9_isDigit (-1) σ = some (0, σ) := rfl
theorem pg_st8 (hn : n ≤ 900) : ∀ (m s fuel : Nat) (τ : ps_S), m = n - s → m < fuel → s ≤ n → pg_tx n b τ → τ.1 327 7 = nI s → ps_ok (qX9_steps_8 fuel τ) (fun _ υ => pf_g τ υ ∧ υ.1 327 7 = nI (tk_go tk_bl n b (n - s) s)) := by
  intro m
  induction m with
  | zero =>
    intro s fuel τ e1 e3 e4 t h7
    obtain ⟨f, rfl⟩ : ∃ f, fuel = f + 1 := ⟨fuel - 1, by omega⟩
    rw [tk_go_no (by omega), qX9_steps_8]
    refine pz_l h7 ?_
    refine pz_bd' (pg_see0 t (by omega) (by omega)) ?_
    refine pz_e (by decide) ?_
    refine pz_l h7 ?_
    refine pz_bd' (pg_see0 t (by omega) (by omega)) ?_
    exact pz_e (by decide) (pz_done ⟨pf_g.rf _, h7⟩)
  | succ m ih =>
    intro s fuel τ e1 e3 e4 t h7
    obtain ⟨f, rfl⟩ : ∃ f, fuel = f + 1 := ⟨fuel - 1, by omega⟩
    have hb := t.1.2 s (by omega)
    have k := pf_g.I τ (j := 7) (nI (s + 1)) (by omega)
    have nx : tk_bl (b s) = true → ps_ok (qX9_steps_8 f (ps_rI τ 327 (upd (τ.1 327) 7 (nI (s + 1))))) (fun _ υ => pf_g τ υ ∧ υ.1 327 7 = nI (tk_go tk_bl n b (n - s) s)) := fun cb => by
      rw [tk_go_st (by omega) cb]
      exact pz_im (ih (s + 1) f _ (by omega) (by omega) (by omega) (t.a k) (by rw [ps_rI_at, upd_self])) (fun _ υ hu => ⟨k.tr hu.1, hu.2⟩)
    rw [qX9_steps_8]
    refine pz_l h7 ?_
    refine pz_bd' (pg_see1 t (by omega)) ?_
    by_cases c10 : b s = 10
    · refine pz_t (by rw [c10]; rfl) ?_
      refine pz_l h7 ?_
      rw [pz_lt, nI_1]
      exact nx (by unfold tk_bl; rw [decide_eq_true_iff]; exact Or.inl c10)
    refine pz_e (pc_lit (k := 10) (by omega) (by decide) c10) ?_
    refine pz_l h7 ?_
    refine pz_bd' (pg_see1 t (by omega)) ?_
    by_cases c32 : b s = 32
    · refine pz_t (by rw [c32]; rfl) ?_
      refine pz_l h7 ?_
      rw [pz_lt, nI_1]
      exact nx (by unfold tk_bl; rw [decide_eq_true_iff]; exact Or.inr c32)
    refine pz_e (pc_lit (k := 32) (by omega) (by decide) c32) ?_
    rw [tk_go_no (by unfold tk_bl; rw [decide_eq_true_iff]; omega)]
    exact pz_done ⟨pf_g.rf _, h7⟩
theorem pg_st89 (hn : n ≤ 900) : ∀ (m s fuel : Nat) (τ : ps_S), m = n - s → m < fuel → s ≤ n → pg_tx n b τ → τ.1 327 8 = nI s → ps_ok (qX9_steps_89 fuel τ) (fun _ υ => pf_g τ υ ∧ υ.1 327 8 = nI (tk_go tk_le n b (n - s) s) ∧ υ.1 327 7 = τ.1 327 7) := by
  intro m
  induction m with
  | zero =>
    intro s fuel τ e1 e3 e4 t h8
    obtain ⟨f, rfl⟩ : ∃ f, fuel = f + 1 := ⟨fuel - 1, by omega⟩
    rw [tk_go_no (by omega), qX9_steps_89]
    refine pz_l h8 ?_
    refine pz_bd' (pg_see0 t (by omega) (by omega)) ?_
    refine pz_bd' pg_isLe1 ?_
    exact pz_t rfl (pz_done ⟨pf_g.rf _, h8, rfl⟩)
  | succ m ih =>
    intro s fuel τ e1 e3 e4 t h8
    obtain ⟨f, rfl⟩ : ∃ f, fuel = f + 1 := ⟨fuel - 1, by omega⟩
    rw [qX9_steps_89]
    refine pz_l h8 ?_
    refine pz_bd' (pg_see1 t (by omega)) ?_
    refine pz_bd' (pg_isLe (t.1.2 s (by omega))) ?_
    by_cases cb : tk_le (b s) = true
    · rw [if_pos cb, tk_go_st (by omega) cb]
      refine pz_e (by decide) ?_
      refine pz_l h8 ?_
      rw [pz_lt, nI_1]
      have k := pf_g.I τ (j := 8) (nI (s + 1)) (by omega)
      refine pz_im (ih (s + 1) f _ (by omega) (by omega) (by omega) (t.a k) (by rw [ps_rI_at, upd_self])) (fun _ υ hu => ⟨k.tr hu.1, hu.2.1, ?_⟩)
      rw [hu.2.2, ps_rI_at, upd_ne _ _ (by decide)]
    · rw [if_neg cb, tk_go_no (fun h => cb h.2)]
      exact pz_t rfl (pz_done ⟨pf_g.rf _, h8, rfl⟩)
theorem pg_st146 (hn : n ≤ 900) : ∀ (m k fuel : Nat) (τ : ps_S), m = n - (st + k) → m < fuel → st + k ≤ n → (∀ i, i < k → tk_di (b (st + i)) = true) → (k ≤ 3 → τ.1 327 11 = nI (tk_val b st k)) → pg_tx n b τ → τ.1 327 8 = nI (st + k) → τ.1 327 7 = nI st → ps_ok (qX9_steps_146 fuel τ) (fun _ υ => pf_g τ υ ∧ υ.1 327 8 = nI (tk_go tk_di n b (n - (st + k)) (st + k)) ∧ υ.1 327 7 = nI st ∧ (tk_go tk_di n b (n - (st + k)) (st + k) - st ≤ 3 → υ.1 327 11 = nI (tk_val b st (tk_go tk_di n b (n - (st + k)) (st + k) - st)))) := by
  intro m
  induction m with
  | zero =>
    intro k fuel τ e1 e3 e4 hd hv t h8 h7
    obtain ⟨f, rfl⟩ : ∃ f, fuel = f + 1 := ⟨fuel - 1, by omega⟩
    rw [tk_go_no (by omega), qX9_steps_146]
    refine pz_l h8 ?_
    refine pz_bd' (pg_see0 t (by omega) (by omega)) ?_
    refine pz_bd' pg_isDi1 ?_
    refine pz_t rfl (pz_done ⟨pf_g.rf _, h8, h7, fun h => ?_⟩)
    rw [Nat.add_sub_cancel_left] at h ⊢
    exact hv h
  | succ m ih =>
    intro k fuel τ e1 e3 e4 hd hv t h8 h7
    obtain ⟨f, rfl⟩ : ∃ f, fuel = f + 1 := ⟨fuel - 1, by omega⟩
    rw [qX9_steps_146]
    refine pz_l h8 ?_
    refine pz_bd' (pg_see1 t (by omega)) ?_
    refine pz_bd' (pg_isDi (t.1.2 _ (by omega))) ?_
    by_cases cb : tk_di (b (st + k)) = true
    · have cb' := cb
      unfold tk_di at cb'
      rw [decide_eq_true_iff] at cb'
      have hd' : ∀ i, i < k + 1 → tk_di (b (st + i)) = true := fun i hi => by
        by_cases e : i = k
        · subst e; exact cb
        · exact hd i (by omega)
      rw [if_pos cb, tk_go_st (by omega) cb]
      refine pz_e (by decide) ?_
      refine pz_l h8 ?_
      refine pz_l h7 ?_
      rw [nI_sub (by omega : st ≤ st + k), Nat.add_sub_cancel_left]
      by_cases c3 : 3 ≤ k
      · refine pz_t (nI_le (a := 3) c3 (by omega)) ?_
        refine pz_l h8 ?_
        rw [pz_lt, nI_1]
        have kk := pf_g.I τ (j := 8) (nI (st + k + 1)) (by omega)
        refine pz_im (ih (k + 1) f _ (by omega) (by omega) (by omega) hd' (fun hk => by omega) (t.a kk) (by rw [ps_rI_at, upd_self]; rfl) (by rw [ps_rI_at, upd_ne _ _ (by decide)]; exact h7)) (fun z υ hu => ⟨kk.tr hu.1, hu.2⟩)
      · refine pz_e (nI_ge (b := 3) (by omega) (by decide)) ?_
        refine pz_l (hv (by omega)) ?_
        refine pz_l h8 ?_
        refine pz_bd' (pg_see1 t (by omega)) ?_
        rw [pz_lt]
        have hb := tk_val_le (b := b) (st := st) k (fun i hi => by
          have := hd i hi
          unfold tk_di at this
          rw [decide_eq_true_iff] at this
          exact this.2)
        have ev : (10 : Int32) * nI (tk_val b st k) + nI (b (st + k)) - 48 = nI (tk_val b st (k + 1)) := by
          rw [tk_val, show (10 : Int32) * nI (tk_val b st k) = nI (10 * tk_val b st k) from nI_mul 10 _, nI_add, show (48 : Int32) = nI 48 from rfl, nI_sub (by omega)]
          congr 1
          omega
        rw [ev]
        have k1 := pf_g.I τ (j := 11) (nI (tk_val b st (k + 1))) (by omega)
        have a8 : (ps_rI τ 327 (upd (τ.1 327) 11 (nI (tk_val b st (k + 1))))).1 327 8 = nI (st + k) := by rw [ps_rI_at, upd_ne _ _ (by decide)]; exact h8
        have a7 : (ps_rI τ 327 (upd (τ.1 327) 11 (nI (tk_val b st (k + 1))))).1 327 7 = nI st := by rw [ps_rI_at, upd_ne _ _ (by decide)]; exact h7
        have a11 : (ps_rI τ 327 (upd (τ.1 327) 11 (nI (tk_val b st (k + 1))))).1 327 11 = nI (tk_val b st (k + 1)) := by rw [ps_rI_at, upd_self]
        generalize ps_rI τ 327 (upd (τ.1 327) 11 (nI (tk_val b st (k + 1)))) = τ1 at k1 a8 a7 a11 ⊢
        refine pz_l a8 ?_
        rw [pz_lt, nI_1]
        have kk := pf_g.I τ1 (j := 8) (nI (st + k + 1)) (by omega)
        refine pz_im (ih (k + 1) f _ (by omega) (by omega) (by omega) hd' (fun hk => by rw [ps_rI_at, upd_ne _ _ (by decide)]; exact a11) (t.a (k1.tr kk)) (by rw [ps_rI_at, upd_self]; rfl) (by rw [ps_rI_at, upd_ne _ _ (by decide)]; exact a7)) (fun z υ hu => ⟨(k1.tr kk).tr hu.1, hu.2⟩)
    · rw [if_neg cb, tk_go_no (fun h => cb h.2)]
      refine pz_t rfl (pz_done ⟨pf_g.rf _, h8, h7, fun h => ?_⟩)
      rw [Nat.add_sub_cancel_left] at h ⊢
      exact hv h
/-- which sign -/
def tk_sgn (c k : Nat) : Nat := if c ∈ tk_SG ∧ tk_SG.idxOf c < k then 30 + tk_SG.idxOf c else 27
theorem pg_st254 (hst : st < n) : ∀ (m k fuel : Nat) (τ : ps_S), k + m = 12 → m < fuel → pg_tx n b τ → τ.1 327 7 = nI st → τ.1 327 10 = nI (tk_sgn (b st) k) → ps_ok (qX9_steps_254 fuel (nI k) τ) (fun _ υ => pf_g τ υ ∧ υ.1 327 8 = τ.1 327 8 ∧ υ.1 327 7 = nI st ∧ υ.1 327 10 = nI (tk_sgn (b st) 12)) := by
  intro m
  have hl : pm_len.getD 0 0 = 12 := rfl
  induction m with
  | zero =>
    intro k fuel τ e1 e3 t h7 h10
    obtain ⟨f, rfl⟩ : ∃ f, fuel = f + 1 := ⟨fuel - 1, by omega⟩
    have : k = 12 := by omega
    subst this
    rw [qX9_steps_254]
    refine pz_bd' (pq_len (by decide)) ?_
    rw [hl]
    exact pz_t (nI_le (Nat.le_refl _) (by decide)) (pz_done ⟨pf_g.rf _, rfl, h7, h10⟩)
  | succ m ih =>
    intro k fuel τ e1 e3 t h7 h10
    obtain ⟨f, rfl⟩ : ∃ f, fuel = f + 1 := ⟨fuel - 1, by omega⟩
    have hb := t.1.2 st hst
    have hc := tk_ch1 0 (by decide) k (by rw [hl]; omega)
    rw [qX9_steps_254]
    refine pz_bd' (pq_len (by decide)) ?_
    rw [hl]
    refine pz_e (nI_ge (by omega) (by decide)) ?_
    refine pz_l h7 ?_
    refine pz_bd' (pg_see1 t hst) ?_
    refine pz_bd' (pq_char (by decide) (by rw [hl]; omega)) ?_
    obtain ⟨s1, s2⟩ := tk_sg1 k (by omega)
    by_cases q : b st = tk_ch 0 k
    · refine pz_t (by rw [q]) ?_
      rw [pz_lt, pz_lt, nI_1, show (30 : Int32) + nI k = nI (30 + k) from nI_add 30 k]
      have kk := pf_g.I τ (j := 10) (nI (30 + k)) (by omega)
      refine pz_im (ih (k + 1) f _ (by omega) (by omega) (t.a kk) (by rw [ps_rI_at, upd_ne _ _ (by decide)]; exact h7) ?_) (fun z υ hu => ⟨kk.tr hu.1, ?_, hu.2.2⟩)
      · rw [ps_rI_at, upd_self]
        unfold tk_sgn
        rw [q, s1, if_pos ⟨s2, by omega⟩]
      · rw [hu.2.1, ps_rI_at, upd_ne _ _ (by decide)]
    · refine pz_e (pc_lit (by omega) (by omega) q) ?_
      rw [pz_lt, nI_1]
      refine ih (k + 1) f τ (by omega) (by omega) t h7 ?_
      rw [h10]
      unfold tk_sgn
      by_cases q2 : b st ∈ tk_SG ∧ tk_SG.idxOf (b st) < k
      · rw [if_pos q2, if_pos ⟨q2.1, by omega⟩]
      · rw [if_neg q2, if_neg]
        intro hh
        have hk : tk_SG.idxOf (b st) = k := by
          have : ¬ tk_SG.idxOf (b st) < k := fun h => q2 ⟨hh.1, h⟩
          omega
        have := (tk_sg2 _ hb hh.1).2.1
        rw [hk] at this
        exact q this.symm
end GLEX
