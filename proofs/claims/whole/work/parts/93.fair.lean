/-! how fair writers are served -/
def sp_S (m : Nat → Nat) : Nat → Nat
  | 0 => 0
  | n + 1 => sp_S m n + m n
def sp_Q (m : Nat → Nat) : Nat → Nat
  | 0 => 0
  | n + 1 => sp_Q m n + m n * m n
theorem sp_S_le {m : Nat → Nat} {n K : Nat} (h : ∀ i, i < n → m i ≤ K) : sp_S m n ≤ n * K := by
  induction n with
  | zero => exact Nat.zero_le _
  | succ n ih =>
    have h1 := ih (fun i hi => h i (by omega))
    have h2 := h n (by omega)
    rw [sp_S, Nat.add_mul, Nat.one_mul]
    omega
theorem sp_Q_le {m : Nat → Nat} {n K : Nat} (h : ∀ i, i < n → m i ≤ K) : sp_Q m n ≤ n * (K * K) := by
  induction n with
  | zero => exact Nat.zero_le _
  | succ n ih =>
    have h1 := ih (fun i hi => h i (by omega))
    have h2 := Nat.mul_le_mul (h n (by omega)) (h n (by omega))
    rw [sp_Q, Nat.add_mul, Nat.one_mul]
    omega
theorem sp_SQ {m : Nat → Nat} : ∀ n, sp_S m n ≤ sp_Q m n
  | 0 => Nat.le_refl _
  | n + 1 => by
    have h1 := sp_SQ (m := m) n
    have h2 : m n ≤ m n * m n := by
      rcases Nat.eq_zero_or_pos (m n) with h | h
      · rw [h]; exact Nat.zero_le _
      · exact Nat.le_mul_of_pos_left _ h
    rw [sp_S, sp_Q]
    omega
section FAIR
variable {H : pa_H} {x : pa_X} {n : Nat} {P : Nat → pa_X} {im : pa_Im} {tr : pa_Tr} {tp : pa_Tp} {fl : Int32 × Int32} {σ0 σ τ : ps_S} {p : pa_P} {y z : pa_X} {t : Nat}
/-- what writers wrote meanwhile -/
theorem pa_made (hI : pa_WH H) (hp : pa_PI H.1 p) {k : Nat} (iv : pa_V H t y) (ht : t + k ≤ 3000000) (hk : k ≤ 999) : ∃ m : Nat → Nat, (∀ i, m i ≤ 599400) ∧ ∀ i, i < 6 → (pa_tks H p k y).1 (71 + i) - y.1 (71 + i) = nI (m i) := by
  have hu := (pa_tks_up hI hp k t y iv ht).2
  have : ∀ i, ∃ v, v ≤ 599400 ∧ (i < 6 → (pa_tks H p k y).1 (71 + i) - y.1 (71 + i) = nI v) := by
    intro i
    by_cases c : i < 6
    · obtain ⟨v, v1, v2⟩ := (hu i c).1.sub
      exact ⟨v, by omega, fun _ => v2⟩
    · exact ⟨0, by omega, fun h => absurd h c⟩
  exact ⟨fun i => (this i).choose, fun i => (this i).choose_spec.1, fun i hi => (this i).choose_spec.2 hi⟩
theorem pg_pagesL {y1 : Int32} {r : Nat → Int32} (h335 : ∀ i, i < 6 → σ.1 335 (71 + i) = r i) : ∀ (m i fuel : Nat) (q : pa_R) (τ : ps_S), i + m = 6 → m < fuel → τ = ps_rI σ 339 q → ps_ok (qX9_laysPages_40 y1 fuel (nI i) τ) (fun _ υ => ∃ q', υ = ps_rI σ 339 q' ∧ ∀ j, j < 6 → q' j = if i ≤ j then r j - q j else q j) := by
  intro m
  induction m with
  | zero =>
    intro i fuel q τ h1 h2 e
    obtain ⟨f, rfl⟩ : ∃ f, fuel = f + 1 := ⟨fuel - 1, by omega⟩
    rw [qX9_laysPages_40]
    exact pz_t (nI_le (a := 6) (by omega) (by omega)) (pz_done ⟨q, e, fun j hj => by rw [if_neg (by omega)]⟩)
  | succ m ih =>
    intro i fuel q τ h1 h2 e
    obtain ⟨f, rfl⟩ : ∃ f, fuel = f + 1 := ⟨fuel - 1, by omega⟩
    rw [qX9_laysPages_40]
    refine pz_e (nI_ge (b := 6) (by omega) (by omega)) ?_
    refine pz_rd (k := 71 + i) (pz_a71 i) (by omega) (by decide) (v := r i) (by rw [e, ps_rI_ne _ _ (by decide)]; exact h335 i (by omega)) ?_
    refine pz_rd (k := i) rfl (by omega) (by decide) (v := q i) (by rw [e, ps_rI_at]) ?_
    refine pz_wr (k := i) rfl (by omega) (by decide) (fun υ eu => ?_)
    rw [pz_lt, nI_1]
    have eu' : υ = ps_rI σ 339 (upd q i (r i - q i)) := by rw [eu, e, ps_rI_at, ps_rI_2']
    refine pz_im (ih (i + 1) f (upd q i (r i - q i)) υ (by omega) (by omega) eu') (fun _ ω hω => ?_)
    obtain ⟨q', e1, e2⟩ := hω
    refine ⟨q', e1, fun j hj => ?_⟩
    rw [e2 j hj]
    by_cases c : j = i
    · subst c
      rw [if_neg (by omega), if_pos (Nat.le_refl _), upd_self]
    · rw [upd_ne _ _ c]
      by_cases c2 : i ≤ j
      · rw [if_pos c2, if_pos (by omega)]
      · rw [if_neg c2, if_neg (by omega)]
theorem pg_pages {k : Nat} (hI : pa_WH H) (w : pg_W H x n P im tr tp fl σ) (iv : pa_V H t x) (ht : t + k ≤ 3000000) (hk : k ≤ 999) : ps_ok (qX9_laysPages (nI k) σ) (fun _ τ => pg_kp σ τ ∧ pg_W H x n P im tr tp fl τ ∧ ∀ i, i < 6 → τ.1 339 i = (pa_tks H (pa_p0 H.1) k x).1 (71 + i) - x.1 (71 + i)) := by
  obtain ⟨hp, -⟩ := pa_p0I hI
  unfold qX9_laysPages
  refine pz_bd (w.go hI) (fun _ σ2 g => ?_)
  have l1 : qX9_laysPages_6 (nI k) ps_N 0 σ2 = some (nI 6, ps_rI σ2 339 (pz_cp (σ2.1 335) (σ2.1 339) 71 0 0 6)) := pz_cpI (F := qX9_laysPages_6 (nI k)) (a := fun _ x => 71 + x) (b := fun _ x => x) (fun _ => True) (fun n x σ => rfl) rfl (by decide) (fun σ k _ _ => nI_add 71 k) (fun σ k _ _ => by rw [Nat.zero_add]) (by decide) (by decide) (by decide) (by decide) (Or.inl (by decide)) (fun _ _ _ _ _ => trivial) 6 0 ps_N σ2 (by decide) (by unfold ps_N; decide) trivial
  refine pz_bd' l1 ?_
  have q1 : ∀ i, i < 6 → pz_cp (σ2.1 335) (σ2.1 339) 71 0 0 6 i = x.1 (71 + i) := by
    intro i hi
    have := pz_cp_in (s := σ2.1 335) (d := σ2.1 339) (A := 71) (B := 0) (i := 0) (N := 6) (k := i) (by omega) hi
    rw [Nat.zero_add] at this
    rw [this, ← g.1.1, pg_rd (by omega) (by omega) (by omega)]
  generalize pz_cp (σ2.1 335) (σ2.1 339) 71 0 0 6 = q0 at q1 ⊢
  have k3 : pg_kp σ2 (ps_rI σ2 339 q0) := pg_kp.I _ _ (by omega)
  have g3 : pg_T H.1 H.2.1 H.2.2.2 (ps_rI σ2 339 q0) (ps_rI σ2 339 q0) x.1 x.2 (pa_p0 H.1) := by
    obtain ⟨a1, a2, a3, a4, a5⟩ := g.1
    refine ⟨by rw [pg_rI_other _ _ (by decide) (by decide), a1], a2, ?_, ?_, pg_fr.rf _⟩
    · rw [← a3]; unfold pg_h; rw [ps_rI_ne _ _ (by decide)]
    · unfold pg_p; rw [ps_rI_ne _ _ (by decide)]; exact a4
  refine pz_bd (pg_ticks hI.1 hI.2 hp hk iv ht g3) (fun _ σ3 g4 => ?_)
  have e339 : σ3.1 339 = q0 := by rw [g4.2.2.2.2.1 339 (by decide) (by decide) (by decide), ps_rI_at]
  have h335 : ∀ i, i < 6 → σ3.1 335 (71 + i) = (pa_tks H (pa_p0 H.1) k x).1 (71 + i) := fun i hi => by
    have : pg_r H.2.1 H.2.2.2 σ3 = (pa_tks H (pa_p0 H.1) k x).1 := g4.1
    rw [← this, pg_rd (by omega) (by omega) (by omega)]
  refine pz_bd (pg_pagesL (r := fun i => (pa_tks H (pa_p0 H.1) k x).1 (71 + i)) h335 6 0 ps_N q0 σ3 (by decide) (by unfold ps_N; decide) (ps_rI_id σ3 339 e339.symm).symm) (fun _ σ4 h4 => ?_)
  obtain ⟨q', e1, e2⟩ := h4
  have k4 : pg_kp σ σ4 := (g.2.1.tr k3).tr (g4.2.2.2.2.kp.tr (by rw [e1]; exact pg_kp.I _ _ (by omega)))
  refine pz_done ⟨k4, k4.W w, fun i hi => ?_⟩
  rw [e1, ps_rI_at, e2 i hi, if_pos (Nat.zero_le _), q1 i hi]
theorem pc_fairL {y1 y2 : Int32} {m : Nat → Nat} (hI : pa_WH H) (g : pc_Y H x n P im tr tp fl σ0 p τ y) (hm : ∀ i, i < 6 → y.1 (71 + i) - x.1 (71 + i) = nI (m i)) (hb : ∀ i, m i ≤ 599400) : ∀ (j i fuel : Nat), i + j = H.2.2.2 → j < fuel → ps_ok (qX8_fair_41 y1 y2 fuel (lN (sp_S m i)) (lN (sp_Q m i)) (nI i) τ) (fun z υ => z = (lN (sp_S m H.2.2.2), lN (sp_Q m H.2.2.2), nI H.2.2.2) ∧ υ = τ) := by
  intro j
  have hW := hI.1.2.2.1.2
  have hWe := hI.1.2.2.1.1
  induction j with
  | zero =>
    intro i fuel h1 h2
    obtain ⟨f, rfl⟩ : ∃ f, fuel = f + 1 := ⟨fuel - 1, by omega⟩
    have : i = H.2.2.2 := by omega
    rw [qX8_fair_41, this]
    refine pz_l (g.1.2.1.1.2.2.2.2.2.2.2.2.2.1.trans hWe) ?_
    exact pz_t (nI_le (by omega) (by omega)) (pz_done ⟨rfl, rfl⟩)
  | succ j ih =>
    intro i fuel h1 h2
    obtain ⟨f, rfl⟩ : ∃ f, fuel = f + 1 := ⟨fuel - 1, by omega⟩
    rw [qX8_fair_41]
    refine pz_l (g.1.2.1.1.2.2.2.2.2.2.2.2.2.1.trans hWe) ?_
    refine pz_e (nI_ge (by omega) (by omega)) ?_
    refine pc_l16 g.T (i := i) (by omega) rfl ?_
    refine pc_l16 g.2.2.T (i := i) (by omega) rfl ?_
    have := hb i
    rw [hm i (by omega), pz_lt, nI_l (by omega), pz_lt, pz_lt, lN_add, lN_mul, lN_add, pz_lt, nI_1]
    exact ih (i + 1) f (by omega) (by omega)
theorem pg_fairL {y1 y2 : Int32} {m : Nat → Nat} (hI : pa_WH H) (w : pg_W H x n P im tr tp fl τ) (hm : ∀ i, i < 6 → τ.1 339 i = nI (m i)) (hb : ∀ i, m i ≤ 599400) : ∀ (j i fuel : Nat), i + j = H.2.2.2 → j < fuel → ps_ok (qX9_fair_48 y1 y2 fuel (lN (sp_S m i)) (lN (sp_Q m i)) (nI i) τ) (fun z υ => z = (lN (sp_S m H.2.2.2), lN (sp_Q m H.2.2.2), nI H.2.2.2) ∧ υ = τ) := by
  intro j
  have hW := hI.1.2.2.1.2
  have hWe := hI.1.2.2.1.1
  induction j with
  | zero =>
    intro i fuel h1 h2
    obtain ⟨f, rfl⟩ : ∃ f, fuel = f + 1 := ⟨fuel - 1, by omega⟩
    have : i = H.2.2.2 := by omega
    rw [qX9_fair_48, this]
    refine pz_l ((w.hd (by omega)).trans hWe) ?_
    exact pz_t (nI_le (by omega) (by omega)) (pz_done ⟨rfl, rfl⟩)
  | succ j ih =>
    intro i fuel h1 h2
    obtain ⟨f, rfl⟩ : ∃ f, fuel = f + 1 := ⟨fuel - 1, by omega⟩
    rw [qX9_fair_48]
    refine pz_l ((w.hd (by omega)).trans hWe) ?_
    refine pz_e (nI_ge (by omega) (by omega)) ?_
    have := hb i
    have hi6 : i < 6 := by omega
    refine pz_rd (k := i) rfl hi6 (by decide) (hm i hi6) ?_
    rw [pz_lt, nI_l (by omega), lN_add]
    refine pz_rd (k := i) rfl hi6 (by decide) (hm i hi6) ?_
    refine pz_rd (k := i) rfl hi6 (by decide) (hm i hi6) ?_
    rw [pz_lt, nI_l (by omega), lN_mul, lN_add, pz_lt, nI_1]
    exact ih (i + 1) f (by omega) (by omega)
end FAIR
theorem pw_fair {T : Nat} {σ : ps_S} {p1 p2 : Int32} (w : pw_W T σ) (hT : T ≤ 2990000) : pw_call T (qX8_fair p1 p2) (qX9_fair p1 p2) σ := by
  obtain ⟨H, x, n, P, im, tr, tp, fl, hW, hc, hg⟩ := w
  obtain ⟨hp, -⟩ := pa_p0I hW.1
  obtain ⟨t, t1, iv⟩ := hW.2.1
  have hWl := hW.1.1.2.2.1.2
  by_cases c : p2 < 0 ∨ 1 < p2
  · refine pw_query (a := -2) hW hc hg ?_ (fun τ hg => ?_)
    · unfold qX8_fair
      refine pz_bd' (pc_i0 c) ?_
      exact pz_t rfl (pz_done ⟨rfl, pc_kp.rf _, hc.1.2.2⟩)
    · unfold qX9_fair
      refine pg_th hg (fun τ1 hg1 k1 => ?_)
      refine pz_bd' (pg_i0 (lo := 0) (hi := 1) (by decide) (by decide) c) ?_
      exact pz_t rfl (pz_done ⟨rfl, k1⟩)
  · by_cases c2 : p1 < 1 ∨ 999 < p1
    · refine pw_query (a := -3) hW hc hg ?_ (fun τ hg => ?_)
      · unfold qX8_fair
        refine pz_bd' (pc_i1 (fun hh => c (Or.inl hh)) (fun hh => c (Or.inr hh))) ?_
        refine pz_e (by decide) ?_
        refine pz_bd' (pc_i0 c2) ?_
        exact pz_t rfl (pz_done ⟨rfl, pc_kp.rf _, hc.1.2.2⟩)
      · unfold qX9_fair
        refine pg_th hg (fun τ1 hg1 k1 => ?_)
        refine pz_bd' (pg_i1 (lo := 0) (hi := 1) (by decide) (by decide) (fun hh => c (Or.inl hh)) (fun hh => c (Or.inr hh))) ?_
        refine pz_e (by decide) ?_
        refine pz_bd' (pg_i0 (lo := 1) (hi := 999) (by decide) (by decide) c2) ?_
        exact pz_t rfl (pz_done ⟨rfl, k1⟩)
    · obtain ⟨k, m1, m2, rfl⟩ := pa_num 1 999 (by decide) (by decide) c2
      obtain ⟨m, hb, hm⟩ := pa_made (p := pa_p0 H.1) hW.1 hp iv (show t + k ≤ 3000000 by omega) m2
      have bS := sp_S_le (m := m) (n := H.2.2.2) (K := 599400) (fun i _ => hb i)
      have bQ := sp_Q_le (m := m) (n := H.2.2.2) (K := 599400) (fun i _ => hb i)
      have hSQ := sp_SQ (m := m) H.2.2.2
      have bS' : sp_S m H.2.2.2 ≤ 3596400 := by omega
      have bSS := Nat.mul_le_mul bS' bS'
      have bQ' : sp_Q m H.2.2.2 ≤ 6 * (599400 * 599400) := Nat.le_trans bQ (Nat.mul_le_mul_right _ hWl)
      have bB := Nat.mul_le_mul hWl bQ'
      have eW : H.1 3 = nI H.2.2.2 := hW.1.1.2.2.1.1
      refine pw_query (a := if sp_S m H.2.2.2 = 0 then -1 else if p2 = 0 then lN (sp_S m H.2.2.2 * sp_S m H.2.2.2) / lN (Nat.gcd (sp_S m H.2.2.2 * sp_S m H.2.2.2) (H.2.2.2 * sp_Q m H.2.2.2)) else lN (H.2.2.2 * sp_Q m H.2.2.2) / lN (Nat.gcd (sp_S m H.2.2.2 * sp_S m H.2.2.2) (H.2.2.2 * sp_Q m H.2.2.2))) hW hc hg ?_ (fun τ hg => ?_)
      · unfold qX8_fair
        refine pz_bd' (pc_i1 (fun hh => c (Or.inl hh)) (fun hh => c (Or.inr hh))) ?_
        refine pz_e (by decide) ?_
        refine pz_bd' (pc_i1 (fun hh => c2 (Or.inl hh)) (fun hh => c2 (Or.inr hh))) ?_
        refine pz_e (by decide) ?_
        refine pz_bd (pc_goOn hW.1 hc iv (by omega) m2) (fun _ τ g => ?_)
        refine pz_bd (pc_fairL hW.1 g hm hb H.2.2.2 0 ps_N (by omega) (by unfold ps_N; omega)) (fun z υ ez => ?_)
        obtain ⟨rfl, rfl⟩ := ez
        show ps_ok (if lg_cmp (lN (sp_S m H.2.2.2)) 0 = 0 then _ else _) _
        by_cases q : sp_S m H.2.2.2 = 0
        · rw [if_pos q]
          exact pz_t ((lN_c0 (by omega)).mpr q) (pz_done ⟨rfl, g.K⟩)
        · rw [if_neg q]
          have hWp : 0 < H.2.2.2 := by
            rcases Nat.eq_zero_or_pos H.2.2.2 with h | h
            · rw [h] at q; exact absurd rfl q
            · exact h
          have hBp : 0 < H.2.2.2 * sp_Q m H.2.2.2 := Nat.mul_pos hWp (by omega)
          refine pz_e (fun h => q ((lN_c0 (by omega)).mp h)) ?_
          refine pz_l (g.1.2.1.1.2.2.2.2.2.2.2.2.2.1.trans eW) ?_
          rw [nI_l (by omega), lN_mul, lN_mul]
          refine pz_bd (pc_low (by omega) (by omega) hBp) (fun v υ' ev => ?_)
          obtain ⟨rfl, rfl⟩ := ev
          exact pz_done ⟨rfl, g.K⟩
      · unfold qX9_fair
        refine pg_th hg (fun τ1 hg1 k1 => ?_)
        refine pz_bd' (pg_i1 (lo := 0) (hi := 1) (by decide) (by decide) (fun hh => c (Or.inl hh)) (fun hh => c (Or.inr hh))) ?_
        refine pz_e (by decide) ?_
        refine pz_bd' (pg_i1 (lo := 1) (hi := 999) (by decide) (by decide) (fun hh => c2 (Or.inl hh)) (fun hh => c2 (Or.inr hh))) ?_
        refine pz_e (by decide) ?_
        refine pz_bd (pg_pages hW.1 hg1 iv (by omega) m2) (fun _ τ2 h2 => ?_)
        obtain ⟨k2, hg2, h339⟩ := h2
        have K := k1.tr k2
        refine pz_bd (pg_fairL hW.1 hg2 (fun i hi => (h339 i hi).trans (hm i hi)) hb H.2.2.2 0 ps_N (by omega) (by unfold ps_N; omega)) (fun z υ ez => ?_)
        obtain ⟨rfl, rfl⟩ := ez
        show ps_ok (if lg_cmp (lN (sp_S m H.2.2.2)) 0 = 0 then _ else _) _
        by_cases q : sp_S m H.2.2.2 = 0
        · rw [if_pos q]
          exact pz_t ((lN_c0 (by omega)).mpr q) (pz_done ⟨rfl, K⟩)
        · rw [if_neg q]
          have hWp : 0 < H.2.2.2 := by
            rcases Nat.eq_zero_or_pos H.2.2.2 with h | h
            · rw [h] at q; exact absurd rfl q
            · exact h
          have hBp : 0 < H.2.2.2 * sp_Q m H.2.2.2 := Nat.mul_pos hWp (by omega)
          have gz := gcd_nz (a := sp_S m H.2.2.2 * sp_S m H.2.2.2) hBp (by omega)
          refine pz_e (fun h => q ((lN_c0 (by omega)).mp h)) ?_
          rw [lN_mul, pz_lt]
          refine pz_l ((hg2.hd (by omega)).trans eW) ?_
          rw [nI_l (by omega), lN_mul, pz_lt]
          refine pz_sw (fun _ => ?_) (fun _ => ?_)
          · refine pz_bd' (pg_common (by omega) (by omega)) ?_
            exact pz_nz gz (pz_done ⟨rfl, K⟩)
          · refine pz_bd' (pg_common (by omega) (by omega)) ?_
            exact pz_nz gz (pz_done ⟨rfl, K⟩)
