/-! who is served best; the busiest span -/
def sp_b (m : Nat → Nat) : Nat → Nat
  | 0 => 0
  | n + 1 => if m (n + 1) ≤ m (sp_b m n) then sp_b m n else n + 1
def sp_w (m : Nat → Nat) : Nat → Nat
  | 0 => m 0
  | n + 1 => if m (n + 1) < sp_w m n then m (n + 1) else sp_w m n
theorem sp_b_le {m : Nat → Nat} : ∀ n, sp_b m n ≤ n
  | 0 => Nat.le_refl _
  | n + 1 => by
    have := sp_b_le (m := m) n
    rw [sp_b]
    by_cases c : m (n + 1) ≤ m (sp_b m n)
    · rw [if_pos c]; omega
    · rw [if_neg c]; omega
theorem sp_w_le {m : Nat → Nat} {K : Nat} (h : ∀ i, m i ≤ K) : ∀ n, sp_w m n ≤ K
  | 0 => h 0
  | n + 1 => by
    have h1 := sp_w_le h n
    have h2 := h (n + 1)
    rw [sp_w]
    by_cases c : m (n + 1) < sp_w m n
    · rw [if_pos c]; exact h2
    · rw [if_neg c]; exact h1
section MOST
variable {H : pa_H} {x : pa_X} {n : Nat} {P : Nat → pa_X} {im : pa_Im} {tr : pa_Tr} {tp : pa_Tp} {fl : Int32 × Int32} {σ0 σ τ : ps_S} {p : pa_P} {y : pa_X} {t : Nat}
theorem pc_mostL {y1 y2 : Int32} {m : Nat → Nat} (hI : pa_WH H) (g : pc_Y H x n P im tr tp fl σ0 p τ y) (hm : ∀ i, i < 6 → y.1 (71 + i) - x.1 (71 + i) = nI (m i)) (hb : ∀ i, m i ≤ 599400) : ∀ (j i fuel : Nat), i + 1 + j = H.2.2.2 → j < fuel → ps_ok (qX8_most_73 y1 y2 fuel (nI (sp_b m i)) (nI (m (sp_b m i))) (nI (sp_w m i)) (nI (i + 1)) τ) (fun z υ => z = (nI (sp_b m (H.2.2.2 - 1)), nI (m (sp_b m (H.2.2.2 - 1))), nI (sp_w m (H.2.2.2 - 1)), nI H.2.2.2) ∧ υ = τ) := by
  intro j
  have hW := hI.1.2.2.1.2
  have hWe := hI.1.2.2.1.1
  induction j with
  | zero =>
    intro i fuel h1 h2
    obtain ⟨f, rfl⟩ : ∃ f, fuel = f + 1 := ⟨fuel - 1, by omega⟩
    have e1 : i = H.2.2.2 - 1 := by omega
    have e2 : i + 1 = H.2.2.2 := by omega
    rw [qX8_most_73, e2, e1]
    refine pz_l (g.1.2.1.1.2.2.2.2.2.2.2.2.2.1.trans hWe) ?_
    exact pz_t (nI_le (by omega) (by omega)) (pz_done ⟨rfl, rfl⟩)
  | succ j ih =>
    intro i fuel h1 h2
    obtain ⟨f, rfl⟩ : ∃ f, fuel = f + 1 := ⟨fuel - 1, by omega⟩
    have ih' := ih (i + 1) f (by omega) (by omega)
    rw [qX8_most_73]
    refine pz_l (g.1.2.1.1.2.2.2.2.2.2.2.2.2.1.trans hWe) ?_
    refine pz_e (nI_ge (by omega) (by omega)) ?_
    refine pc_l16 g.T (i := i + 1) (by omega) rfl ?_
    refine pc_l16 g.2.2.T (i := i + 1) (by omega) rfl ?_
    have b1 := hb (i + 1)
    have b2 := hb (sp_b m i)
    have b3 := sp_w_le hb i
    rw [hm (i + 1) (by omega), pz_lt]
    have ew : (if nI (m (i + 1)) < nI (sp_w m i) then nI (m (i + 1)) else nI (sp_w m i)) = nI (sp_w m (i + 1)) := by
      rw [sp_w]
      by_cases c : m (i + 1) < sp_w m i
      · rw [if_pos c, if_pos (nI_lt c (by omega))]
      · rw [if_neg c, if_neg (nI_nlt (by omega) (by omega))]
    by_cases c : m (i + 1) ≤ m (sp_b m i)
    · refine pz_t (nI_le c (by omega)) ?_
      rw [pz_lt, ew, pz_lt, nI_1]
      rw [show sp_b m (i + 1) = sp_b m i by rw [sp_b, if_pos c]] at ih'
      exact ih'
    · refine pz_e (nI_ge (by omega) (by omega)) ?_
      rw [pz_lt, ew, pz_lt, nI_1]
      rw [show sp_b m (i + 1) = i + 1 by rw [sp_b, if_neg c]] at ih'
      exact ih'
theorem pg_mostL {y1 y2 : Int32} {m : Nat → Nat} (hI : pa_WH H) (w : pg_W H x n P im tr tp fl τ) (hm : ∀ i, i < 6 → τ.1 339 i = nI (m i)) (hb : ∀ i, m i ≤ 599400) : ∀ (j i fuel : Nat), i + 1 + j = H.2.2.2 → j < fuel → ps_ok (qX9_most_61 y1 y2 fuel (nI (sp_b m i)) (nI (sp_w m i)) (nI (i + 1)) τ) (fun z υ => z = (nI (sp_b m (H.2.2.2 - 1)), nI (sp_w m (H.2.2.2 - 1)), nI H.2.2.2) ∧ υ = τ) := by
  intro j
  have hW := hI.1.2.2.1.2
  have hWe := hI.1.2.2.1.1
  induction j with
  | zero =>
    intro i fuel h1 h2
    obtain ⟨f, rfl⟩ : ∃ f, fuel = f + 1 := ⟨fuel - 1, by omega⟩
    have e1 : i = H.2.2.2 - 1 := by omega
    have e2 : i + 1 = H.2.2.2 := by omega
    rw [qX9_most_61, e2, e1]
    refine pz_l ((w.hd (by omega)).trans hWe) ?_
    exact pz_t (nI_le (by omega) (by omega)) (pz_done ⟨rfl, rfl⟩)
  | succ j ih =>
    intro i fuel h1 h2
    obtain ⟨f, rfl⟩ : ∃ f, fuel = f + 1 := ⟨fuel - 1, by omega⟩
    have ih' := ih (i + 1) f (by omega) (by omega)
    have hbl := sp_b_le (m := m) i
    have b1 := hb (i + 1)
    have b2 := hb (sp_b m i)
    have b3 := sp_w_le hb i
    have hi6 : i + 1 < 6 := by omega
    rw [qX9_most_61]
    refine pz_l ((w.hd (by omega)).trans hWe) ?_
    refine pz_e (nI_ge (by omega) (by omega)) ?_
    refine pz_rd (k := i + 1) rfl hi6 (by decide) (hm _ hi6) ?_
    refine pz_rd (k := sp_b m i) rfl (by omega) (by decide) (hm _ (by omega)) ?_
    by_cases c : m (i + 1) ≤ m (sp_b m i)
    · rw [show sp_b m (i + 1) = sp_b m i by rw [sp_b, if_pos c]] at ih'
      refine pz_t (nI_le c (by omega)) ?_
      refine pz_rd (k := i + 1) rfl hi6 (by decide) (hm _ hi6) ?_
      by_cases c2 : m (i + 1) < sp_w m i
      · rw [show sp_w m (i + 1) = m (i + 1) by rw [sp_w, if_pos c2]] at ih'
        refine pz_e (nI_ge c2 (by omega)) ?_
        refine pz_rd (k := i + 1) rfl hi6 (by decide) (hm _ hi6) ?_
        rw [pz_lt, nI_1]
        exact ih'
      · rw [show sp_w m (i + 1) = sp_w m i by rw [sp_w, if_neg c2]] at ih'
        refine pz_t (nI_le (by omega) (by omega)) ?_
        rw [pz_lt, nI_1]
        exact ih'
    · rw [show sp_b m (i + 1) = i + 1 by rw [sp_b, if_neg c]] at ih'
      refine pz_e (nI_ge (by omega) (by omega)) ?_
      refine pz_rd (k := i + 1) rfl hi6 (by decide) (hm _ hi6) ?_
      by_cases c2 : m (i + 1) < sp_w m i
      · rw [show sp_w m (i + 1) = m (i + 1) by rw [sp_w, if_pos c2]] at ih'
        refine pz_e (nI_ge c2 (by omega)) ?_
        refine pz_rd (k := i + 1) rfl hi6 (by decide) (hm _ hi6) ?_
        rw [pz_lt, nI_1]
        exact ih'
      · rw [show sp_w m (i + 1) = sp_w m i by rw [sp_w, if_neg c2]] at ih'
        refine pz_t (nI_le (by omega) (by omega)) ?_
        rw [pz_lt, nI_1]
        exact ih'
/-- a span of ten ticks -/
theorem pc_span {d : Nat} (hI : pa_WH H) (hp : pa_PI H.1 p) (hd : d < 4) (iv : pa_V H t y) (ht : t + 10 ≤ 3000000) (g : pc_Y H x n P im tr tp fl σ0 p τ y) : ps_ok (qX8_wroteInSpan (nI d) τ) (fun v υ => v = (pa_tks H p 10 y).1 (45 + d) - y.1 (45 + d) ∧ pc_Y H x n P im tr tp fl σ0 p υ (pa_tks H p 10 y)) := by
  unfold qX8_wroteInSpan
  refine pc_l8 g.T hd rfl ?_
  refine pz_bd (g.run (k := 10) hI hp iv ht (by decide)) (fun _ υ gu => ?_)
  exact pc_l8 gu.T hd rfl (pz_done ⟨rfl, gu⟩)
theorem pg_span {d : Nat} (hI : pa_WH H) (hp : pa_PI H.1 p) (hd : d < 4) (iv : pa_V H t y) (ht : t + 10 ≤ 3000000) (g : pg_Y H x n P im tr tp fl σ0 p τ y) : ps_ok (qX9_spanOf (nI d) τ) (fun v υ => v = (pa_tks H p 10 y).1 (45 + d) - y.1 (45 + d) ∧ pg_Y H x n P im tr tp fl σ0 p υ (pa_tks H p 10 y)) := by
  unfold qX9_spanOf
  refine pg_l g.1 (k := 45 + d) (by omega) (by omega) (by omega) (pz_a45 d) ?_
  refine pz_bd (g.ticks (k := 10) hI hp iv ht (by decide)) (fun _ υ gu => ?_)
  exact pg_l gu.1 (k := 45 + d) (by omega) (by omega) (by omega) (pz_a45 d) (pz_done ⟨rfl, gu⟩)
def sp_bu (H : pa_H) (p : pa_P) (d : Nat) : Nat → Nat → Int32 → Int32 → pa_X → Int32
  | _, 0, b, _, _ => b
  | i, m + 1, b, g, y => if (pa_tks H p 10 y).1 (45 + d) - y.1 (45 + d) ≤ g then sp_bu H p d (i + 1) m b g (pa_tks H p 10 y) else sp_bu H p d (i + 1) m (nI i) ((pa_tks H p 10 y).1 (45 + d) - y.1 (45 + d)) (pa_tks H p 10 y)
theorem pc_busyL {d : Nat} (hI : pa_WH H) (hp : pa_PI H.1 p) (hd : d < 4) : ∀ (m i fuel t : Nat) (b gr : Int32) (τ : ps_S) (y : pa_X), i + m = 8 → m < fuel → pa_V H t y → t + 10 * m ≤ 3000000 → pc_Y H x n P im tr tp fl σ0 p τ y → ps_ok (qX8_busiest_29 (nI d) fuel b gr (nI i) τ) (fun z υ => z.1 = sp_bu H p d i m b gr y ∧ pc_kp σ0 υ ∧ pc_O H.1 υ) := by
  intro m
  induction m with
  | zero =>
    intro i fuel t b gr τ y h1 h2 iv ht g
    obtain ⟨f, rfl⟩ : ∃ f, fuel = f + 1 := ⟨fuel - 1, by omega⟩
    rw [qX8_busiest_29]
    exact pz_t (nI_le (a := 8) (by omega) (by omega)) (pz_done ⟨rfl, g.K⟩)
  | succ m ih =>
    intro i fuel t b gr τ y h1 h2 iv ht g
    obtain ⟨f, rfl⟩ : ∃ f, fuel = f + 1 := ⟨fuel - 1, by omega⟩
    rw [qX8_busiest_29, sp_bu]
    refine pz_e (nI_ge (b := 8) (by omega) (by omega)) ?_
    refine pz_bd (pc_span hI hp hd iv (by omega) g) (fun v υ ev => ?_)
    obtain ⟨rfl, gu⟩ := ev
    have ih' := fun b gr => ih (i + 1) f (t + 10) b gr υ (pa_tks H p 10 y) (by omega) (by omega) (iv.tks hI hp (by omega)) (by omega) gu
    refine pz_if (fun c => ?_) (fun c => ?_)
    · rw [if_pos c, pz_lt, nI_1]; exact ih' _ _
    · rw [if_neg c, pz_lt, nI_1]; exact ih' _ _
theorem pg_busyL {d : Nat} (hI : pa_WH H) (hp : pa_PI H.1 p) (hd : d < 4) : ∀ (m i fuel t : Nat) (b gr : Int32) (τ : ps_S) (y : pa_X), i + m = 8 → m < fuel → pa_V H t y → t + 10 * m ≤ 3000000 → pg_Y H x n P im tr tp fl σ0 p τ y → ps_ok (qX9_busiest_28 (nI d) fuel b gr (nI i) τ) (fun z υ => z.1 = sp_bu H p d i m b gr y ∧ pg_kp σ0 υ) := by
  intro m
  induction m with
  | zero =>
    intro i fuel t b gr τ y h1 h2 iv ht g
    obtain ⟨f, rfl⟩ : ∃ f, fuel = f + 1 := ⟨fuel - 1, by omega⟩
    rw [qX9_busiest_28]
    exact pz_t (nI_le (a := 8) (by omega) (by omega)) (pz_done ⟨rfl, g.2.1⟩)
  | succ m ih =>
    intro i fuel t b gr τ y h1 h2 iv ht g
    obtain ⟨f, rfl⟩ : ∃ f, fuel = f + 1 := ⟨fuel - 1, by omega⟩
    rw [qX9_busiest_28, sp_bu]
    refine pz_e (nI_ge (b := 8) (by omega) (by omega)) ?_
    refine pz_bd (pg_span hI hp hd iv (by omega) g) (fun v υ ev => ?_)
    obtain ⟨rfl, gu⟩ := ev
    have ih' := fun b gr => ih (i + 1) f (t + 10) b gr υ (pa_tks H p 10 y) (by omega) (by omega) (iv.tks hI hp (by omega)) (by omega) gu
    refine pz_if (fun c => ?_) (fun c => ?_)
    · rw [if_neg (Int32.not_le.mpr c), pz_lt, nI_1]; exact ih' _ _
    · rw [if_pos (Int32.not_lt.mp c), pz_lt, nI_1]; exact ih' _ _
end MOST
theorem pw_busiest {T : Nat} {σ : ps_S} {p1 : Int32} (w : pw_W T σ) (hT : T ≤ 2990000) : pw_call T (qX8_busiest p1) (qX9_busiest p1) σ := by
  obtain ⟨H, x, n, P, im, tr, tp, fl, hW, hc, hg⟩ := w
  obtain ⟨hp, -⟩ := pa_p0I hW.1
  obtain ⟨t, t1, iv⟩ := hW.2.1
  have hD := hW.1.1.1.2
  by_cases c : p1 < 0 ∨ nI H.2.1 ≤ p1
  · refine pw_query (a := -2) hW hc hg ?_ (fun τ hg => ?_)
    · unfold qX8_busiest
      refine pz_bd' (pc_dev0 hW.1 hc.hH c) ?_
      exact pz_t rfl (pz_done ⟨rfl, pc_kp.rf _, hc.1.2.2⟩)
    · unfold qX9_busiest
      refine pg_th hg (fun τ1 hg1 k1 => ?_)
      refine pz_bd' (pg_dev0 hW.1 hg1 c) ?_
      exact pz_t rfl (pz_done ⟨rfl, k1⟩)
  · obtain ⟨d, hd, rfl⟩ := pa_idx (by omega) c
    have hd4 : d < 4 := by omega
    -- the first span: none is below 0
    have e0 : sp_bu H (pa_p0 H.1) d 0 8 0 (-1) x = sp_bu H (pa_p0 H.1) d 0 8 0 0 x := by
      obtain ⟨v, v1, v2⟩ := ((pa_tks_up hW.1 hp 10 t x iv (by omega)).1 d hd4).sub
      have u : ∀ g, sp_bu H (pa_p0 H.1) d 0 8 0 g x = if (pa_tks H (pa_p0 H.1) 10 x).1 (45 + d) - x.1 (45 + d) ≤ g then sp_bu H (pa_p0 H.1) d 1 7 0 g (pa_tks H (pa_p0 H.1) 10 x) else sp_bu H (pa_p0 H.1) d 1 7 (nI 0) ((pa_tks H (pa_p0 H.1) 10 x).1 (45 + d) - x.1 (45 + d)) (pa_tks H (pa_p0 H.1) 10 x) := fun g => rfl
      rw [u, u, v2]
      have n1 : ¬ nI v ≤ -1 := fun hh => by
        rw [Int32.le_iff_toInt_le, nI_toInt (by omega), show (-1 : Int32).toInt = -1 by decide] at hh
        omega
      rw [if_neg n1]
      by_cases q : v = 0
      · subst q
        rw [if_pos (show nI 0 ≤ 0 by decide)]
        rfl
      · rw [if_neg (nI_nle (by omega) (by omega))]
    refine pw_query (a := sp_bu H (pa_p0 H.1) d 0 8 0 0 x) hW hc hg ?_ (fun τ hg => ?_)
    · unfold qX8_busiest
      refine pz_bd' (pc_dev1 hW.1 hc.hH c) ?_
      refine pz_e (by decide) ?_
      refine pz_bd (hc.go hW.1) (fun _ τ g => ?_)
      refine pz_bd (pc_busyL hW.1 hp hd4 8 0 ps_N t 0 0 τ x (by decide) (by unfold ps_N; decide) iv (by omega) g) (fun z υ hz => ?_)
      obtain ⟨z1, z2, z3⟩ := z
      exact pz_done ⟨hz.1, hz.2⟩
    · unfold qX9_busiest
      refine pg_th hg (fun τ1 hg1 k1 => ?_)
      refine pz_bd' (pg_dev1 hW.1 hg1 c) ?_
      refine pz_e (by decide) ?_
      refine pz_bd (hg1.go hW.1) (fun _ τ2 g => ?_)
      refine pz_bd (pg_busyL hW.1 hp hd4 8 0 ps_N t 0 (-1) τ2 x (by decide) (by unfold ps_N; decide) iv (by omega) g) (fun z υ hz => ?_)
      obtain ⟨z1, z2, z3⟩ := z
      exact pz_done ⟨hz.1.trans e0, k1.tr hz.2⟩
theorem pw_most {T : Nat} {σ : ps_S} {p1 p2 : Int32} (w : pw_W T σ) (hT : T ≤ 2990000) : pw_call T (qX8_most p1 p2) (qX9_most p1 p2) σ := by
  obtain ⟨H, x, n, P, im, tr, tp, fl, hW, hc, hg⟩ := w
  obtain ⟨hp, -⟩ := pa_p0I hW.1
  obtain ⟨t, t1, iv⟩ := hW.2.1
  have hWl := hW.1.1.2.2.1.2
  have eW : H.1 3 = nI H.2.2.2 := hW.1.1.2.2.1.1
  by_cases c : p2 < 0 ∨ 2 < p2
  · refine pw_query (a := -2) hW hc hg ?_ (fun τ hg => ?_)
    · unfold qX8_most
      refine pz_bd' (pc_i0 c) ?_
      exact pz_t rfl (pz_done ⟨rfl, pc_kp.rf _, hc.1.2.2⟩)
    · unfold qX9_most
      refine pg_th hg (fun τ1 hg1 k1 => ?_)
      refine pz_bd' (pg_i0 (lo := 0) (hi := 2) (by decide) (by decide) c) ?_
      exact pz_t rfl (pz_done ⟨rfl, k1⟩)
  · by_cases c2 : p1 < 1 ∨ 999 < p1
    · refine pw_query (a := -3) hW hc hg ?_ (fun τ hg => ?_)
      · unfold qX8_most
        refine pz_bd' (pc_i1 (fun hh => c (Or.inl hh)) (fun hh => c (Or.inr hh))) ?_
        refine pz_e (by decide) ?_
        refine pz_bd' (pc_i0 c2) ?_
        exact pz_t rfl (pz_done ⟨rfl, pc_kp.rf _, hc.1.2.2⟩)
      · unfold qX9_most
        refine pg_th hg (fun τ1 hg1 k1 => ?_)
        refine pz_bd' (pg_i1 (lo := 0) (hi := 2) (by decide) (by decide) (fun hh => c (Or.inl hh)) (fun hh => c (Or.inr hh))) ?_
        refine pz_e (by decide) ?_
        refine pz_bd' (pg_i0 (lo := 1) (hi := 999) (by decide) (by decide) c2) ?_
        exact pz_t rfl (pz_done ⟨rfl, k1⟩)
    · obtain ⟨k, m1, m2, rfl⟩ := pa_num 1 999 (by decide) (by decide) c2
      obtain ⟨m, hb, hm⟩ := pa_made (p := pa_p0 H.1) hW.1 hp iv (show t + k ≤ 3000000 by omega) m2
      by_cases c3 : H.2.2.2 = 0
      · refine pw_query (a := -1) hW hc hg ?_ (fun τ hg => ?_)
        · unfold qX8_most
          refine pz_bd' (pc_i1 (fun hh => c (Or.inl hh)) (fun hh => c (Or.inr hh))) ?_
          refine pz_e (by decide) ?_
          refine pz_bd' (pc_i1 (fun hh => c2 (Or.inl hh)) (fun hh => c2 (Or.inr hh))) ?_
          refine pz_e (by decide) ?_
          refine pz_l (hc.hH.1.2.2.2.2.2.2.2.2.2.1.trans eW) ?_
          rw [c3]
          exact pz_t rfl (pz_done ⟨rfl, pc_kp.rf _, hc.1.2.2⟩)
        · unfold qX9_most
          refine pg_th hg (fun τ1 hg1 k1 => ?_)
          refine pz_bd' (pg_i1 (lo := 0) (hi := 2) (by decide) (by decide) (fun hh => c (Or.inl hh)) (fun hh => c (Or.inr hh))) ?_
          refine pz_e (by decide) ?_
          refine pz_bd' (pg_i1 (lo := 1) (hi := 999) (by decide) (by decide) (fun hh => c2 (Or.inl hh)) (fun hh => c2 (Or.inr hh))) ?_
          refine pz_e (by decide) ?_
          refine pz_l ((hg1.hd (by omega)).trans eW) ?_
          rw [c3]
          exact pz_t rfl (pz_done ⟨rfl, k1⟩)
      · have hbl := sp_b_le (m := m) (H.2.2.2 - 1)
        refine pw_query (a := if p2 = 0 then nI (sp_b m (H.2.2.2 - 1)) else if p2 = 1 then nI (m (sp_b m (H.2.2.2 - 1))) else nI (sp_w m (H.2.2.2 - 1))) hW hc hg ?_ (fun τ hg => ?_)
        · unfold qX8_most
          refine pz_bd' (pc_i1 (fun hh => c (Or.inl hh)) (fun hh => c (Or.inr hh))) ?_
          refine pz_e (by decide) ?_
          refine pz_bd' (pc_i1 (fun hh => c2 (Or.inl hh)) (fun hh => c2 (Or.inr hh))) ?_
          refine pz_e (by decide) ?_
          refine pz_l (hc.hH.1.2.2.2.2.2.2.2.2.2.1.trans eW) ?_
          refine pz_e (nI_ne0 (by omega) (by omega)) ?_
          refine pz_bd (pc_goOn hW.1 hc iv (by omega) m2) (fun _ τ g => ?_)
          refine pz_l (g.1.1.Q.rd16 (i := 0) (by decide)) ?_
          refine pz_l (g.2.2.1.1.Q.rd16 (i := 0) (by decide)) ?_
          rw [hm 0 (by decide), pz_lt]
          refine pz_bd (pc_mostL hW.1 g hm hb (H.2.2.2 - 1) 0 ps_N (by omega) (by unfold ps_N; omega)) (fun z υ ez => ?_)
          obtain ⟨rfl, rfl⟩ := ez
          exact pz_sw (fun _ => pz_done ⟨rfl, g.K⟩) (fun _ => pz_sw (fun _ => pz_done ⟨rfl, g.K⟩) (fun _ => pz_done ⟨rfl, g.K⟩))
        · unfold qX9_most
          refine pg_th hg (fun τ1 hg1 k1 => ?_)
          refine pz_bd' (pg_i1 (lo := 0) (hi := 2) (by decide) (by decide) (fun hh => c (Or.inl hh)) (fun hh => c (Or.inr hh))) ?_
          refine pz_e (by decide) ?_
          refine pz_bd' (pg_i1 (lo := 1) (hi := 999) (by decide) (by decide) (fun hh => c2 (Or.inl hh)) (fun hh => c2 (Or.inr hh))) ?_
          refine pz_e (by decide) ?_
          refine pz_l ((hg1.hd (by omega)).trans eW) ?_
          refine pz_e (nI_ne0 (by omega) (by omega)) ?_
          refine pz_bd (pg_pages hW.1 hg1 iv (by omega) m2) (fun _ τ2 h2 => ?_)
          obtain ⟨k2, hg2, h339⟩ := h2
          have K := k1.tr k2
          have hm' : ∀ i, i < 6 → τ2.1 339 i = nI (m i) := fun i hi => (h339 i hi).trans (hm i hi)
          have b0 := hb 0
          have c28 : ¬ (268435456 : Int32) ≤ nI (m 0) := by
            intro hh
            rw [Int32.le_iff_toInt_le, nI_toInt (by omega), show (268435456 : Int32).toInt = 268435456 by decide] at hh
            omega
          have first : ps_ok (qX9_most_61 (nI k) p2 ps_N 0 268435456 0 τ2) (fun z υ => z = (nI (sp_b m (H.2.2.2 - 1)), nI (sp_w m (H.2.2.2 - 1)), nI H.2.2.2) ∧ υ = τ2) := by
            obtain ⟨f, hN, hf⟩ : ∃ f, ps_N = f + 1 ∧ 100 ≤ f := ⟨9999, rfl, by decide⟩
            rw [hN, qX9_most_61]
            refine pz_l ((hg2.hd (by omega)).trans eW) ?_
            refine pz_e (nI_nle (by omega) (by omega)) ?_
            refine pz_rd (k := 0) rfl (by decide) (by decide) (hm' 0 (by decide)) ?_
            refine pz_rd (k := 0) rfl (by decide) (by decide) (hm' 0 (by decide)) ?_
            refine pz_t (nI_le (Nat.le_refl _) (by omega)) ?_
            refine pz_rd (k := 0) rfl (by decide) (by decide) (hm' 0 (by decide)) ?_
            refine pz_e c28 ?_
            refine pz_rd (k := 0) rfl (by decide) (by decide) (hm' 0 (by decide)) ?_
            rw [pz_lt]
            exact pg_mostL hW.1 hg2 hm' hb (H.2.2.2 - 1) 0 f (by omega) (by omega)
          refine pz_bd first (fun z υ ez => ?_)
          obtain ⟨rfl, rfl⟩ := ez
          refine pz_sw (fun _ => pz_done ⟨rfl, K⟩) (fun _ => pz_sw (fun _ => ?_) (fun _ => pz_done ⟨rfl, K⟩))
          exact pz_rd (k := sp_b m (H.2.2.2 - 1)) rfl (by omega) (by decide) (hm' _ (by omega)) (pz_done ⟨rfl, K⟩)
