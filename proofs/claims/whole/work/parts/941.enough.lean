/-! limits and wants with which nobody is held -/
theorem pa_V.up {H : pa_H} {t k : Nat} {x : pa_X} {v : Int32} (hI : pa_WH H) (g : pa_V H t x) (hk : (25 ≤ k ∧ k < 29) ∨ (53 ≤ k ∧ k < 59)) (h1 : ∀ d, d < H.2.1 → k = 25 + d → ∃ n, n ≤ 999 ∧ v = nI n) (h2 : ∀ w, w < H.2.2.2 → k = 53 + w → ∃ n, n ≤ 99 ∧ v = nI n) : pa_V H t (upd x.1 k v, x.2) := by
  have hD := hI.1.1.2
  have hW := hI.1.2.2.1.2
  obtain ⟨⟨a1, a2, a3, a4⟩, g0, gK, gl, gw, gp, gh, gE⟩ := g
  have e : ∀ j, j ≠ k → upd x.1 k v j = x.1 j := fun j hj => upd_ne _ _ hj
  have q1 : pa_sN (upd x.1 k v) 1 12 = pa_sN x.1 1 12 := pa_sN_upd_ne (by omega)
  have q2 : pa_sN (upd x.1 k v) 29 4 = pa_sN x.1 29 4 := pa_sN_upd_ne (by omega)
  refine ⟨⟨⟨fun f hf => ?_, fun d hd => ?_, ?_, fun f h3 h4 => ?_, fun d h3 h4 => ?_⟩, fun d hd => ?_, fun d hd => ?_, fun d hd => ?_, fun w hw => ?_⟩, ?_, gK.congr (fun j hj => e j (by omega)), gl.congr (fun i hi => e _ (by omega)), gw.congr (fun i hi => e _ (by omega)), gp.congr (fun i hi => e _ (by omega)), gh.congr (fun i hi => e _ (by omega)), gE⟩
  · show pa_NN (upd x.1 k v (1 + f)); rw [e _ (by omega)]; exact a1.1 f hf
  · show pa_NN (upd x.1 k v (29 + d)); rw [e _ (by omega)]; exact a1.2.1 d hd
  · show pa_sN (upd x.1 k v) 1 12 + pa_sN (upd x.1 k v) 29 4 ≤ 999; rw [q1, q2]; exact a1.2.2.1
  · show upd x.1 k v (1 + f) = 0; rw [e _ (by omega)]; exact a1.2.2.2.1 f h3 h4
  · show upd x.1 k v (29 + d) = 0; rw [e _ (by omega)]; exact a1.2.2.2.2 d h3 h4
  · show pa_NN (upd x.1 k v (41 + d)) ∧ (upd x.1 k v (41 + d)).toNatClampNeg ≤ 12; rw [e _ (by omega)]; exact a2 d hd
  · show pa_NN (upd x.1 k v (33 + d)) ∧ (upd x.1 k v (33 + d)).toNatClampNeg ≤ 99; rw [e _ (by omega)]; exact a3 d hd
  · show ∃ n, n ≤ 999 ∧ upd x.1 k v (25 + d) = nI n
    by_cases c : 25 + d = k
    · rw [c, upd_self]; exact h1 d hd c.symm
    · rw [e _ c]; exact a4.1 d hd
  · show ∃ n, n ≤ 99 ∧ upd x.1 k v (53 + w) = nI n
    by_cases c : 53 + w = k
    · rw [c, upd_self]; exact h2 w hw c.symm
    · rw [e _ c]; exact a4.2 w hw
  · show upd x.1 k v 0 = nI t; rw [e _ (by omega)]; exact g0
def sp_nh (H : pa_H) (p : pa_P) (hd : Int32) : Nat → pa_X → Bool
  | 0, _ => true
  | m + 1, y => if pa_sum (pa_tk H p y).1 77 6 = hd then sp_nh H p hd m (pa_tk H p y) else false
def sp_nb (H : pa_H) (p : pa_P) (w : Nat) (hd : Int32) : Nat → pa_X → Bool
  | 0, _ => true
  | m + 1, y => if (pa_tk H p y).1 (77 + w) = hd then sp_nb H p w hd m (pa_tk H p y) else false
def sp_find (c : Nat → Bool) : Nat → Nat → Int32
  | _, 0 => -1
  | i, m + 1 => if c i = true then nI i else sp_find c (i + 1) m
def sp_down (c : Nat → Bool) : Nat → Int32
  | 0 => -1
  | m + 1 => if c m = true then nI m else sp_down c m
section ENOUGH
variable {H : pa_H} {x : pa_X} {n : Nat} {P : Nat → pa_X} {im : pa_Im} {tr : pa_Tr} {tp : pa_Tp} {fl : Int32 × Int32} {σ0 σ τ : ps_S} {p : pa_P} {y : pa_X} {t : Nat}
theorem pc_nhL {hd : Int32} {k : Nat} (hI : pa_WH H) (hp : pa_PI H.1 p) (hk : k ≤ 99) : ∀ (m i fuel t : Nat) (τ : ps_S) (y : pa_X), i + m = k → m < fuel → pa_V H t y → t + m ≤ 3000000 → pc_Y H x n P im tr tp fl σ0 p τ y → ps_ok (qX8_nobodyIsHeld_10 (nI k) hd fuel (nI i) τ) (fun z υ => ((z = .inl 0 ∧ sp_nh H p hd m y = false) ∨ ((∃ v, z = .inr v) ∧ sp_nh H p hd m y = true)) ∧ pc_kp σ0 υ ∧ pc_W H x n P im tr tp fl υ) := by
  intro m
  induction m with
  | zero =>
    intro i fuel t τ y h1 h2 iv ht g
    obtain ⟨f, rfl⟩ : ∃ f, fuel = f + 1 := ⟨fuel - 1, by omega⟩
    rw [qX8_nobodyIsHeld_10]
    exact pz_t (nI_le (by omega) (by omega)) (pz_done ⟨Or.inr ⟨⟨_, rfl⟩, rfl⟩, g.2.1, g.2.2⟩)
  | succ m ih =>
    intro i fuel t τ y h1 h2 iv ht g
    obtain ⟨f, rfl⟩ : ∃ f, fuel = f + 1 := ⟨fuel - 1, by omega⟩
    rw [qX8_nobodyIsHeld_10, sp_nh]
    refine pz_e (nI_ge (by omega) (by omega)) ?_
    refine pz_bd (g.run1 hI hp iv (by omega)) (fun _ υ gu => ?_)
    refine pz_bd (pc_heldAll gu.1.1) (fun v υ' ev => ?_)
    obtain ⟨rfl, rfl⟩ := ev
    refine pz_if (fun c => ?_) (fun c => ?_)
    · rw [if_pos c, pz_lt, nI_1]
      exact ih (i + 1) f (t + 1) υ' (pa_tk H p y) (by omega) (by omega) (iv.tk hI hp (by omega)) (by omega) gu
    · rw [if_neg c]
      exact pz_done ⟨Or.inl ⟨rfl, rfl⟩, gu.2.1, gu.2.2⟩
def pa_pl (L : Nat) : pa_P := (nI L, -1, -1, 0)
theorem pa_plI {L : Nat} (h1 : pa_N H.1 11 < L) (h2 : L ≤ 999) : pa_PI H.1 (pa_pl L) := by
  have e : (pa_pl L).1.toNatClampNeg = L := nI_clamp (n := L) (by omega)
  exact ⟨by rw [e]; rfl, by rw [e]; exact h1, by rw [e]; exact h2⟩
theorem pc_enL {k : Nat} (hI : pa_WH H) (hk1 : 1 ≤ k) (hk : k ≤ 99) (iv : pa_V H t x) (ht : t + 100 ≤ 3000000) : ∀ (m i fuel : Nat) (τ : ps_S), i + m = 1000 → m < fuel → pa_N H.1 11 < i → pc_kp σ0 τ → pc_W H x n P im tr tp fl τ → ps_ok (qX8_enough_23 (nI k) fuel (nI i) τ) (fun z υ => sp_z (sp_find (fun L => sp_nh H (pa_pl L) (pa_sum x.1 77 6) k x) i m) z ∧ pc_kp σ0 υ ∧ pc_O H.1 υ) := by
  intro m
  induction m with
  | zero =>
    intro i fuel τ h1 h2 h3 kp w
    obtain ⟨f, rfl⟩ : ∃ f, fuel = f + 1 := ⟨fuel - 1, by omega⟩
    rw [qX8_enough_23]
    exact pz_t (nI_lt (a := 999) (by omega) (by omega)) (pz_done ⟨Or.inr ⟨⟨_, rfl⟩, rfl⟩, kp, w.1.2.2⟩)
  | succ m ih =>
    intro i fuel τ h1 h2 h3 kp w
    obtain ⟨f, rfl⟩ : ∃ f, fuel = f + 1 := ⟨fuel - 1, by omega⟩
    rw [qX8_enough_23, sp_find]
    refine pz_e (nI_nlt (a := 999) (by omega) (by omega)) ?_
    refine pz_bd (w.go hI) (fun _ υ g => ?_)
    rw [pz_lt]
    have g2 : pc_Y H x n P im tr tp fl τ (pa_pl i) (ps_rI υ 44 (upd (υ.1 44) 10 (nI i))) x := g.to g.1.1.set10 (pc_fb.I _ 0 _ (by decide))
    generalize ps_rI υ 44 (upd (υ.1 44) 10 (nI i)) = ω at g2 ⊢
    have nh : ps_ok (qX8_nobodyIsHeld (nI k) ω) (fun v ψ => v = (if sp_nh H (pa_pl i) (pa_sum x.1 77 6) k x = true then 1 else 0) ∧ pc_kp τ ψ ∧ pc_W H x n P im tr tp fl ψ) := by
      unfold qX8_nobodyIsHeld
      refine pz_bd (pc_heldAll g2.2.2.1.1) (fun v υ' ev => ?_)
      obtain ⟨rfl, rfl⟩ := ev
      refine pz_bd (pc_nhL (k := k) hI (pa_plI h3 (by omega)) hk k 0 ps_N t υ' x (by omega) (by unfold ps_N; omega) iv (by omega) g2) (fun z ψ hz => ?_)
      obtain ⟨hz, hz2⟩ := hz
      rcases hz with ⟨rfl, e⟩ | ⟨⟨v, rfl⟩, e⟩
      · rw [e]; exact pz_done ⟨rfl, hz2⟩
      · rw [e]; exact pz_done ⟨rfl, hz2⟩
    refine pz_bd nh (fun v ψ hv => ?_)
    obtain ⟨rfl, k2, w2⟩ := hv
    by_cases c : sp_nh H (pa_pl i) (pa_sum x.1 77 6) k x = true
    · rw [if_pos c, if_pos c]
      exact pz_e (by decide) (pz_done ⟨Or.inl rfl, kp.tr k2, w2.1.2.2⟩)
    · rw [if_neg c, if_neg c]
      refine pz_t rfl ?_
      rw [pz_lt, nI_1]
      exact ih (i + 1) f ψ (by omega) (by omega) (by omega) (kp.tr k2) w2
theorem pg_nhL {hd : Int32} {k : Nat} {y2 : Int32} (hI : pa_WH H) (hp : pa_PI H.1 p) (hk : k ≤ 99) : ∀ (m i fuel t : Nat) (τ : ps_S) (y : pa_X), i + m = k → m < fuel → pa_V H t y → t + m ≤ 3000000 → pa_sum y.1 77 6 = hd → pg_Y H x n P im tr tp fl σ0 p τ y → ps_ok (qX9_enough_58 (nI k) y2 hd fuel (nI i) τ) (fun _ υ => ∃ y', pg_Y H x n P im tr tp fl σ0 p υ y' ∧ (pa_sum y'.1 77 6 = hd ↔ sp_nh H p hd m y = true)) := by
  intro m
  induction m with
  | zero =>
    intro i fuel t τ y h1 h2 iv ht hs g
    obtain ⟨f, rfl⟩ : ∃ f, fuel = f + 1 := ⟨fuel - 1, by omega⟩
    rw [qX9_enough_58]
    exact pz_t (nI_le (by omega) (by omega)) (pz_done ⟨y, g, ⟨fun _ => rfl, fun _ => hs⟩⟩)
  | succ m ih =>
    intro i fuel t τ y h1 h2 iv ht hs g
    obtain ⟨f, rfl⟩ : ∃ f, fuel = f + 1 := ⟨fuel - 1, by omega⟩
    rw [qX9_enough_58, sp_nh]
    refine pz_e (nI_ge (by omega) (by omega)) ?_
    have s1 : qX9_sumOf 77 6 τ = some (pa_sum y.1 77 6, τ) := g.1.sum (a := 77) (n := 6) (by omega) (by omega) (by omega)
    refine pz_bd' s1 ?_
    refine pz_t hs ?_
    refine pz_bd (g.tick hI hp iv (by omega)) (fun _ υ gu => ?_)
    rw [pz_lt, nI_1]
    by_cases c : pa_sum (pa_tk H p y).1 77 6 = hd
    · rw [if_pos c]
      exact ih (i + 1) f (t + 1) υ (pa_tk H p y) (by omega) (by omega) (iv.tk hI hp (by omega)) (by omega) c gu
    · rw [if_neg c]
      -- the loop looks once more, or is over
      obtain ⟨f2, rfl⟩ : ∃ f2, f = f2 + 1 := ⟨f - 1, by omega⟩
      rw [qX9_enough_58]
      have fin : ∃ y', pg_Y H x n P im tr tp fl σ0 p υ y' ∧ (pa_sum y'.1 77 6 = hd ↔ false = true) := ⟨pa_tk H p y, gu, ⟨fun hh => absurd hh c, fun hh => absurd hh (by decide)⟩⟩
      refine pz_if (fun _ => pz_done fin) (fun _ => ?_)
      have s2 : qX9_sumOf 77 6 υ = some (pa_sum (pa_tk H p y).1 77 6, υ) := gu.1.sum (a := 77) (n := 6) (by omega) (by omega) (by omega)
      refine pz_bd' s2 ?_
      exact pz_e c (pz_done fin)
theorem pg_enL {k : Nat} (hI : pa_WH H) (hk1 : 1 ≤ k) (hk : k ≤ 99) (iv : pa_V H t x) (ht : t + 100 ≤ 3000000) : ∀ (m i fuel : Nat) (τ : ps_S), i + m = 1000 → m < fuel → pa_N H.1 11 < i → pg_kp σ0 τ → pg_W H x n P im tr tp fl τ → ps_ok (qX9_enough_30 (nI k) fuel (nI i) τ) (fun z υ => sp_z (sp_find (fun L => sp_nh H (pa_pl L) (pa_sum x.1 77 6) k x) i m) z ∧ pg_kp σ0 υ) := by
  intro m
  induction m with
  | zero =>
    intro i fuel τ h1 h2 h3 kp w
    obtain ⟨f, rfl⟩ : ∃ f, fuel = f + 1 := ⟨fuel - 1, by omega⟩
    rw [qX9_enough_30]
    exact pz_t (nI_lt (a := 999) (by omega) (by omega)) (pz_done ⟨Or.inr ⟨⟨_, rfl⟩, rfl⟩, kp⟩)
  | succ m ih =>
    intro i fuel τ h1 h2 h3 kp w
    obtain ⟨f, rfl⟩ : ∃ f, fuel = f + 1 := ⟨fuel - 1, by omega⟩
    rw [qX9_enough_30, sp_find]
    refine pz_e (nI_nlt (a := 999) (by omega) (by omega)) ?_
    refine pz_bd (w.go hI) (fun _ υ g => ?_)
    rw [pz_lt]
    have g2 : pg_Y H x n P im tr tp fl τ (pa_pl i) (ps_rI υ 327 (upd (υ.1 327) 21 (nI i))) x := by
      refine g.to ?_ g.1.2.1 ?_ (pg_kp.F _ _ (by decide))
      · rw [← g.1.1]
        unfold pg_r pg_f
        rw [ps_rI_at, ps_rI_ne _ _ (by decide), upd_ne _ _ (by decide), upd_ne _ _ (by decide)]
      · obtain ⟨q1, q2, q3, q4⟩ := g.1.2.2.2.1
        refine ⟨?_, fun d hd => ?_, ?_, ?_⟩
        · rw [ps_rI_at, upd_self]; rfl
        · rw [ps_rI_at, upd_ne _ _ (by decide)]; exact q2 d hd
        · rw [ps_rI_at, upd_ne _ _ (by decide)]; exact q3
        · rw [ps_rI_at, upd_ne _ _ (by decide)]; exact q4
    generalize ps_rI υ 327 (upd (υ.1 327) 21 (nI i)) = ω at g2 ⊢
    have s1 : qX9_sumOf 77 6 ω = some (pa_sum x.1 77 6, ω) := g2.1.sum (a := 77) (n := 6) (by omega) (by omega) (by omega)
    refine pz_bd' s1 ?_
    refine pz_bd (pg_nhL (k := k) hI (pa_plI h3 (by omega)) hk k 0 ps_N t ω x (by omega) (by unfold ps_N; omega) iv (by omega) rfl g2) (fun _ ψ hz => ?_)
    obtain ⟨y', g3, hiff⟩ := hz
    have s2 : qX9_sumOf 77 6 ψ = some (pa_sum y'.1 77 6, ψ) := g3.1.sum (a := 77) (n := 6) (by omega) (by omega) (by omega)
    refine pz_bd' s2 ?_
    by_cases c : sp_nh H (pa_pl i) (pa_sum x.1 77 6) k x = true
    · rw [if_pos c]
      exact pz_t (hiff.mpr c) (pz_done ⟨Or.inl rfl, kp.tr g3.2.1⟩)
    · rw [if_neg c]
      refine pz_e (fun hh => c (hiff.mp hh)) ?_
      rw [pz_lt, nI_1]
      exact ih (i + 1) f ψ (by omega) (by omega) (by omega) (kp.tr g3.2.1) g3.2.2
/-- bears -/
def pa_xw (x : pa_X) (w v : Nat) : pa_X := (upd x.1 (53 + w) (nI v), x.2)
theorem pa_xwV {w v : Nat} (hI : pa_WH H) (iv : pa_V H t x) (hw : w < H.2.2.2) (hv : v ≤ 99) : pa_V H t (pa_xw x w v) := by
  have hW := hI.1.2.2.1.2
  exact pa_V.up hI iv (Or.inr ⟨by omega, by omega⟩) (fun d hd e => by have := hI.1.1.2; omega) (fun _ _ _ => ⟨v, hv, rfl⟩)
theorem sp_nb_eq {w : Nat} (hI : pa_WH H) (hp : pa_PI H.1 p) (hw : w < 6) : ∀ (m t : Nat) (y : pa_X), pa_V H t y → t + m ≤ 3000000 → (sp_nb H p w (y.1 (77 + w)) m y = true ↔ (pa_tks H p m y).1 (77 + w) = y.1 (77 + w))
  | 0, t, y, _, _ => ⟨fun _ => rfl, fun _ => rfl⟩
  | m + 1, t, y, iv, ht => by
    obtain ⟨a, a1, a2, a3⟩ := pa_IB.at iv.2.2.2.2.2.2.1 hw
    obtain ⟨b, b1, b2⟩ := ((pa_tk_up hI hp iv (by omega)).2 w hw).2
    have iv' := iv.tk hI hp (p := p) (by omega)
    have ih := sp_nb_eq hI hp hw m (t + 1) (pa_tk H p y) iv' (by omega)
    rw [sp_nb]
    show _ ↔ (pa_tks H p m (pa_tk H p y)).1 (77 + w) = _
    by_cases c : (pa_tk H p y).1 (77 + w) = y.1 (77 + w)
    · rw [if_pos c, ← c]
      exact ih
    · rw [if_neg c]
      refine ⟨fun h => absurd h (by decide), fun h => ?_⟩
      exfalso
      obtain ⟨d, d1, d2⟩ := ((pa_tks_up hI hp m (t + 1) (pa_tk H p y) iv' (by omega)).2 w hw).2
      rw [d2, b2, a1, nI_add, nI_add] at h
      have := (nI_eq (by omega) (by omega)).mp h
      apply c
      rw [b2, a1, nI_add]
      congr 1
      omega
theorem pc_nbL {k w : Nat} (hI : pa_WH H) (hp : pa_PI H.1 p) (hk : k ≤ 99) (hw : w < 6) : ∀ (m i fuel t : Nat) (τ : ps_S) (y : pa_X), i + m = k → m < fuel → pa_V H t y → t + m ≤ 3000000 → pc_Y H x n P im tr tp fl σ0 p τ y → ps_ok (qX8_isNeverHeld_2 (nI w) (nI k) fuel (nI i) τ) (fun z υ => ((z = .inl 0 ∧ sp_nb H p w (x.1 (77 + w)) m y = false) ∨ ((∃ v, z = .inr v) ∧ sp_nb H p w (x.1 (77 + w)) m y = true)) ∧ pc_kp σ0 υ ∧ pc_W H x n P im tr tp fl υ) := by
  intro m
  induction m with
  | zero =>
    intro i fuel t τ y h1 h2 iv ht g
    obtain ⟨f, rfl⟩ : ∃ f, fuel = f + 1 := ⟨fuel - 1, by omega⟩
    rw [qX8_isNeverHeld_2]
    exact pz_t (nI_le (by omega) (by omega)) (pz_done ⟨Or.inr ⟨⟨_, rfl⟩, rfl⟩, g.2.1, g.2.2⟩)
  | succ m ih =>
    intro i fuel t τ y h1 h2 iv ht g
    obtain ⟨f, rfl⟩ : ∃ f, fuel = f + 1 := ⟨fuel - 1, by omega⟩
    rw [qX8_isNeverHeld_2, sp_nb]
    refine pz_e (nI_ge (by omega) (by omega)) ?_
    refine pz_bd (g.run1 hI hp iv (by omega)) (fun _ υ gu => ?_)
    refine pc_l17 gu.T hw rfl ?_
    refine pc_l17 gu.2.2.T hw rfl ?_
    refine pz_if (fun c => ?_) (fun c => ?_)
    · rw [if_pos c, pz_lt, nI_1]
      exact ih (i + 1) f (t + 1) υ (pa_tk H p y) (by omega) (by omega) (iv.tk hI hp (by omega)) (by omega) gu
    · rw [if_neg c]
      exact pz_done ⟨Or.inl ⟨rfl, rfl⟩, gu.2.1, gu.2.2⟩
theorem nI_dec (m : Nat) : nI (m + 1) + (-1) = nI m := by
  rw [← nI_1, Int32.add_assoc, show (1 : Int32) + (-1) = 0 by decide, Int32.add_zero]
theorem pc_beL {k w : Nat} (hI : pa_WH H) (hk1 : 1 ≤ k) (hk : k ≤ 99) (hw : w < H.2.2.2) (iv : pa_V H t x) (ht : t + 100 ≤ 3000000) : ∀ (m fuel : Nat) (i : Int32) (τ : ps_S), m ≤ 100 → i = nI m + (-1) → m < fuel → pc_kp σ0 τ → pc_W H x n P im tr tp fl τ → ps_ok (qX8_bears_27 (nI w) (nI k) fuel i τ) (fun z υ => sp_z (sp_down (fun v => decide ((pa_tks H (pa_p0 H.1) k (pa_xw x w v)).1 (77 + w) = x.1 (77 + w))) m) z ∧ pc_kp σ0 υ ∧ pc_O H.1 υ) := by
  intro m
  obtain ⟨hp, -⟩ := pa_p0I hI
  have hW := hI.1.2.2.1.2
  induction m with
  | zero =>
    intro fuel i τ h0 hi h2 kp ww
    obtain ⟨f, rfl⟩ : ∃ f, fuel = f + 1 := ⟨fuel - 1, by omega⟩
    rw [qX8_bears_27]
    exact pz_t (by rw [hi]; decide) (pz_done ⟨Or.inr ⟨⟨_, rfl⟩, rfl⟩, kp, ww.1.2.2⟩)
  | succ m ih =>
    intro fuel i τ h0 hi h2 kp ww
    obtain ⟨f, rfl⟩ : ∃ f, fuel = f + 1 := ⟨fuel - 1, by omega⟩
    rw [nI_dec] at hi
    subst hi
    rw [qX8_bears_27, sp_down]
    refine pz_e (nI_pos (by omega)) ?_
    refine pz_bd (ww.go hI) (fun _ υ g => ?_)
    refine pc_w13 g.T hW hw rfl (fun ω gw => ?_)
    have g2 : pc_Y H x n P im tr tp fl τ (pa_p0 H.1) ω (pa_xw x w m) := g.to (gw.1.S (pa_all_congr (fun k hk => (upd_ne _ _ (by omega)).symm)) (fun d hd => pa_don_congr hI.1.2.1.2 (fun k hk => (upd_ne _ _ (by omega)).symm))) gw.2
    have ivw := pa_xwV (v := m) hI iv hw (by omega)
    have e77 : (pa_xw x w m).1 (77 + w) = x.1 (77 + w) := upd_ne _ _ (by omega)
    have nb : ps_ok (qX8_isNeverHeld (nI w) (nI k) ω) (fun v ψ => v = (if decide ((pa_tks H (pa_p0 H.1) k (pa_xw x w m)).1 (77 + w) = x.1 (77 + w)) = true then 1 else 0) ∧ pc_kp τ ψ ∧ pc_W H x n P im tr tp fl ψ) := by
      have key := sp_nb_eq hI hp (show w < 6 by omega) k t (pa_xw x w m) ivw (by omega)
      rw [e77] at key
      unfold qX8_isNeverHeld
      refine pz_bd (pc_nbL (k := k) hI hp hk (show w < 6 by omega) k 0 ps_N t ω (pa_xw x w m) (by omega) (by unfold ps_N; omega) ivw (by omega) g2) (fun z ψ hz => ?_)
      obtain ⟨hz, hz2⟩ := hz
      rcases hz with ⟨rfl, e⟩ | ⟨⟨v, rfl⟩, e⟩
      · have : ¬ decide ((pa_tks H (pa_p0 H.1) k (pa_xw x w m)).1 (77 + w) = x.1 (77 + w)) = true := fun hh => by
          have := key.mpr (of_decide_eq_true hh)
          rw [e] at this
          exact absurd this (by decide)
        rw [if_neg this]; exact pz_done ⟨rfl, hz2⟩
      · rw [if_pos (decide_eq_true (key.mp e))]; exact pz_done ⟨rfl, hz2⟩
    refine pz_bd nb (fun v ψ hv => ?_)
    obtain ⟨rfl, k2, w2⟩ := hv
    by_cases c : decide ((pa_tks H (pa_p0 H.1) k (pa_xw x w m)).1 (77 + w) = x.1 (77 + w)) = true
    · rw [if_pos c, if_pos c]
      exact pz_e (by decide) (pz_done ⟨Or.inl rfl, kp.tr k2, w2.1.2.2⟩)
    · rw [if_neg c, if_neg c]
      refine pz_t rfl ?_
      rw [pz_lt]
      exact ih f (nI m + (-1)) ψ (by omega) rfl (by omega) (kp.tr k2) w2
theorem pg_beL {k w : Nat} (hI : pa_WH H) (hk1 : 1 ≤ k) (hk : k ≤ 99) (hw : w < H.2.2.2) (iv : pa_V H t x) (ht : t + 100 ≤ 3000000) : ∀ (m fuel : Nat) (i : Int32) (τ : ps_S), m ≤ 100 → i = nI m + (-1) → m < fuel → pg_kp σ0 τ → pg_W H x n P im tr tp fl τ → ps_ok (qX9_bears_35 (nI w) (nI k) fuel i τ) (fun z υ => sp_z (sp_down (fun v => decide ((pa_tks H (pa_p0 H.1) k (pa_xw x w v)).1 (77 + w) = x.1 (77 + w))) m) z ∧ pg_kp σ0 υ) := by
  intro m
  obtain ⟨hp, -⟩ := pa_p0I hI
  have hW := hI.1.2.2.1.2
  induction m with
  | zero =>
    intro fuel i τ h0 hi h2 kp ww
    obtain ⟨f, rfl⟩ : ∃ f, fuel = f + 1 := ⟨fuel - 1, by omega⟩
    rw [qX9_bears_35]
    exact pz_t (by rw [hi]; decide) (pz_done ⟨Or.inr ⟨⟨_, rfl⟩, rfl⟩, kp⟩)
  | succ m ih =>
    intro fuel i τ h0 hi h2 kp ww
    obtain ⟨f, rfl⟩ : ∃ f, fuel = f + 1 := ⟨fuel - 1, by omega⟩
    rw [nI_dec] at hi
    subst hi
    rw [qX9_bears_35, sp_down]
    refine pz_e (nI_pos (by omega)) ?_
    refine pz_bd (ww.go hI) (fun _ υ g => ?_)
    refine pg_w g.1 (k := 53 + w) (by omega) (by omega) (by omega) (pz_a53 w) (fun ω gw => ?_)
    have kw := gw.2.2.2.2.kp
    have g2 : pg_Y H x n P im tr tp fl τ (pa_p0 H.1) ω (pa_xw x w m) := ⟨gw.re (pg_fr.rf _), g.2.1.tr kw, kw.W g.2.2⟩
    have ivw := pa_xwV (v := m) hI iv hw (by omega)
    have e77 : (pa_xw x w m).1 (77 + w) = x.1 (77 + w) := upd_ne _ _ (by omega)
    refine pg_l g2.1 (k := 77 + w) (by omega) (by omega) (by omega) (pz_a77 w) ?_
    rw [e77]
    refine pz_bd (g2.ticks hI hp ivw (by omega) (by omega)) (fun _ ψ g3 => ?_)
    refine pg_l g3.1 (k := 77 + w) (by omega) (by omega) (by omega) (pz_a77 w) ?_
    refine pz_if (fun c => ?_) (fun c => ?_)
    · rw [if_pos (decide_eq_true c)]
      exact pz_done ⟨Or.inl rfl, kp.tr g3.2.1⟩
    · rw [if_neg (fun hh => c (of_decide_eq_true hh)), pz_lt]
      exact ih f (nI m + (-1)) ψ (by omega) rfl (by omega) (kp.tr g3.2.1) g3.2.2
end ENOUGH
theorem pw_enough {T : Nat} {σ : ps_S} {p1 : Int32} (w : pw_W T σ) (hT : T ≤ 2990000) : pw_call T (qX8_enough p1) (qX9_enough p1) σ := by
  obtain ⟨H, x, n, P, im, tr, tp, fl, hW, hc, hg⟩ := w
  obtain ⟨t, t1, iv⟩ := hW.2.1
  obtain ⟨bg, b1, b2, b3⟩ := pa_bg hW.1.1
  by_cases c : p1 < 1 ∨ 99 < p1
  · refine pw_query (a := -3) hW hc hg ?_ (fun τ hg => ?_)
    · unfold qX8_enough
      refine pz_bd' (pc_i0 c) ?_
      exact pz_t rfl (pz_done ⟨rfl, pc_kp.rf _, hc.1.2.2⟩)
    · unfold qX9_enough
      refine pg_th hg (fun τ1 hg1 k1 => ?_)
      refine pz_bd' (pg_i0 (lo := 1) (hi := 99) (by decide) (by decide) c) ?_
      exact pz_t rfl (pz_done ⟨rfl, k1⟩)
  · obtain ⟨k, m1, m2, rfl⟩ := pa_num 1 99 (by decide) (by decide) c
    refine pw_query (a := sp_find (fun L => sp_nh H (pa_pl L) (pa_sum x.1 77 6) k x) (bg + 1) (999 - bg)) hW hc hg ?_ (fun τ hg => ?_)
    · unfold qX8_enough
      refine pz_bd' (pc_i1 (fun hh => c (Or.inl hh)) (fun hh => c (Or.inr hh))) ?_
      refine pz_e (by decide) ?_
      refine pz_l (hc.hH.1.2.1.trans b1) ?_
      rw [pz_lt, nI_1]
      refine pz_bd (pc_enL hW.1 m1 m2 iv (by omega) (999 - bg) (bg + 1) ps_N σ (by omega) (by unfold ps_N; omega) (by omega) (pc_kp.rf _) hc) (fun z υ hz => ?_)
      exact pz_res hz.1 hz.2
    · unfold qX9_enough
      refine pg_th hg (fun τ1 hg1 k1 => ?_)
      refine pz_bd' (pg_i1 (lo := 1) (hi := 99) (by decide) (by decide) (fun hh => c (Or.inl hh)) (fun hh => c (Or.inr hh))) ?_
      refine pz_e (by decide) ?_
      refine pz_l ((hg1.hd (by omega)).trans b1) ?_
      rw [pz_lt, nI_1]
      refine pz_bd (pg_enL hW.1 m1 m2 iv (by omega) (999 - bg) (bg + 1) ps_N τ1 (by omega) (by unfold ps_N; omega) (by omega) (pg_kp.rf _) hg1) (fun z υ hz => ?_)
      exact pz_res hz.1 (k1.tr hz.2)
theorem pw_bears {T : Nat} {σ : ps_S} {p1 p2 : Int32} (w : pw_W T σ) (hT : T ≤ 2990000) : pw_call T (qX8_bears p1 p2) (qX9_bears p1 p2) σ := by
  obtain ⟨H, x, n, P, im, tr, tp, fl, hW, hc, hg⟩ := w
  obtain ⟨t, t1, iv⟩ := hW.2.1
  have hWl := hW.1.1.2.2.1.2
  by_cases c : p1 < 0 ∨ nI H.2.2.2 ≤ p1
  · refine pw_query (a := -2) hW hc hg ?_ (fun τ hg => ?_)
    · unfold qX8_bears
      refine pz_bd' (pc_wri0 hW.1 hc.hH c) ?_
      exact pz_t rfl (pz_done ⟨rfl, pc_kp.rf _, hc.1.2.2⟩)
    · unfold qX9_bears
      refine pg_th hg (fun τ1 hg1 k1 => ?_)
      refine pz_bd' (pg_wri0 hW.1 hg1 c) ?_
      exact pz_t rfl (pz_done ⟨rfl, k1⟩)
  · obtain ⟨d, hd, rfl⟩ := pa_idx (by omega) c
    by_cases c2 : p2 < 1 ∨ 99 < p2
    · refine pw_query (a := -3) hW hc hg ?_ (fun τ hg => ?_)
      · unfold qX8_bears
        refine pz_bd' (pc_wri1 hW.1 hc.hH c) ?_
        refine pz_e (by decide) ?_
        refine pz_bd' (pc_i0 c2) ?_
        exact pz_t rfl (pz_done ⟨rfl, pc_kp.rf _, hc.1.2.2⟩)
      · unfold qX9_bears
        refine pg_th hg (fun τ1 hg1 k1 => ?_)
        refine pz_bd' (pg_wri1 hW.1 hg1 c) ?_
        refine pz_e (by decide) ?_
        refine pz_bd' (pg_i0 (lo := 1) (hi := 99) (by decide) (by decide) c2) ?_
        exact pz_t rfl (pz_done ⟨rfl, k1⟩)
    · obtain ⟨k, m1, m2, rfl⟩ := pa_num 1 99 (by decide) (by decide) c2
      refine pw_query (a := sp_down (fun v => decide ((pa_tks H (pa_p0 H.1) k (pa_xw x d v)).1 (77 + d) = x.1 (77 + d))) 100) hW hc hg ?_ (fun τ hg => ?_)
      · unfold qX8_bears
        refine pz_bd' (pc_wri1 hW.1 hc.hH c) ?_
        refine pz_e (by decide) ?_
        refine pz_bd' (pc_i1 (fun hh => c2 (Or.inl hh)) (fun hh => c2 (Or.inr hh))) ?_
        refine pz_e (by decide) ?_
        refine pz_bd (pc_beL hW.1 m1 m2 hd iv (by omega) 100 ps_N 99 σ (by decide) (by decide) (by unfold ps_N; decide) (pc_kp.rf _) hc) (fun z υ hz => ?_)
        exact pz_res hz.1 hz.2
      · unfold qX9_bears
        refine pg_th hg (fun τ1 hg1 k1 => ?_)
        refine pz_bd' (pg_wri1 hW.1 hg1 c) ?_
        refine pz_e (by decide) ?_
        refine pz_bd' (pg_i1 (lo := 1) (hi := 99) (by decide) (by decide) (fun hh => c2 (Or.inl hh)) (fun hh => c2 (Or.inr hh))) ?_
        refine pz_e (by decide) ?_
        refine pz_bd (pg_beL hW.1 m1 m2 hd iv (by omega) 100 ps_N 99 τ1 (by decide) (by decide) (by unfold ps_N; decide) (pg_kp.rf _) hg1) (fun z υ hz => ?_)
        exact pz_res hz.1 (k1.tr hz.2)
