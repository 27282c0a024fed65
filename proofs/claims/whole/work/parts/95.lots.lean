/-! stalls: sums over lots -/
def sp_su (g : Nat → Nat) : Nat → Nat
  | 0 => 0
  | n + 1 => sp_su g n + g n
theorem sp_su_congr {g h : Nat → Nat} : ∀ {n : Nat}, (∀ i, i < n → g i = h i) → sp_su g n = sp_su h n
  | 0, _ => rfl
  | n + 1, e => by rw [sp_su, sp_su, sp_su_congr (fun i hi => e i (by omega)), e n (by omega)]
theorem sp_su_add {g h : Nat → Nat} : ∀ n, sp_su (fun i => g i + h i) n = sp_su g n + sp_su h n
  | 0 => rfl
  | n + 1 => by rw [sp_su, sp_su, sp_su, sp_su_add n]; omega
theorem sp_su_mul {g : Nat → Nat} {a : Nat} : ∀ n, sp_su (fun i => a * g i) n = a * sp_su g n
  | 0 => rfl
  | n + 1 => by rw [sp_su, sp_su, sp_su_mul n, Nat.mul_add]
theorem sp_su_block {g : Nat → Nat} {N : Nat} : ∀ b, sp_su g (N + b) = sp_su g N + sp_su (fun i => g (N + i)) b
  | 0 => rfl
  | b + 1 => by
    rw [← Nat.add_assoc, sp_su, sp_su_block b, sp_su]
    omega
theorem sp_su_two {b : Nat} (hb : 0 < b) {g : Nat → Nat → Nat} : ∀ N, sp_su (fun i => g (i % b) (i / b)) (b * N) = sp_su (fun l => sp_su (fun j => g l j) N) b
  | 0 => by
    rw [Nat.mul_zero]
    have : ∀ n, sp_su (fun l => sp_su (fun j => g l j) 0) n = 0 := by
      intro n
      induction n with
      | zero => rfl
      | succ n ih => rw [sp_su, ih]; rfl
    rw [this]
    rfl
  | N + 1 => by
    rw [Nat.mul_add, Nat.mul_one, sp_su_block, sp_su_two hb N]
    have e : sp_su (fun i => g ((b * N + i) % b) ((b * N + i) / b)) b = sp_su (fun l => g l N) b := sp_su_congr (fun i hi => by
      rw [Nat.mul_add_mod, Nat.mod_eq_of_lt hi, Nat.mul_add_div hb, Nat.div_eq_of_lt hi, Nat.add_zero])
    rw [e, ← sp_su_add]
    exact sp_su_congr (fun i _ => rfl)
def pa_om (D l : Nat) : Nat := if l < D then 1 else 10 - D
def pa_ps (H : pa_H) (l : Nat) : pa_P := (H.1 10, (if l < H.2.1 then nI l else -1), -1, 0)
def pa_sl (H : pa_H) (l : Nat) (y : pa_X) : pa_X := pa_tks H (pa_ps H l) 10 y
def sp_L (H : pa_H) (f : pa_X → Nat) : Nat → pa_X → Nat
  | 0, y => f y
  | n + 1, y => sp_su (fun l => pa_om H.2.1 l * sp_L H f n (pa_sl H l y)) (H.2.1 + 1)
def sp_wt (D : Nat) : Nat → Nat → Nat
  | 0, _ => 1
  | n + 1, w => pa_om D (w % (D + 1)) * sp_wt D n (w / (D + 1))
def sp_en (H : pa_H) : Nat → Nat → pa_X → pa_X
  | 0, _, y => y
  | n + 1, w, y => sp_en H n (w / (H.2.1 + 1)) (pa_sl H (w % (H.2.1 + 1)) y)
theorem sp_LV {H : pa_H} {f : pa_X → Nat} : ∀ (n : Nat) (y : pa_X), sp_su (fun w => sp_wt H.2.1 n w * f (sp_en H n w y)) ((H.2.1 + 1) ^ n) = sp_L H f n y
  | 0, y => by
    rw [Nat.pow_zero]
    show 0 + 1 * f y = f y
    omega
  | n + 1, y => by
    rw [Nat.pow_succ, Nat.mul_comm, sp_L]
    have e := sp_su_two (b := H.2.1 + 1) (by omega) (g := fun l j => pa_om H.2.1 l * sp_wt H.2.1 n j * f (sp_en H n j (pa_sl H l y))) ((H.2.1 + 1) ^ n)
    have e2 : sp_su (fun w => sp_wt H.2.1 (n + 1) w * f (sp_en H (n + 1) w y)) ((H.2.1 + 1) * (H.2.1 + 1) ^ n) = sp_su (fun i => (fun l j => pa_om H.2.1 l * sp_wt H.2.1 n j * f (sp_en H n j (pa_sl H l y))) (i % (H.2.1 + 1)) (i / (H.2.1 + 1))) ((H.2.1 + 1) * (H.2.1 + 1) ^ n) := sp_su_congr (fun i _ => rfl)
    rw [e2, e]
    refine sp_su_congr (fun l _ => ?_)
    rw [← sp_LV n (pa_sl H l y), ← sp_su_mul]
    exact sp_su_congr (fun j _ => Nat.mul_assoc _ _ _)
theorem pa_om_sum {D : Nat} (hD : D ≤ 10) : sp_su (pa_om D) (D + 1) = 10 := by
  have : ∀ n, n ≤ D → sp_su (pa_om D) n = n := by
    intro n
    induction n with
    | zero => intro _; rfl
    | succ n ih =>
      intro h
      rw [sp_su, ih (by omega)]
      unfold pa_om
      rw [if_pos (by omega)]
  rw [sp_su, this D (Nat.le_refl _)]
  unfold pa_om
  rw [if_neg (by omega)]
  omega
theorem sp_L_le {H : pa_H} {f : pa_X → Nat} {K : Nat} (hD : H.2.1 ≤ 4) (hf : ∀ y, f y ≤ K) : ∀ (n : Nat) (y : pa_X), sp_L H f n y ≤ 10 ^ n * K
  | 0, y => by rw [Nat.pow_zero, Nat.one_mul]; exact hf y
  | n + 1, y => by
    have ih := sp_L_le (f := f) hD hf n
    have h1 : ∀ m, sp_su (fun l => pa_om H.2.1 l * sp_L H f n (pa_sl H l y)) m ≤ sp_su (pa_om H.2.1) m * (10 ^ n * K) := by
      intro m
      induction m with
      | zero => exact Nat.zero_le _
      | succ m ihm =>
        rw [sp_su, sp_su, Nat.add_mul]
        exact Nat.add_le_add ihm (Nat.mul_le_mul_left _ (ih _))
    have := h1 (H.2.1 + 1)
    rw [pa_om_sum (by omega)] at this
    rw [sp_L, Nat.pow_succ, Nat.mul_comm (10 ^ n) 10, Nat.mul_assoc]
    exact this
theorem sp_wt_le {D : Nat} (hD : D ≤ 4) : ∀ n w, sp_wt D n w ≤ 10 ^ n
  | 0, w => Nat.le_refl _
  | n + 1, w => by
    have h1 : pa_om D (w % (D + 1)) ≤ 10 := by
      unfold pa_om
      by_cases c : w % (D + 1) < D
      · rw [if_pos c]; omega
      · rw [if_neg c]; omega
    rw [sp_wt, Nat.pow_succ, Nat.mul_comm (10 ^ n)]
    exact Nat.mul_le_mul h1 (sp_wt_le hD n _)
theorem pz_and {α : Type} {q : Option (α × ps_S)} {P Q : α → ps_S → Prop} (h : ps_ok q P) (g : ps_ok q Q) : ps_ok q (fun a τ => P a τ ∧ Q a τ) := by
  obtain ⟨x, e1, h1⟩ := h
  obtain ⟨z, e2, h2⟩ := g
  have : x = z := Option.some.inj (e1.symm.trans e2)
  subst this
  exact ⟨x, e1, h1, h2⟩
section LOTS
variable {H : pa_H} {x : pa_X} {n : Nat} {P : Nat → pa_X} {im : pa_Im} {tr : pa_Tr} {tp : pa_Tp} {fl : Int32 × Int32} {σ0 σ τ : ps_S} {p : pa_P} {y : pa_X} {t : Nat}
theorem pa_psI (hI : pa_WH H) (l : Nat) : pa_PI H.1 (pa_ps H l) := (pa_p0I hI).1
/-- the class goes a way -/
theorem pc_wayL {y1 : Int32} {k : Nat} (hI : pa_WH H) (hk : k ≤ 3) : ∀ (m i fuel t way acc : Nat) (p : pa_P) (τ : ps_S) (y : pa_X), i + m = k → m < fuel → way < 2 ^ 31 → p.1 = H.1 10 → p.2.2 = (-1, 0) → pa_V H t y → t + 10 * m ≤ 3000000 → pc_Y H x n P im tr tp fl σ0 p τ y → ps_ok (qX8_goStalled_30 y1 (nI k) (nI (H.2.1 + 1)) fuel (nI way) (nI acc) (nI i) τ) (fun z υ => z.2.1 = nI (acc * sp_wt H.2.1 m way) ∧ ∃ q, pc_Y H x n P im tr tp fl σ0 q υ (sp_en H m way y)) := by
  intro m
  have hD := hI.1.1.2
  have hDe := hI.1.1.1
  induction m with
  | zero =>
    intro i fuel t way acc p τ y h1 h2 hw hp1 hp2 iv ht g
    obtain ⟨f, rfl⟩ : ∃ f, fuel = f + 1 := ⟨fuel - 1, by omega⟩
    rw [qX8_goStalled_30]
    exact pz_t (nI_le (by omega) (by omega)) (pz_done ⟨by rw [sp_wt, Nat.mul_one], p, g⟩)
  | succ m ih =>
    intro i fuel t way acc p τ y h1 h2 hw hp1 hp2 iv ht g
    obtain ⟨f, rfl⟩ : ∃ f, fuel = f + 1 := ⟨fuel - 1, by omega⟩
    have hb0 : ¬ nI (H.2.1 + 1) = 0 := nI_ne0 (by omega) (by omega)
    have hml := Nat.mod_lt way (show 0 < H.2.1 + 1 by omega)
    have hdl := Nat.div_le_self way (H.2.1 + 1)
    rw [qX8_goStalled_30]
    refine pz_e (nI_ge (by omega) (by omega)) ?_
    refine pz_nz hb0 ?_
    rw [nI_rem hw (by omega) (by omega), pz_lt]
    refine pz_nz hb0 ?_
    rw [nI_div hw (by omega), pz_lt]
    refine pz_l (g.1.2.1.1.2.2.2.2.2.2.2.1.trans hDe) ?_
    have hp' : ∀ q : pa_P, q.1 = H.1 10 → q.2.2 = (-1, 0) → pa_PI H.1 q := by
      intro q q1 q2
      have := (pa_p0I hI).1
      unfold pa_PI at this ⊢
      rw [q1]
      exact this
    by_cases c : way % (H.2.1 + 1) < H.2.1
    · refine pz_e (nI_ge c (by omega)) ?_
      rw [pz_lt]
      have g2 : pc_Y H x n P im tr tp fl σ0 (pa_ps H (way % (H.2.1 + 1))) (ps_rI τ 44 (upd (τ.1 44) 11 (nI (way % (H.2.1 + 1))))) y := by
        have q := g.to (q := (p.1, nI (way % (H.2.1 + 1)), p.2.2.1, p.2.2.2)) (z := y) g.1.1.set11 (pc_fb.I _ 0 _ (by decide))
        unfold pa_ps
        rw [if_pos c]
        rw [hp1, hp2] at q
        exact q
      refine pz_bd (g2.run (k := 10) hI (pa_psI hI _) iv (by omega) (by decide)) (fun _ υ gu => ?_)
      rw [pz_lt, nI_1]
      have ew : acc * sp_wt H.2.1 (m + 1) way = acc * sp_wt H.2.1 m (way / (H.2.1 + 1)) := by
        rw [sp_wt]
        unfold pa_om
        rw [if_pos c, Nat.one_mul]
      rw [ew]
      exact ih (i + 1) f (t + 10) (way / (H.2.1 + 1)) acc _ υ (pa_sl H (way % (H.2.1 + 1)) y) (by omega) (by omega) (by omega) rfl rfl (iv.tks hI (pa_psI hI _) (by omega)) (by omega) gu
    · refine pz_t (nI_le (by omega) (by omega)) ?_
      rw [pz_lt]
      have g2 : pc_Y H x n P im tr tp fl σ0 (pa_ps H (way % (H.2.1 + 1))) (ps_rI τ 44 (upd (τ.1 44) 11 (-1))) y := by
        have q := g.to (q := (p.1, -1, p.2.2.1, p.2.2.2)) (z := y) g.1.1.set11 (pc_fb.I _ 0 _ (by decide))
        unfold pa_ps
        rw [if_neg c]
        rw [hp1, hp2] at q
        exact q
      refine pz_l (g2.1.2.1.1.2.2.2.2.2.2.2.1.trans hDe) ?_
      have e10 : (10 : Int32) - nI H.2.1 = nI (10 - H.2.1) := nI_sub (a := 10) (b := H.2.1) (by omega)
      rw [e10, nI_mul, pz_lt]
      refine pz_bd (g2.run (k := 10) hI (pa_psI hI _) iv (by omega) (by decide)) (fun _ υ gu => ?_)
      rw [pz_lt, nI_1]
      have ew : acc * sp_wt H.2.1 (m + 1) way = acc * (10 - H.2.1) * sp_wt H.2.1 m (way / (H.2.1 + 1)) := by
        rw [sp_wt, Nat.mul_assoc]
        unfold pa_om
        rw [if_neg c]
      rw [ew]
      exact ih (i + 1) f (t + 10) (way / (H.2.1 + 1)) (acc * (10 - H.2.1)) _ υ (pa_sl H (way % (H.2.1 + 1)) y) (by omega) (by omega) (by omega) rfl rfl (iv.tks hI (pa_psI hI _) (by omega)) (by omega) gu
theorem pc_way {k way : Nat} (hI : pa_WH H) (hk : k ≤ 3) (hw : way < 2 ^ 31) (iv : pa_V H t x) (ht : t + 30 ≤ 3000000) (w : pc_W H x n P im tr tp fl σ) : ps_ok (qX8_goStalled (nI way) (nI k) σ) (fun v υ => v = nI (sp_wt H.2.1 k way) ∧ υ.1 44 9 = pa_all (sp_en H k way x).1 ∧ pc_kp σ υ ∧ pc_W H x n P im tr tp fl υ) := by
  have hDe := hI.1.1.1
  unfold qX8_goStalled
  refine pz_bd (w.go hI) (fun _ τ g => ?_)
  refine pz_l (g.1.2.1.1.2.2.2.2.2.2.2.1.trans hDe) ?_
  rw [nI_1, pz_lt]
  refine pz_bd (pc_wayL (k := k) hI hk k 0 ps_N t way 1 (pa_p0 H.1) τ x (by omega) (by unfold ps_N; omega) hw rfl rfl iv (by omega) g) (fun z υ hz => ?_)
  obtain ⟨z1, z2, z3⟩ := z
  obtain ⟨e, q, gu⟩ := hz
  rw [Nat.one_mul] at e
  exact pz_done ⟨e, gu.1.1.2.2.1, gu.2.1, gu.2.2⟩
theorem pc_power {b k : Nat} (hk : k < 100) : ps_ok (qX8_power (nI b) (nI k) σ) (fun v τ => v = nI (b ^ k) ∧ τ = σ) := by
  have L : ∀ (m i fuel : Nat), i + m = k → m < fuel → ps_ok (qX8_power_4 (nI b) (nI k) fuel (nI (b ^ i)) (nI i) σ) (fun z τ => z.1 = nI (b ^ k) ∧ τ = σ) := by
    intro m
    induction m with
    | zero =>
      intro i fuel h1 h2
      obtain ⟨f, rfl⟩ : ∃ f, fuel = f + 1 := ⟨fuel - 1, by omega⟩
      have e : i = k := by omega
      rw [qX8_power_4, e]
      exact pz_t (nI_le (by omega) (by omega)) (pz_done ⟨rfl, rfl⟩)
    | succ m ih =>
      intro i fuel h1 h2
      obtain ⟨f, rfl⟩ : ∃ f, fuel = f + 1 := ⟨fuel - 1, by omega⟩
      rw [qX8_power_4]
      refine pz_e (nI_ge (by omega) (by omega)) ?_
      rw [pz_lt, pz_lt, nI_mul, nI_1, ← Nat.pow_succ]
      exact ih (i + 1) f (by omega) (by omega)
  unfold qX8_power
  refine pz_bd (L k 0 ps_N (by omega) (by unfold ps_N; omega)) (fun z τ hz => ?_)
  obtain ⟨z1, z2⟩ := z
  exact pz_done hz
theorem pg_power {k : Nat} (hk : k < 100) : ps_ok (qX9_wholeOf (nI k) σ) (fun v τ => v = lN (10 ^ k) ∧ τ = σ) := by
  have L : ∀ (m i fuel : Nat), i + m = k → m < fuel → ps_ok (qX9_wholeOf_4 (nI k) fuel (lN (10 ^ i)) (nI i) σ) (fun z τ => z.1 = lN (10 ^ k) ∧ τ = σ) := by
    intro m
    induction m with
    | zero =>
      intro i fuel h1 h2
      obtain ⟨f, rfl⟩ : ∃ f, fuel = f + 1 := ⟨fuel - 1, by omega⟩
      have e : i = k := by omega
      rw [qX9_wholeOf_4, e]
      exact pz_t (nI_le (by omega) (by omega)) (pz_done ⟨rfl, rfl⟩)
    | succ m ih =>
      intro i fuel h1 h2
      obtain ⟨f, rfl⟩ : ∃ f, fuel = f + 1 := ⟨fuel - 1, by omega⟩
      rw [qX9_wholeOf_4]
      refine pz_e (nI_ge (by omega) (by omega)) ?_
      have e10 : lN (10 ^ i) * 10 = lN (10 ^ (i + 1)) := by rw [Nat.pow_succ]; exact lN_mul (10 ^ i) 10
      rw [e10, pz_lt, pz_lt, nI_1]
      exact ih (i + 1) f (by omega) (by omega)
  unfold qX9_wholeOf
  refine pz_bd (L k 0 ps_N (by omega) (by unfold ps_N; omega)) (fun z τ hz => ?_)
  obtain ⟨z1, z2⟩ := z
  exact pz_done hz
def pa_fk (k : Nat) (y : pa_X) : Nat := if nI k ≤ pa_all y.1 then 0 else 1
def pa_fa (y : pa_X) : Nat := (pa_all y.1).toNatClampNeg
/-- the class's sums over all ways -/
theorem pc_chL {k q : Nat} {y3 : Int32} {N : Nat} (hI : pa_WH H) (hq : q ≤ 3) (hN : N < 2 ^ 31) (iv : pa_V H t x) (ht : t + 30 ≤ 3000000) : ∀ (m i fuel : Nat) (τ : ps_S), i + m = N → m < fuel → pc_kp σ0 τ → pc_W H x n P im tr tp fl τ → ps_ok (qX8_chance_56 (nI k) (nI q) y3 (nI N) fuel (nI (sp_su (fun w => sp_wt H.2.1 q w * pa_fk k (sp_en H q w x)) i)) (nI i) τ) (fun z υ => z.1 = nI (sp_su (fun w => sp_wt H.2.1 q w * pa_fk k (sp_en H q w x)) N) ∧ pc_kp σ0 υ ∧ pc_W H x n P im tr tp fl υ) := by
  intro m
  induction m with
  | zero =>
    intro i fuel τ h1 h2 kp w
    obtain ⟨f, rfl⟩ : ∃ f, fuel = f + 1 := ⟨fuel - 1, by omega⟩
    have e : i = N := by omega
    rw [qX8_chance_56, e]
    exact pz_t (nI_le (by omega) (by omega)) (pz_done ⟨rfl, kp, w⟩)
  | succ m ih =>
    intro i fuel τ h1 h2 kp w
    obtain ⟨f, rfl⟩ : ∃ f, fuel = f + 1 := ⟨fuel - 1, by omega⟩
    have ih' := fun υ a b => ih (i + 1) f υ (by omega) (by omega) a b
    rw [qX8_chance_56]
    refine pz_e (nI_ge (by omega) (by omega)) ?_
    refine pz_bd (pc_way hI hq (show i < 2 ^ 31 by omega) iv ht w) (fun v υ hv => ?_)
    obtain ⟨rfl, h9, k2, w2⟩ := hv
    refine pz_l h9 ?_
    refine pz_if (fun c => ?_) (fun c => ?_)
    · have e : sp_su (fun w => sp_wt H.2.1 q w * pa_fk k (sp_en H q w x)) (i + 1) = sp_su (fun w => sp_wt H.2.1 q w * pa_fk k (sp_en H q w x)) i := by
        rw [sp_su]
        unfold pa_fk
        rw [if_pos c, Nat.mul_zero, Nat.add_zero]
      have := ih' υ (kp.tr k2) w2
      rw [e] at this
      rw [pz_lt, nI_1]
      exact this
    · have e : sp_su (fun w => sp_wt H.2.1 q w * pa_fk k (sp_en H q w x)) (i + 1) = sp_su (fun w => sp_wt H.2.1 q w * pa_fk k (sp_en H q w x)) i + sp_wt H.2.1 q i := by
        rw [sp_su]
        have : pa_fk k (sp_en H q i x) = 1 := by unfold pa_fk; rw [if_neg c]
        rw [this, Nat.mul_one]
      have := ih' υ (kp.tr k2) w2
      rw [e] at this
      rw [nI_add, pz_lt, pz_lt, nI_1]
      exact this
theorem sp_enV (hI : pa_WH H) : ∀ (k w t : Nat) (y : pa_X), pa_V H t y → t + 10 * k ≤ 3000000 → pa_V H (t + 10 * k) (sp_en H k w y)
  | 0, w, t, y, iv, _ => iv
  | k + 1, w, t, y, iv, ht => by
    have := sp_enV hI k (w / (H.2.1 + 1)) (t + 10) (pa_sl H (w % (H.2.1 + 1)) y) (iv.tks hI (pa_psI hI _) (by omega)) (by omega)
    rw [show t + 10 * (k + 1) = t + 10 + 10 * k by omega]
    exact this
theorem pa_faE (iv : pa_V H t y) : pa_all y.1 = nI (pa_fa y) ∧ pa_fa y ≤ 999 := by
  have e := pa_all_nI iv.1.1
  have h := iv.1.1.2.2.1
  unfold pa_fa
  rw [e, nI_clamp (by omega)]
  exact ⟨rfl, h⟩
theorem pc_meL {q : Nat} {y2 : Int32} {N : Nat} (hI : pa_WH H) (hq : q ≤ 3) (hN : N < 2 ^ 31) (iv : pa_V H t x) (ht : t + 30 ≤ 3000000) : ∀ (m i fuel : Nat) (τ : ps_S), i + m = N → m < fuel → pc_kp σ0 τ → pc_W H x n P im tr tp fl τ → ps_ok (qX8_mean_44 (nI q) y2 (nI N) fuel (nI (sp_su (fun w => sp_wt H.2.1 q w * pa_fa (sp_en H q w x)) i)) (nI i) τ) (fun z υ => z.1 = nI (sp_su (fun w => sp_wt H.2.1 q w * pa_fa (sp_en H q w x)) N) ∧ pc_kp σ0 υ ∧ pc_W H x n P im tr tp fl υ) := by
  intro m
  induction m with
  | zero =>
    intro i fuel τ h1 h2 kp w
    obtain ⟨f, rfl⟩ : ∃ f, fuel = f + 1 := ⟨fuel - 1, by omega⟩
    have e : i = N := by omega
    rw [qX8_mean_44, e]
    exact pz_t (nI_le (by omega) (by omega)) (pz_done ⟨rfl, kp, w⟩)
  | succ m ih =>
    intro i fuel τ h1 h2 kp w
    obtain ⟨f, rfl⟩ : ∃ f, fuel = f + 1 := ⟨fuel - 1, by omega⟩
    rw [qX8_mean_44]
    refine pz_e (nI_ge (by omega) (by omega)) ?_
    refine pz_bd (pc_way hI hq (show i < 2 ^ 31 by omega) iv ht w) (fun v υ hv => ?_)
    obtain ⟨rfl, h9, k2, w2⟩ := hv
    refine pz_l (h9.trans (pa_faE (sp_enV hI q i t x iv (by omega))).1) ?_
    rw [nI_mul, nI_add, pz_lt, pz_lt, nI_1]
    exact ih (i + 1) f υ (by omega) (by omega) (kp.tr k2) w2
end LOTS
