/-! the share of a device; pauses -/
theorem pa_sum_congr {f g : pa_R} {a : Nat} : ∀ {n : Nat}, (∀ i, i < n → f (a + i) = g (a + i)) → pa_sum f a n = pa_sum g a n
  | 0, _ => rfl
  | n + 1, h => by rw [pa_sum, pa_sum, pa_sum_congr (fun i hi => h i (by omega)), h n (by omega)]
theorem pa_sN_ext {r : pa_R} {a n : Nat} : ∀ m, (∀ i, n ≤ i → i < n + m → r (a + i) = 0) → pa_sN r a (n + m) = pa_sN r a n
  | 0, _ => rfl
  | m + 1, h => by
    rw [← Nat.add_assoc, pa_sN, pa_sN_ext m (fun i h1 h2 => h i h1 (by omega))]
    unfold pa_N
    rw [h (n + m) (by omega) (by omega)]
    rfl
theorem pg_T.sum {h : pa_R} {D W a n : Nat} {σ0 σ : ps_S} {r : pa_R} {e : pa_D} {p : pa_P} (g : pg_T h D W σ0 σ r e p) (ha : a + n ≤ 83) (h1 : a + n ≤ 25 ∨ 29 ≤ a) (h2 : a + n ≤ 53 + W ∨ 59 ≤ a) : qX9_sumOf (nI a) (nI n) σ = some (pa_sum r a n, σ) := by
  rw [pg_sum a n ha σ, pa_sum_congr (g := r) (fun i hi => by rw [← g.1, pg_rd (by omega) (by omega) (by omega)])]
theorem pg_T.all {h : pa_R} {D W : Nat} {σ0 σ : ps_S} {r : pa_R} {e : pa_D} {p : pa_P} (g : pg_T h D W σ0 σ r e p) : qX9_allNow σ = some (pa_all r, σ) := by
  rw [pg_all, pg_all' (D := D) (W := W), g.1]
def pa_IK (r : pa_R) (D : Nat) : Prop := ∀ d, d < 4 → pa_NN (r (37 + d)) ∧ pa_N r (37 + d) ≤ 20000 ∧ (D ≤ d → r (37 + d) = 0)
def pa_sh (r : pa_R) (L D d : Nat) : Nat := max 1 (if pa_sN r 37 4 = 0 then L / D else L * pa_N r (37 + d) / pa_sN r 37 4)
theorem pa_IK.sN {r : pa_R} {D : Nat} (h : pa_IK r D) : pa_sN r 37 4 ≤ 80000 := by
  have h0 := (h 0 (by omega)).2.1
  have h1 := (h 1 (by omega)).2.1
  have h2 := (h 2 (by omega)).2.1
  have h3 := (h 3 (by omega)).2.1
  simp only [pa_sN]
  omega
theorem pa_IK.ext {r : pa_R} {D : Nat} (h : pa_IK r D) (hD : D ≤ 4) : pa_sN r 37 4 = pa_sN r 37 D := by
  have q := pa_sN_ext (r := r) (a := 37) (n := D) (4 - D) (fun i h1 h2 => (h i (by omega)).2.2 h1)
  rw [show D + (4 - D) = 4 by omega] at q
  exact q
theorem pa_IK.sum {r : pa_R} {D n : Nat} (h : pa_IK r D) (hn : n ≤ 4) : pa_sum r 37 n = nI (pa_sN r 37 n) := pa_sum_nI (fun i hi => (h i (by omega)).1)
theorem pa_shR {r : pa_R} {L D d : Nat} (hL : L ≤ 999) (h1 : 1 ≤ L) (hd : d < 4) : 1 ≤ pa_sh r L D d ∧ pa_sh r L D d ≤ 999 := by
  unfold pa_sh
  have h2 : pa_N r (37 + d) ≤ pa_sN r 37 4 := pa_sN_ge (by omega) (by omega)
  by_cases c : pa_sN r 37 4 = 0
  · rw [if_pos c]
    have := Nat.div_le_self L D
    omega
  · rw [if_neg c]
    have : L * pa_N r (37 + d) / pa_sN r 37 4 ≤ L := Nat.div_le_of_le_mul (by rw [Nat.mul_comm]; exact Nat.mul_le_mul_right _ h2)
    omega
theorem nI_mul (a b : Nat) : nI a * nI b = nI (a * b) := (Int32.ofNat_mul a b).symm
theorem nI_max1 {q : Nat} (h : q < 2 ^ 31) : (if 1 < nI q then nI q else 1) = nI (max 1 q) := by
  by_cases c : 1 < q
  · have c1 : (1 : Int32) < nI q := nI_lt (a := 1) c h
    rw [if_pos c1, Nat.max_eq_right (by omega)]
  · have c1 : ¬ (1 : Int32) < nI q := nI_nlt (a := 1) (b := q) (by omega) (by omega)
    rw [if_neg c1, Nat.max_eq_left (by omega)]; rfl
section SHC
variable {h : pa_R} {D F W B d L : Nat} {σ0 σ : ps_S} {r : pa_R} {e : pa_D} {a : Int32} {dd : pa_R} {p : pa_P}
theorem pc_shL {y : Int32} (hI : pa_HI h D F W) (hH : pc_H 12 h D F W σ) (g : pc_T D W B σ0 σ r e a dd p) : ∀ (m k fuel : Nat), k + m = D → m < fuel → ps_ok (qX0_shareOf_5 B y fuel (pa_sum r 37 k) (nI k) σ) (fun z τ => z = (pa_sum r 37 D, nI D) ∧ τ = σ) := by
  intro m
  have hD := hI.1.2
  have hDe := hI.1.1
  induction m with
  | zero =>
    intro k fuel h1 h2
    obtain ⟨f, rfl⟩ : ∃ f, fuel = f + 1 := ⟨fuel - 1, by omega⟩
    have : k = D := by omega
    subst this
    rw [qX0_shareOf_5]
    refine pz_l hH.1.2.2.2.2.2.2.2.1 ?_
    rw [hDe]
    exact pz_t (nI_le (by omega) (by omega)) (pz_done ⟨rfl, rfl⟩)
  | succ m ih =>
    intro k fuel h1 h2
    obtain ⟨f, rfl⟩ : ∃ f, fuel = f + 1 := ⟨fuel - 1, by omega⟩
    rw [qX0_shareOf_5]
    refine pz_l hH.1.2.2.2.2.2.2.2.1 ?_
    rw [hDe]
    refine pz_e (nI_ge (by omega) (by omega)) ?_
    refine pc_l7 g (i := k) (by omega) rfl ?_
    rw [pz_lt, pz_lt, nI_1]
    exact ih (k + 1) f (by omega) (by omega)
theorem pc_share (hI : pa_HI h D F W) (hH : pc_H 12 h D F W σ) (g : pc_T D W B σ0 σ r e a dd p) (hK : pa_IK r D) (hd : d < D) (hL : p.1 = nI L) (L1 : 1 ≤ L) (L2 : L ≤ 999) : ps_ok (qX0_shareOf B (nI d) σ) (fun v τ => v = nI (pa_sh r L D d) ∧ τ = σ) := by
  have hD := hI.1.2
  have hDe := hI.1.1
  have hs := hK.sN
  have hN := (hK d (by omega)).2.1
  unfold qX0_shareOf
  refine pz_bd (pc_shL hI hH g D 0 ps_N (by omega) (by unfold ps_N; omega)) (fun z τ ez => ?_)
  obtain ⟨rfl, rfl⟩ := ez
  rw [hK.sum hD, ← hK.ext hD]
  unfold pa_sh
  by_cases c : pa_sN r 37 4 = 0
  · rw [if_pos c, c]
    refine pz_t (by decide) ?_
    refine pz_l hH.1.2.2.2.2.2.2.2.1 ?_
    rw [hDe]
    refine pz_e (nI_nle (by omega) (by omega)) ?_
    refine pc_lp g ?_
    refine pz_l hH.1.2.2.2.2.2.2.2.1 ?_
    rw [hDe, hL]
    refine pz_nz (nI_ne0 (by omega) (by omega)) ?_
    have hq := Nat.div_le_self L D
    rw [pz_lt, pz_lt, nI_div (by omega) (by omega), nI_max1 (by omega)]
    exact pz_done ⟨rfl, rfl⟩
  · rw [if_neg c]
    refine pz_e (nI_nle (by omega) (by omega)) ?_
    refine pc_lp g ?_
    refine pc_l7 g (i := d) (by omega) rfl ?_
    refine pz_nz (nI_ne0 (by omega) (by omega)) ?_
    have e1 := (pa_NNe (hK d (by omega)).1).1
    have e2 : r (37 + d) = nI (pa_N r (37 + d)) := e1
    have hm : L * pa_N r (37 + d) ≤ 999 * 20000 := Nat.mul_le_mul L2 hN
    have hq := Nat.div_le_self (L * pa_N r (37 + d)) (pa_sN r 37 4)
    rw [pz_lt, pz_lt, hL, e2, nI_mul, nI_div (by omega) (by omega), nI_max1 (by omega)]
    exact pz_done ⟨rfl, rfl⟩
end SHC
theorem lN_div {a b : Nat} (ha : a < 2 ^ 31) (hb : b < 2 ^ 31) : lN a / lN b = lN (a / b) := by
  apply Int64.toInt_inj.mp
  have h3 : a / b ≤ a := Nat.div_le_self a b
  rw [Int64.toInt_div, lN_toInt ha, lN_toInt hb, ← Int.ofNat_tdiv, lN_toInt (by omega)]
  have h4 : (0 : Int) ≤ ((a / b : Nat) : Int) := Int.natCast_nonneg _
  have h5 : ((a / b : Nat) : Int) < 2147483648 := by omega
  generalize ((a / b : Nat) : Int) = z at h4 h5
  rw [Int.bmod_eq_of_le (by omega) (by omega)]
section SHG
variable {h : pa_R} {D F W d L : Nat} {σ0 σ : ps_S} {r : pa_R} {e : pa_D} {p : pa_P}
theorem pg_max1 {q : Nat} {σ : ps_S} {P : Int32 → ps_S → Prop} (hq : q < 2 ^ 31) (hh : P (nI (max 1 q)) σ) : ps_ok (if 1 ≤ nI q then some (nI q, σ) else some (1, σ)) P := by
  by_cases c : 1 ≤ q
  · have c1 : (1 : Int32) ≤ nI q := nI_le (a := 1) c hq
    rw [if_pos c1]
    rw [Nat.max_eq_right c] at hh
    exact pz_done hh
  · have c1 : ¬ (1 : Int32) ≤ nI q := nI_ge (a := q) (b := 1) (by omega) (by omega)
    rw [if_neg c1]
    rw [Nat.max_eq_left (by omega)] at hh
    exact pz_done hh
theorem pg_share (hI : pa_HI h D F W) (g : pg_T h D W σ0 σ r e p) (hK : pa_IK r D) (hd : d < D) (hL : p.1 = nI L) (L1 : 1 ≤ L) (L2 : L ≤ 999) : ps_ok (qX9_shareOf (nI d) σ) (fun v τ => v = nI (pa_sh r L D d) ∧ τ = σ) := by
  have hD := hI.1.2
  have hDe := hI.1.1
  have hs := hK.sN
  have hN := (hK d (by omega)).2.1
  have h37 : qX9_sumOf 37 4 σ = some (pa_sum r 37 4, σ) := g.sum (a := 37) (n := 4) (by omega) (by omega) (by omega)
  unfold qX9_shareOf
  refine pz_bd' h37 ?_
  rw [hK.sum (Nat.le_refl 4)]
  unfold pa_sh
  by_cases c : pa_sN r 37 4 = 0
  · rw [if_pos c, c]
    refine pz_t rfl ?_
    refine pg_lp g ?_
    refine pg_hl g 1 (by omega) ?_
    rw [hDe, hL]
    refine pz_nz (nI_ne0 (by omega) (by omega)) ?_
    have hq := Nat.div_le_self L D
    rw [pz_lt, nI_div (by omega) (by omega)]
    exact pg_max1 (by omega) ⟨rfl, rfl⟩
  · rw [if_neg c]
    refine pz_e (nI_ne0 (by omega) (by omega)) ?_
    refine pg_lp g ?_
    refine pg_l g (k := 37 + d) (by omega) (by omega) (by omega) (pz_a37 d) ?_
    have e1 := (pa_NNe (hK d (by omega)).1).1
    have e2 : r (37 + d) = nI (pa_N r (37 + d)) := e1
    have hm : L * pa_N r (37 + d) ≤ 999 * 20000 := Nat.mul_le_mul L2 hN
    have hq := Nat.div_le_self (L * pa_N r (37 + d)) (pa_sN r 37 4)
    have hz : ¬ (nI (pa_sN r 37 4)).toInt64 = 0 := by
      rw [nI_l (by omega)]
      exact fun hh => absurd ((lN_eq (a := pa_sN r 37 4) (b := 0) (by omega) (by omega)).mp hh) c
    refine pz_nz hz ?_
    rw [pz_lt, hL, e2, nI_l (n := L) (by omega), nI_l (n := pa_N r (37 + d)) (by omega), nI_l (n := pa_sN r 37 4) (by omega), lN_mul, lN_div (by omega) (by omega), lN_i]
    exact pg_max1 (by omega) ⟨rfl, rfl⟩
/-- dirty pages on a device; writers on it -/
theorem pg_donL (hI : pa_HI h D F W) (g : pg_T h D W σ0 σ r e p) (y : Int32) : ∀ (m k fuel : Nat), k + m = F → m < fuel → ps_ok (qX9_dirtyOn_4 y fuel (pa_don h r y k) (nI k) σ) (fun z τ => z = (pa_don h r y F, nI F) ∧ τ = σ) := by
  intro m
  have hF := hI.2.1.2
  have hFe := hI.2.1.1
  induction m with
  | zero =>
    intro k fuel h1 h2
    obtain ⟨f, rfl⟩ : ∃ f, fuel = f + 1 := ⟨fuel - 1, by omega⟩
    have : k = F := by omega
    subst this
    rw [qX9_dirtyOn_4]
    refine pg_hl g 2 (by omega) ?_
    rw [hFe]
    exact pz_t (nI_le (by omega) (by omega)) (pz_done ⟨rfl, rfl⟩)
  | succ m ih =>
    intro k fuel h1 h2
    obtain ⟨f, rfl⟩ : ∃ f, fuel = f + 1 := ⟨fuel - 1, by omega⟩
    have ih' := ih (k + 1) f (by omega) (by omega)
    rw [pa_don] at ih'
    rw [qX9_dirtyOn_4]
    refine pg_hl g 2 (by omega) ?_
    rw [hFe]
    refine pz_e (nI_ge (by omega) (by omega)) ?_
    refine pg_hr g (k := 17 + k) (by omega) (pz_a17 k) ?_
    refine pz_if (fun c => ?_) (fun c => ?_)
    · refine pg_l g (k := 1 + k) (by omega) (by omega) (by omega) (pz_a1 k) ?_
      rw [pz_lt, pz_lt, nI_1]
      rw [if_pos c] at ih'
      exact ih'
    · rw [pz_lt, pz_lt, nI_1]
      rw [if_neg c] at ih'
      exact ih'
theorem pg_don (hI : pa_HI h D F W) (g : pg_T h D W σ0 σ r e p) (y : Int32) : ps_ok (qX9_dirtyOn y σ) (fun v τ => v = pa_don h r y F ∧ τ = σ) := by
  unfold qX9_dirtyOn
  have hF := hI.2.1.2
  refine pz_bd (pg_donL hI g y F 0 ps_N (by omega) (by unfold ps_N; omega)) (fun z τ ez => ?_)
  obtain ⟨rfl, rfl⟩ := ez
  exact pz_done ⟨rfl, rfl⟩
theorem pa_onR (h : pa_R) (d : Int32) : ∀ n, ∃ m, m ≤ n ∧ pa_on h d n = nI m ∧ ∀ w, w < n → pa_dev h w = d → 1 ≤ m
  | 0 => ⟨0, Nat.le_refl _, rfl, fun w hw => absurd hw (by omega)⟩
  | n + 1 => by
    obtain ⟨m, h1, h2, h3⟩ := pa_onR h d n
    rw [pa_on]
    by_cases c : h (17 + (h (29 + n)).toNatClampNeg) = d
    · rw [if_pos c, h2]
      exact ⟨m + 1, by omega, nI_1 m, fun w _ _ => by omega⟩
    · rw [if_neg c, h2]
      refine ⟨m, by omega, Int32.add_zero _, fun w hw hd => ?_⟩
      by_cases e : w = n
      · subst e; exact absurd hd c
      · exact h3 w (by omega) hd
theorem pa_devR (hI : pa_HI h D F W) {w : Nat} (hw : w < W) : ∃ d, d < D ∧ pa_dev h w = nI d ∧ ∃ f, f < F ∧ h (29 + w) = nI f ∧ h (17 + f) = nI d := by
  obtain ⟨f, hf, ef⟩ := hI.2.2.2.2.1 w hw
  obtain ⟨d, hd, ed⟩ := hI.2.2.2.1 f hf
  have hF := hI.2.1.2
  refine ⟨d, hd, ?_, f, hf, ef, ed⟩
  unfold pa_dev
  rw [ef, nI_clamp (by omega), ed]
theorem pg_onL (hI : pa_HI h D F W) (g : pg_T h D W σ0 σ r e p) {y1 y2 y3 y12 : Int32} {y4 y6 y8 y10 y13 : UInt64} : ∀ (m k fuel : Nat), k + m = W → m < fuel → ps_ok (qX9_pauseOf_115 y1 y2 y3 y4 y6 y8 y10 y12 y13 fuel (pa_on h y3 k) (nI k) σ) (fun z τ => z = (pa_on h y3 W, nI W) ∧ τ = σ) := by
  intro m
  have hW := hI.2.2.1.2
  have hWe := hI.2.2.1.1
  have hI' : pa_HI (pg_h σ) D F W := by rw [g.2.2.1]; exact hI
  induction m with
  | zero =>
    intro k fuel h1 h2
    obtain ⟨f, rfl⟩ : ∃ f, fuel = f + 1 := ⟨fuel - 1, by omega⟩
    have : k = W := by omega
    subst this
    rw [qX9_pauseOf_115]
    refine pg_hl g 3 (by omega) ?_
    rw [hWe]
    exact pz_t (nI_le (by omega) (by omega)) (pz_done ⟨rfl, rfl⟩)
  | succ m ih =>
    intro k fuel h1 h2
    obtain ⟨f, rfl⟩ : ∃ f, fuel = f + 1 := ⟨fuel - 1, by omega⟩
    have ih' := ih (k + 1) f (by omega) (by omega)
    rw [pa_on] at ih'
    rw [qX9_pauseOf_115]
    refine pg_hl g 3 (by omega) ?_
    rw [hWe]
    refine pz_e (nI_ge (by omega) (by omega)) ?_
    refine pz_bd' (pg_deviceOf hI' (w := k) (by omega)) ?_
    rw [g.2.2.1]
    unfold pa_dev
    refine pz_if (fun c => ?_) (fun c => ?_)
    · rw [pz_lt, pz_lt, nI_1]
      rw [if_pos c] at ih'
      exact ih'
    · rw [pz_lt, pz_lt, nI_1]
      rw [if_neg c] at ih'
      exact ih'
end SHG
/-- the pause of a writer -/
def pa_fr (h : pa_R) (L : Nat) : Nat := (pa_N h 11 + L) / 2
def pa_pau (h r : pa_R) (e : pa_D) (D F W L w : Nat) (x : Int32) : Int32 :=
  pa_pz (pa_its (pa_rate (e (pa_dev h w).toNatClampNeg) (pa_on h (pa_dev h w) W) (pa_k2 (pa_p1 (pa_gg (pa_set (nI (pa_fr h L) + nI L)) (nI L) (pa_all r)))) (pa_k2 (pa_q1 (pa_set (nI (pa_sh r L D (pa_dev h w).toNatClampNeg))) (pa_don h r (pa_dev h w) F + r (29 + (pa_dev h w).toNatClampNeg))))) x) (h 13)
theorem pa_bg {h : pa_R} {D F W : Nat} (hI : pa_HI h D F W) : ∃ bg, h 11 = nI bg ∧ bg < 999 ∧ pa_N h 11 = bg := by
  obtain ⟨_, _, _, _, _, li, bg, ag, pa, wi, ch, qu, l1, b1, _⟩ := hI
  exact ⟨bg, b1.1, by omega, by unfold pa_N; rw [b1.1, nI_clamp (by omega)]⟩
theorem pa_longest {h : pa_R} {D F W : Nat} (hI : pa_HI h D F W) : ∃ pa, h 13 = nI pa ∧ 1 ≤ pa ∧ pa ≤ 999 := by
  obtain ⟨_, _, _, _, _, li, bg, ag, pa, wi, ch, qu, _, _, _, p1, _⟩ := hI
  exact ⟨pa, p1⟩
section PAUG
variable {h : pa_R} {D F W w L x M : Nat} {σ0 σ : ps_S} {r : pa_R} {e : pa_D} {p : pa_P}
theorem pg_keptIn (v : UInt64) (σ : ps_S) : qX9_keptIn v FP.dconst0 4611686018427387904 σ = some (pa_k2 v, σ) := by
  unfold qX9_keptIn pa_k2
  by_cases c : 0 ≤ Op.cmpValue (FP.dcmp v FP.dconst0) .g
  · rw [if_pos c, if_pos c]
    by_cases c2 : Op.cmpValue (FP.dcmp v 4611686018427387904) .l ≤ 0
    · rw [if_pos c2, if_pos c2]
    · rw [if_neg c2, if_neg c2]
  · rw [if_neg c, if_neg c]
theorem pc_keptIn (v : UInt64) (σ : ps_S) : qX0_fromZeroToTwo v σ = some (pa_k2 v, σ) := by
  unfold qX0_fromZeroToTwo pa_k2
  by_cases c : 0 ≤ Op.cmpValue (FP.dcmp v FP.dconst0) .g
  · rw [if_pos c, if_pos c]
    by_cases c2 : Op.cmpValue (FP.dcmp v 4611686018427387904) .l ≤ 0
    · rw [if_pos c2, if_pos c2]
    · rw [if_neg c2, if_neg c2]
  · rw [if_neg c, if_neg c]
theorem pg_free (hI : pa_HI h D F W) (g : pg_T h D W σ0 σ r e p) (hL : p.1 = nI L) (L2 : L ≤ 999) : qX9_freeNow σ = some (nI (pa_fr h L), σ) := by
  obtain ⟨bg, h1, h2, h3⟩ := pa_bg hI
  unfold qX9_freeNow pa_fr
  have e1 : σ.1 328 11 = nI bg := by rw [← h1, ← g.2.2.1, pg_hd (by omega)]
  have e2 : σ.1 327 21 = nI L := by rw [← hL]; exact g.2.2.2.1.1
  have e3 : nI (bg + L) / 2 = nI ((bg + L) / 2) := nI_div (a := bg + L) (b := 2) (by omega) (by omega)
  rw [pz_lt, pz_lt, e1, e2, nI_add, e3, h3]
theorem pc_free {B : Nat} {a : Int32} {dd : pa_R} (hI : pa_HI h D F W) (hH : pc_H 12 h D F W σ) (g : pc_T D W B σ0 σ r e a dd p) (hL : p.1 = nI L) (L2 : L ≤ 999) : qX0_freeOf B σ = some (nI (pa_fr h L), σ) := by
  obtain ⟨bg, h1, h2, h3⟩ := pa_bg hI
  unfold qX0_freeOf pa_fr
  have e1 : σ.1 12 1 = nI bg := by rw [← h1]; exact hH.1.2.1
  have e2 : σ.1 B 10 = nI L := by rw [← hL]; exact g.1.2.2.2.2.1
  have e3 : nI (bg + L) / 2 = nI ((bg + L) / 2) := nI_div (a := bg + L) (b := 2) (by omega) (by omega)
  rw [pz_lt, pz_lt, e1, e2, nI_add, e3, h3]
theorem pg_pause (hI : pa_HI h D F W) (g : pg_T h D W σ0 σ r e p) (hK : pa_IK r D) (hw : w < W) (hL : p.1 = nI L) (L1 : pa_N h 11 < L) (L2 : L ≤ 999) (hE : ∀ d, d < D → pf_E (e d) M) (hM : M < 2 ^ 53) (hx : x < 2 ^ 31) : ps_ok (qX9_pauseOf (nI w) (nI x) σ) (fun v τ => v = pa_pau h r e D F W L w (nI x) ∧ τ = σ) := by
  have hD := hI.1.2
  have hW := hI.2.2.1.2
  have hI' : pa_HI (pg_h σ) D F W := by rw [g.2.2.1]; exact hI
  obtain ⟨d, hd, ed, -⟩ := pa_devR hI hw
  obtain ⟨pa, epa, pa1, pa2⟩ := pa_longest hI
  obtain ⟨m, m1, m2, m3⟩ := pa_onR h (nI d) W
  have hm := m3 w hw ed
  have hfr : pa_fr h L < L := by unfold pa_fr; omega
  obtain ⟨n1, n2, n3, n4, n5, n6, n7, n8⟩ := pf_gg (all := pa_all r) hfr L2
  obtain ⟨s1, s2⟩ := pa_shR (r := r) (D := D) (d := d) L2 (by omega) (by omega)
  obtain ⟨q1, q2, q3, q4, q5⟩ := pf_qq (on := pa_don h r (nI d) F + r (29 + d)) s1 s2
  obtain ⟨r1, r2, r3, r4⟩ := pf_rate (hE d hd) hM hm (by omega) (pf_k2 n8 (by omega)) (pf_mono (pf_k2 q5 (by omega)) (by omega))
  obtain ⟨i1, i2, i3, -⟩ := pf_its r4 hx
  unfold pa_pau
  rw [ed, nI_clamp (by omega)]
  unfold qX9_pauseOf
  refine pz_bd' (pg_deviceOf hI' hw) ?_
  rw [g.2.2.1, ed]
  refine pz_bd' (pg_free hI g hL L2) ?_
  refine pg_lp g ?_
  rw [hL]
  refine pz_nnl n1 ?_
  refine pz_bd' g.all ?_
  refine pz_nnl n2 ?_
  refine pg_lp g ?_
  rw [hL]
  refine pz_nnl n3 ?_
  refine pz_nnl n4 ?_
  refine pz_nnl n5 ?_
  refine pz_nnl n6 ?_
  refine pz_nnl n7 ?_
  refine pz_bd' (pg_keptIn _ σ) ?_
  refine pz_bd (pg_share hI g hK hd hL (by omega) L2) (fun v τ ev => ?_)
  obtain ⟨rfl, rfl⟩ := ev
  refine pz_nnl q1 ?_
  refine pz_bd (pg_don hI g (nI d)) (fun v τ ev => ?_)
  obtain ⟨rfl, rfl⟩ := ev
  refine pg_l g (k := 29 + d) (by omega) (by omega) (by omega) (pz_a29 d) ?_
  rw [pz_lt]
  refine pz_nnl q2 ?_
  refine pz_nnl q3 ?_
  refine pz_nnl q4 ?_
  refine pz_bd' (pg_keptIn _ τ) ?_
  refine pz_bd (pg_onL hI g W 0 ps_N (by omega) (by unfold ps_N; omega)) (fun v τ' ev => ?_)
  obtain ⟨rfl, rfl⟩ := ev
  refine pg_le g hD hd rfl ?_
  rw [m2]
  refine pz_nnl r1 ?_
  refine pz_nnl r2 ?_
  refine pz_nnl r3 ?_
  refine pz_nnl i1 ?_
  rw [epa]
  unfold pa_its
  refine pz_if (fun c => ?_) (fun c => ?_)
  · rw [if_pos (show 0 ≤ Op.cmpValue (FP.dcmp (pa_rate (e d) (nI m) (pa_k2 (pa_p1 (pa_gg (pa_set (nI (pa_fr h L) + nI L)) (nI L) (pa_all r)))) (pa_k2 (pa_q1 (pa_set (nI (pa_sh r L D d))) (pa_don h r (nI d) F + r (29 + d))))) FP.dconst1) .g from c)]
    refine pz_nnl (i2 c) ?_
    refine pg_hl g 13 (by omega) ?_
    rw [epa]
    unfold pa_pz
    refine pz_if (fun c2 => ?_) (fun c2 => ?_)
    · exact pz_done ⟨(if_pos c2).symm, rfl⟩
    · refine pg_hl g 13 (by omega) ?_
      rw [epa]
      exact pz_done ⟨(if_neg c2).symm, rfl⟩
  · rw [if_neg (show ¬ 0 ≤ Op.cmpValue (FP.dcmp (pa_rate (e d) (nI m) (pa_k2 (pa_p1 (pa_gg (pa_set (nI (pa_fr h L) + nI L)) (nI L) (pa_all r)))) (pa_k2 (pa_q1 (pa_set (nI (pa_sh r L D d))) (pa_don h r (nI d) F + r (29 + d))))) FP.dconst1) .g from c)]
    refine pz_nnl i3 ?_
    refine pg_hl g 13 (by omega) ?_
    rw [epa]
    unfold pa_pz
    refine pz_if (fun c2 => ?_) (fun c2 => ?_)
    · exact pz_done ⟨(if_pos c2).symm, rfl⟩
    · refine pg_hl g 13 (by omega) ?_
      rw [epa]
      exact pz_done ⟨(if_neg c2).symm, rfl⟩
theorem pc_pzf {its : UInt64} {pa : Nat} {σ : ps_S} (hi : Jvm.FP.Core.DFin its) (h1 : 1 ≤ pa) (h2 : pa < 2 ^ 31) (hp : σ.1 12 3 = nI pa) : ps_ok (ps_let (σ.1 12 3) fun v54 => if Op.cmpValue (FP.dcmp its (FP.i2d v54)) .l < 0 then some (FP.d2i its, σ) else ps_let (σ.1 12 3) fun v56 => some (v56, σ)) (fun v τ => v = pa_pz its (nI pa) ∧ τ = σ) := by
  rw [← pf_pz hi h1 h2]
  refine pz_l hp ?_
  refine pz_if (fun c2 => ?_) (fun c2 => ?_)
  · exact pz_done ⟨(if_pos c2).symm, rfl⟩
  · refine pz_l hp ?_
    exact pz_done ⟨(if_neg c2).symm, rfl⟩
theorem pc_pause {B : Nat} {dd : pa_R} (hI : pa_HI h D F W) (hH : pc_H 12 h D F W σ) (g : pc_T D W B σ0 σ r e (pa_all r) dd p) (hdd : ∀ d, d < 4 → dd d = pa_don h r (nI d) F) (hK : pa_IK r D) (hw : w < W) (hL : p.1 = nI L) (L1 : pa_N h 11 < L) (L2 : L ≤ 999) (hE : ∀ d, d < D → pf_E (e d) M) (hM : M < 2 ^ 53) (hx : x < 2 ^ 31) : ps_ok (qX0_pauseOf B (nI w) (nI x) σ) (fun v τ => v = (if nI (pa_fr h L) < pa_all r then pa_pau h r e D F W L w (nI x) else 0) ∧ τ = σ) := by
  have hD := hI.1.2
  have hW := hI.2.2.1.2
  obtain ⟨d, hd, ed, -⟩ := pa_devR hI hw
  obtain ⟨pa, epa, pa1, pa2⟩ := pa_longest hI
  obtain ⟨m, m1, m2, m3⟩ := pa_onR h (nI d) W
  have hm := m3 w hw ed
  have hfr : pa_fr h L < L := by unfold pa_fr; omega
  obtain ⟨n1, n2, n3, n4, n5, n6, n7, n8⟩ := pf_gg (all := pa_all r) hfr L2
  obtain ⟨s1, s2⟩ := pa_shR (r := r) (D := D) (d := d) L2 (by omega) (by omega)
  obtain ⟨q1, q2, q3, q4, q5⟩ := pf_qq (on := pa_don h r (nI d) F + r (29 + d)) s1 s2
  obtain ⟨r1, r2, r3, r4⟩ := pf_rate (hE d hd) hM hm (by omega) (pf_k2 n8 (by omega)) (pf_mono (pf_k2 q5 (by omega)) (by omega))
  obtain ⟨i1, i2, i3, i4⟩ := pf_its r4 hx
  have hpa : σ.1 12 3 = nI pa := by rw [← epa]; exact hH.1.2.2.2.1
  unfold pa_pau
  rw [ed, nI_clamp (by omega)]
  unfold qX0_pauseOf
  refine pz_bd' (pc_free hI hH g hL L2) ?_
  refine pc_la g ?_
  refine pz_if (fun c => ?_) (fun c => ?_)
  · rw [if_pos c]
    have e5 : σ.1 (12 + 5) w = nI d := by rw [hH.2.2.2.2 w hw, ← ed]; rfl
    refine pz_rd (k := w) rfl (by omega) (by decide) e5 ?_
    refine pc_lp g ?_
    rw [hL]
    refine pz_nnl n1 ?_
    refine pc_la g ?_
    refine pz_nnl n2 ?_
    refine pc_lp g ?_
    rw [hL]
    refine pz_nnl n3 ?_
    refine pz_nnl n4 ?_
    refine pz_nnl n5 ?_
    refine pz_nnl n6 ?_
    refine pz_nnl n7 ?_
    refine pz_bd' (pc_keptIn _ σ) ?_
    refine pz_bd (pc_share hI hH g hK hd hL (by omega) L2) (fun v τ ev => ?_)
    obtain ⟨rfl, rfl⟩ := ev
    refine pz_nnl q1 ?_
    refine pc_l4 g (i := d) (by omega) rfl ?_
    rw [hdd d (by omega)]
    refine pc_l3 g (i := d) (by omega) rfl ?_
    rw [pz_lt]
    refine pz_nnl q2 ?_
    refine pz_nnl q3 ?_
    refine pz_nnl q4 ?_
    refine pz_bd' (pc_keptIn _ τ) ?_
    have e2 : τ.1 (12 + 2) d = nI m := by rw [hH.2.1 d (by omega), m2]
    refine pz_rd (k := d) rfl (by omega) (by decide) e2 ?_
    rw [pz_lt, nI_max1 (by omega), Nat.max_eq_right hm]
    refine pc_le g hD hd rfl ?_
    refine pz_nnl r1 ?_
    refine pz_nnl r2 ?_
    refine pz_nnl r3 ?_
    refine pz_nnl i1 ?_
    rw [epa, m2]
    unfold pa_its at i4 ⊢
    refine pz_if (fun c2 => ?_) (fun c2 => ?_)
    · have c3 := (pf_lt r4).mp c2
      rw [if_neg c3] at i4 ⊢
      refine pz_nnl i3 ?_
      exact pc_pzf i4 pa1 (by omega) hpa
    · have c3 : 0 ≤ Op.cmpValue (FP.dcmp (pa_rate (e d) (nI m) (pa_k2 (pa_p1 (pa_gg (pa_set (nI (pa_fr h L) + nI L)) (nI L) (pa_all r)))) (pa_k2 (pa_q1 (pa_set (nI (pa_sh r L D d))) (pa_don h r (nI d) F + r (29 + d))))) FP.dconst1) .g := Decidable.of_not_not (fun hn => c2 ((pf_lt r4).mpr hn))
      rw [if_pos c3] at i4 ⊢
      refine pz_nnl (i2 c3) ?_
      exact pc_pzf i4 pa1 (by omega) hpa
  · rw [if_neg c]
    exact pz_done ⟨rfl, rfl⟩
end PAUG
