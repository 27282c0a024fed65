/-! what only grows; the greatest common number -/
def pa_up (r s : pa_R) (k N : Nat) : Prop := ∃ m, m ≤ N ∧ s k = r k + nI m
theorem pa_up.rf (r : pa_R) (k : Nat) : pa_up r r k 0 := ⟨0, Nat.le_refl _, (Int32.add_zero _).symm⟩
theorem pa_up.tr {r s u : pa_R} {k N M : Nat} (h : pa_up r s k N) (g : pa_up s u k M) : pa_up r u k (N + M) := by
  obtain ⟨a, a1, a2⟩ := h
  obtain ⟨b, b1, b2⟩ := g
  exact ⟨a + b, by omega, by rw [b2, a2, Int32.add_assoc, nI_add]⟩
theorem pa_up.mono {r s : pa_R} {k N M : Nat} (h : pa_up r s k N) (g : N ≤ M) : pa_up r s k M := by
  obtain ⟨a, a1, a2⟩ := h
  exact ⟨a, by omega, a2⟩
theorem pa_up.eq {r s : pa_R} {k : Nat} (h : s k = r k) : pa_up r s k 0 := ⟨0, Nat.le_refl _, by rw [h]; exact (Int32.add_zero _).symm⟩
theorem pa_wos_up {h : pa_R} {p : pa_P} {D F W : Nat} (hD : D ≤ 4) {j : Nat} (hj : j < 4) : ∀ (m d : Nat) (r : pa_R), d + m = D → pa_I1 r D F W → pa_up r (pa_wos h p d m r) (45 + j) (10 * m)
  | 0, d, r, _, _ => pa_up.rf r _
  | m + 1, d, r, hd, hI => by
    obtain ⟨k, k1, k2, k3, k4⟩ := pa_wod_w (h := h) (p := p) hI (show d < D by omega) hD
    have h1 : pa_up r (pa_wod h p r d) (45 + j) 10 := by
      by_cases c : j = d
      · subst c; exact ⟨k, k1, k2⟩
      · exact (pa_up.eq (k4 j hj c).1).mono (by omega)
    have h2 := pa_wos_up (h := h) (p := p) hD hj m (d + 1) (pa_wod h p r d) (by omega) (pa_wodI hI (by omega) hD).1
    exact (h1.tr h2).mono (by omega)
theorem pa_sv_up {h r : pa_R} {e : pa_D} {D F W L w : Nat} (hI : pa_HI h D F W) (hw : w < W) {i : Nat} (hi : i < 6) : pa_up r (pa_sv h r e D F W L w) (71 + i) 99 ∧ pa_up r (pa_sv h r e D F W L w) (77 + i) 1 := by
  have hW := hI.2.2.1.2
  have hF := hI.2.1.2
  obtain ⟨d, hd, ed, f, hf, ef, edf⟩ := pa_devR hI hw
  obtain ⟨wn, hwn, ewn⟩ := pa_wntR h r w
  unfold pa_sv
  by_cases c : r (59 + w) ≤ 0
  · rw [if_pos c, ewn, nI_clamp (n := wn) (by omega)]
    have hx : pa_x L (pa_aN r) wn ≤ 99 := by unfold pa_x; omega
    generalize pa_x L (pa_aN r) wn = x at hx ⊢
    have hdk : ∀ k, k ≠ 77 + w → pa_hd r w x wn k = r k := by
      intro k hk
      unfold pa_hd
      by_cases c2 : wn ≤ x
      · rw [if_pos c2]
      · rw [if_neg c2, upd_ne _ _ hk]
    have h77 : pa_up r (pa_hd r w x wn) (77 + i) 1 := by
      by_cases c1 : i = w
      · subst c1
        unfold pa_hd
        by_cases c2 : wn ≤ x
        · rw [if_pos c2]; exact (pa_up.rf r _).mono (by omega)
        · rw [if_neg c2]; exact ⟨1, Nat.le_refl _, by rw [upd_self]; rfl⟩
      · exact (pa_up.eq (hdk _ (by omega))).mono (by omega)
    generalize pa_hd r w x wn = s at hdk h77 ⊢
    unfold pa_s1
    by_cases c3 : x = 0
    · rw [if_pos c3]
      exact ⟨(pa_up.eq (hdk _ (by omega))).mono (by omega), h77⟩
    · rw [if_neg c3]
      refine ⟨?_, (h77.tr (pa_up.eq ?_)).mono (Nat.le_refl _)⟩
      · by_cases c1 : i = w
        · subst c1
          refine ⟨x, hx, ?_⟩
          rw [pa_w2_at (by omega) (by omega)]
          unfold pa_w1
          rw [upd_self, hdk _ (by omega)]
        · refine (pa_up.eq ?_).mono (Nat.zero_le 99)
          rw [pa_w2_at (by omega) (by omega), pa_w1_at ef (by omega) (by omega) (by omega) (by omega), hdk _ (by omega)]
      · rw [pa_w2_at (by omega) (by omega), pa_w1_at ef (by omega) (by omega) (by omega) (by omega)]
  · rw [if_neg c]
    exact ⟨(pa_up.eq (upd_ne _ _ (by omega))).mono (by omega), (pa_up.eq (upd_ne _ _ (by omega))).mono (by omega)⟩
theorem pa_svs_up {h : pa_R} {e : pa_D} {D F W L t : Nat} (hI : pa_HI h D F W) {i : Nat} (hi : i < 6) : ∀ (m k : Nat) (r : pa_R), k + m = W → pa_up r (pa_svs h e D F W L t k m r) (71 + i) (99 * m) ∧ pa_up r (pa_svs h e D F W L t k m r) (77 + i) m
  | 0, k, r, _ => ⟨pa_up.rf _ _, pa_up.rf _ _⟩
  | m + 1, k, r, hk => by
    obtain ⟨a1, a2⟩ := pa_sv_up (r := r) (e := e) (L := L) (w := (t + k) % W) hI (Nat.mod_lt _ (by omega)) hi
    obtain ⟨b1, b2⟩ := pa_svs_up (e := e) (L := L) (t := t) hI hi m (k + 1) (pa_sv h r e D F W L ((t + k) % W)) (by omega)
    exact ⟨(a1.tr b1).mono (by omega), (a2.tr b2).mono (by omega)⟩
theorem pa_tk_up {H : pa_H} {p : pa_P} {t : Nat} {y : pa_X} (hI : pa_WH H) (hp : pa_PI H.1 p) (g : pa_V H t y) (ht : t + 1 ≤ 3000000) : (∀ j, j < 4 → pa_up y.1 (pa_tk H p y).1 (45 + j) 40) ∧ ∀ i, i < 6 → pa_up y.1 (pa_tk H p y).1 (71 + i) 600 ∧ pa_up y.1 (pa_tk H p y).1 (77 + i) 6 := by
  have hD := hI.1.1.2
  have hW := hI.1.2.2.1.2
  obtain ⟨r1, r2, r3, r4, e3, er1, i1, r10, er2, i2, r20, hWE, er3, i3, r30, k3, E3, er4, i4, r40, k4, b4, c4, tk, -⟩ := pa_stg hI.1 hp g ht
  have f3 : ∀ k, k < 37 ∨ (41 ≤ k ∧ k < 49) ∨ 53 ≤ k → r3 k = r2 k := by
    intro k hk
    unfold pa_win at er3
    by_cases c : (t + 1) % pa_N H.1 14 = 0
    · rw [if_pos c] at er3
      have q1 : r3 = (pa_cws H.1 0 H.2.1 r2 y.2).1 := by rw [← er3]
      have hb : pa_IB r2 49 H.2.1 10000 := fun j hj => by
        obtain ⟨_, v, v1, v2⟩ := hWE j (Nat.zero_le _) hj
        unfold pa_N
        rw [v2, nI_clamp (by omega)]
        exact ⟨pa_NNn (by omega), v1⟩
      have hk2 : pa_IK r2 H.2.1 := by
        rw [er2]
        exact g.2.2.1.congr (fun k hk => by rw [(pa_wosI (h := H.1) (p := p) hD H.2.1 0 r1 (by omega) i1).2 k (by omega), er1, upd_ne _ _ (by omega)])
      obtain ⟨_, _, _, ff⟩ := pa_cwsI hI.1 (M := 1024 + 16777216 * t) (by omega) H.2.1 0 r2 y.2 (by omega) hb (pa_IB.X hb) hk2 (fun j hj => by rw [if_neg (by omega)]; exact (hWE j (Nat.zero_le _) hj).1)
      rw [q1]
      exact ff k hk
    · rw [if_neg c] at er3
      have q1 : r3 = r2 := congrArg Prod.fst er3
      rw [q1]
  have f4 : ∀ k, 45 ≤ k → r4 k = r3 k := fun k hk => by rw [er4]; exact (pa_fillsI hI.1 H.2.1 0 r3 (by omega) i3.1 i3.2.1).2.2 k (by omega)
  have f1 : ∀ k, k ≠ 0 → r1 k = y.1 k := fun k hk => by rw [er1, upd_ne _ _ hk]
  have f2 : ∀ k, 53 ≤ k → r2 k = r1 k := fun k hk => by rw [er2]; exact (pa_wosI (h := H.1) (p := p) hD H.2.1 0 r1 (by omega) i1).2 k (by omega)
  have tk' : (pa_tk H p y).1 = (if p.2.2.2 = 0 then pa_svs H.1 e3 H.2.1 H.2.2.1 H.2.2.2 p.1.toNatClampNeg (t + 1) 0 H.2.2.2 r4 else r4) := congrArg Prod.fst tk
  have s45 : ∀ j, j < 4 → (pa_tk H p y).1 (45 + j) = r4 (45 + j) := by
    intro j hj
    rw [tk']
    by_cases c : p.2.2.2 = 0
    · rw [if_pos c]
      exact (pa_svsI (e := e3) (t := t + 1) hI.1 hp.2.2 H.2.2.2 0 r4 (600 * t) (6 * t) (by omega) i4 k4 b4 c4 (by omega) (by omega)).2.2.2.2 _ (by omega)
    · rw [if_neg c]
  refine ⟨fun j hj => ?_, fun i hi => ?_⟩
  · have h1 := pa_wos_up (h := H.1) (p := p) hD hj H.2.1 0 r1 (by omega) i1
    rw [← er2] at h1
    have h2 : pa_up y.1 r1 (45 + j) 0 := pa_up.eq (f1 _ (by omega))
    have h3 : pa_up r2 (pa_tk H p y).1 (45 + j) 0 := pa_up.eq (by rw [s45 j hj, f4 _ (by omega), f3 _ (by omega)])
    exact ((h2.tr h1).tr h3).mono (by omega)
  · have z : ∀ k, 59 ≤ k → r4 k = y.1 k := fun k hk => by rw [f4 k (by omega), f3 k (by omega), f2 k (by omega), f1 k (by omega)]
    rw [tk']
    by_cases c : p.2.2.2 = 0
    · rw [if_pos c]
      obtain ⟨a1, a2⟩ := pa_svs_up (e := e3) (L := p.1.toNatClampNeg) (t := t + 1) hI.1 hi H.2.2.2 0 r4 (by omega)
      exact ⟨((pa_up.eq (z (71 + i) (by omega))).tr a1).mono (by omega), ((pa_up.eq (z (77 + i) (by omega))).tr a2).mono (by omega)⟩
    · rw [if_neg c]
      exact ⟨(pa_up.eq (z _ (by omega))).mono (by omega), (pa_up.eq (z _ (by omega))).mono (by omega)⟩
theorem pa_tks_up {H : pa_H} {p : pa_P} (hI : pa_WH H) (hp : pa_PI H.1 p) : ∀ (k t : Nat) (y : pa_X), pa_V H t y → t + k ≤ 3000000 → (∀ j, j < 4 → pa_up y.1 (pa_tks H p k y).1 (45 + j) (40 * k)) ∧ ∀ i, i < 6 → pa_up y.1 (pa_tks H p k y).1 (71 + i) (600 * k) ∧ pa_up y.1 (pa_tks H p k y).1 (77 + i) (6 * k)
  | 0, t, y, _, _ => ⟨fun j _ => pa_up.rf _ _, fun i _ => ⟨pa_up.rf _ _, pa_up.rf _ _⟩⟩
  | k + 1, t, y, g, ht => by
    obtain ⟨a1, a2⟩ := pa_tk_up hI hp g (by omega)
    obtain ⟨b1, b2⟩ := pa_tks_up hI hp k (t + 1) (pa_tk H p y) (g.tk hI hp (by omega)) (by omega)
    exact ⟨fun j hj => ((a1 j hj).tr (b1 j hj)).mono (by omega), fun i hi => ⟨((a2 i hi).1.tr (b2 i hi).1).mono (by omega), ((a2 i hi).2.tr (b2 i hi).2).mono (by omega)⟩⟩
theorem pa_up.sub {r s : pa_R} {k N : Nat} (h : pa_up r s k N) : ∃ m, m ≤ N ∧ s k - r k = nI m := by
  obtain ⟨m, h1, h2⟩ := h
  exact ⟨m, h1, by rw [h2, Int32.add_comm, Int32.add_sub_cancel]⟩
/-! longs -/
theorem lN_toInt' {n : Nat} (h : n < 2 ^ 63) : (lN n).toInt = (n : Int) := Int64.toInt_ofNat_of_lt h
theorem lN_eq' {a b : Nat} (ha : a < 2 ^ 63) (hb : b < 2 ^ 63) : lN a = lN b ↔ a = b := by
  constructor
  · intro h
    have := congrArg Int64.toInt h
    rw [lN_toInt' ha, lN_toInt' hb] at this
    omega
  · intro h; rw [h]
theorem lN_div' {a b : Nat} (ha : a < 2 ^ 62) (hb : b < 2 ^ 62) : lN a / lN b = lN (a / b) := by
  apply Int64.toInt_inj.mp
  have h3 : a / b ≤ a := Nat.div_le_self a b
  rw [Int64.toInt_div, lN_toInt' (by omega), lN_toInt' (by omega), ← Int.ofNat_tdiv, lN_toInt' (by omega)]
  have h4 : (0 : Int) ≤ ((a / b : Nat) : Int) := Int.natCast_nonneg _
  have h5 : ((a / b : Nat) : Int) < 4611686018427387904 := by omega
  generalize ((a / b : Nat) : Int) = z at h4 h5
  rw [Int.bmod_eq_of_le (by omega) (by omega)]
theorem lN_rem {a b : Nat} (ha : a < 2 ^ 62) (hb : b < 2 ^ 62) : lN a - lN a / lN b * lN b = lN (a % b) := by
  rw [lN_div' ha hb, lN_mul, lN_sub (Nat.div_mul_le_self a b)]
  congr 1
  have := Nat.div_add_mod a b
  rw [Nat.mul_comm] at this
  omega
theorem lN_c0 {a : Nat} (h : a < 2 ^ 62) : lg_cmp (lN a) 0 = 0 ↔ a = 0 := by
  rw [lg_cmp_eq]
  exact lN_eq' (b := 0) (by omega) (by omega)
theorem lN_cp {a : Nat} (h : a < 2 ^ 62) (h0 : 0 < a) : ¬ lg_cmp (lN a) 0 ≤ 0 := by
  rw [lg_cmp_le]
  intro hh
  rw [Int64.le_iff_toInt_le, lN_toInt' (by omega), show (0 : Int64).toInt = 0 by decide] at hh
  omega
theorem gcd_step {a b : Nat} : Nat.gcd b (a % b) = Nat.gcd a b := by rw [Nat.gcd_comm b, ← Nat.gcd_rec, Nat.gcd_comm]
theorem mod_mod_lt {a b m : Nat} (hb : 0 < b) (h : b < 2 ^ (m + 1)) (h1 : 0 < a % b) : b % (a % b) < 2 ^ m := by
  have h2 := Nat.mod_lt a hb
  have h3 := Nat.mod_lt b h1
  have h4 := Nat.div_add_mod b (a % b)
  have h5 : 1 ≤ b / (a % b) := (Nat.one_le_div_iff h1).mpr (Nat.le_of_lt h2)
  have h6 := Nat.mul_le_mul_left (a % b) h5
  rw [Nat.pow_succ] at h
  omega
theorem pg_comL {σ : ps_S} : ∀ (m fuel a b : Nat), b < 2 ^ m → 2 * m < fuel → a < 2 ^ 62 → b < 2 ^ 62 → rc_X9c fuel 0 (lN a) (lN b) σ = some (lN (Nat.gcd a b), σ) := by
  have one : ∀ (fuel a b : Nat), a < 2 ^ 62 → b < 2 ^ 62 → rc_X9c (fuel + 1) 0 (lN a) (lN b) σ = if b = 0 then some (lN a, σ) else ps_bd (rc_X9c fuel 0 (lN b) (lN (a % b)) σ) (fun v2 σ3 => some (v2, σ3)) := by
    intro fuel a b ha hb
    rw [rc_X9c, if_pos rfl]
    unfold bX9_common
    by_cases c : b = 0
    · rw [if_pos ((lN_c0 hb).mpr c), if_pos c]
    · have cz : ¬ lN b = (0 : Int64) := fun h => c ((lN_eq' (a := b) (b := 0) (by omega) (by omega)).mp h)
      rw [if_neg (fun h => c ((lN_c0 hb).mp h)), if_neg c, if_neg cz, lN_rem ha hb]
  intro m
  induction m with
  | zero =>
    intro fuel a b h1 h2 h3 h4
    obtain ⟨f, rfl⟩ : ∃ f, fuel = f + 1 := ⟨fuel - 1, by omega⟩
    have : b = 0 := by rw [Nat.pow_zero] at h1; omega
    subst this
    rw [one f a 0 h3 h4, if_pos rfl, Nat.gcd_zero_right]
  | succ m ih =>
    intro fuel a b h1 h2 h3 h4
    obtain ⟨f, rfl⟩ : ∃ f, fuel = f + 1 + 1 := ⟨fuel - 2, by omega⟩
    rw [one (f + 1) a b h3 h4]
    by_cases c : b = 0
    · subst c
      rw [if_pos rfl, Nat.gcd_zero_right]
    · have hab := Nat.mod_lt a (show 0 < b by omega)
      rw [if_neg c, one f b (a % b) h4 (by omega)]
      by_cases c2 : a % b = 0
      · rw [if_pos c2, ← gcd_step (a := a), c2, Nat.gcd_zero_right]
        rfl
      · rw [if_neg c2]
        have hbb := Nat.mod_lt b (show 0 < a % b by omega)
        rw [ih f (a % b) (b % (a % b)) (mod_mod_lt (by omega) h1 (by omega)) (by omega) (by omega) (by omega), gcd_step, gcd_step]
        rfl
theorem pg_common {σ : ps_S} {a b : Nat} (ha : a < 2 ^ 62) (hb : b < 2 ^ 49) : qX9_common (lN a) (lN b) σ = some (lN (Nat.gcd a b), σ) := by
  unfold qX9_common
  exact pg_comL 49 100 a b hb (by decide) ha (by omega)
theorem pc_lowL {σ : ps_S} {y0 y2 : Int64} {y4 : Int32} : ∀ (m i fuel a b : Nat), b < 2 ^ m → 2 * m + i ≤ 99 → 2 * m < fuel → a < 2 ^ 62 → b < 2 ^ 62 → ps_ok (qX8_inLowestTerms_9 y0 y2 y4 fuel (lN a) (lN b) (nI i) σ) (fun z τ => z.1 = lN (Nat.gcd a b) ∧ τ = σ) := by
  have one : ∀ (i fuel a b : Nat), i ≤ 99 → a < 2 ^ 62 → b < 2 ^ 62 → qX8_inLowestTerms_9 y0 y2 y4 (fuel + 1) (lN a) (lN b) (nI i) σ = if b = 0 then some ((lN a, lN b, nI i), σ) else qX8_inLowestTerms_9 y0 y2 y4 fuel (lN b) (lN (a % b)) (nI (i + 1)) σ := by
    intro i fuel a b hi ha hb
    have c100 : ¬ (100 : Int32) ≤ nI i := nI_ge (a := i) (b := 100) (by omega) (by omega)
    rw [qX8_inLowestTerms_9, if_neg c100]
    by_cases c : b = 0
    · rw [if_pos ((lN_c0 hb).mpr c), if_pos c]
    · have cz : ¬ lN b = (0 : Int64) := fun h => c ((lN_eq' (a := b) (b := 0) (by omega) (by omega)).mp h)
      rw [if_neg (fun h => c ((lN_c0 hb).mp h)), if_neg c, if_neg cz, lN_rem ha hb, pz_lt, pz_lt, nI_1]
  intro m
  induction m with
  | zero =>
    intro i fuel a b h1 h2 hf h3 h4
    obtain ⟨f, rfl⟩ : ∃ f, fuel = f + 1 := ⟨fuel - 1, by omega⟩
    have : b = 0 := by rw [Nat.pow_zero] at h1; omega
    subst this
    rw [one i f a 0 (by omega) h3 h4, if_pos rfl]
    exact pz_done ⟨by rw [Nat.gcd_zero_right], rfl⟩
  | succ m ih =>
    intro i fuel a b h1 h2 hf h3 h4
    obtain ⟨f, rfl⟩ : ∃ f, fuel = f + 1 + 1 := ⟨fuel - 2, by omega⟩
    rw [one i (f + 1) a b (by omega) h3 h4]
    by_cases c : b = 0
    · subst c
      rw [if_pos rfl]
      exact pz_done ⟨by rw [Nat.gcd_zero_right], rfl⟩
    · have hab := Nat.mod_lt a (show 0 < b by omega)
      rw [if_neg c, one (i + 1) f b (a % b) (by omega) h4 (by omega)]
      by_cases c2 : a % b = 0
      · rw [if_pos c2]
        exact pz_done ⟨by rw [← gcd_step (a := a), c2, Nat.gcd_zero_right], rfl⟩
      · rw [if_neg c2]
        have hbb := Nat.mod_lt b (show 0 < a % b by omega)
        rw [← gcd_step (a := a) (b := b), ← gcd_step (a := b)]
        exact ih (i + 1 + 1) f (a % b) (b % (a % b)) (mod_mod_lt (by omega) h1 (by omega)) (by omega) (by omega) (by omega) (by omega)
theorem pc_low {σ : ps_S} {a b : Nat} {w : Int32} (ha : a < 2 ^ 62) (hb : b < 2 ^ 49) (h0 : 0 < b) : ps_ok (qX8_inLowestTerms (lN a) (lN b) w σ) (fun v τ => v = (if w = 0 then lN a / lN (Nat.gcd a b) else lN b / lN (Nat.gcd a b)) ∧ τ = σ) := by
  have hg : 0 < Nat.gcd a b := Nat.gcd_pos_of_pos_right _ h0
  have hg2 : Nat.gcd a b ≤ b := Nat.gcd_le_right _ h0
  have hgz : ¬ lN (Nat.gcd a b) = 0 := fun h => by
    have := (lN_eq' (a := Nat.gcd a b) (b := 0) (by omega) (by omega)).mp h
    omega
  unfold qX8_inLowestTerms
  refine pz_bd (pc_lowL 49 0 ps_N a b hb (by decide) (by unfold ps_N; decide) ha (by omega)) (fun z τ ez => ?_)
  obtain ⟨z1, z2, z3⟩ := z
  obtain ⟨e1, rfl⟩ := ez
  have e1' : z1 = lN (Nat.gcd a b) := e1
  subst e1'
  show ps_ok (if lg_cmp (lN (Nat.gcd a b)) 0 ≤ 0 then _ else _) _
  refine pz_e (lN_cp (by omega) hg) ?_
  refine pz_sw (fun _ => pz_nz hgz (pz_done ⟨rfl, rfl⟩)) (fun _ => pz_nz hgz (pz_done ⟨rfl, rfl⟩))
theorem gcd_nz {a b : Nat} (h0 : 0 < b) (hb : b < 2 ^ 49) : ¬ lN (Nat.gcd a b) = 0 := fun h => by
  have hg : 0 < Nat.gcd a b := Nat.gcd_pos_of_pos_right _ h0
  have hg2 : Nat.gcd a b ≤ b := Nat.gcd_le_right _ h0
  have := (lN_eq' (a := Nat.gcd a b) (b := 0) (by omega) (by omega)).mp h
  omega
