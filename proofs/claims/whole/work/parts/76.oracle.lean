/-! what the laws say, both sides -/
def pa_lc (h : pa_R) (k : Nat) : List Nat := (List.range (h (8 + k)).toNatClampNeg).map (fun t => (h (950 + (h (6 + k)).toNatClampNeg + t)).toNatClampNeg)
def pa_lv (h : pa_R) (k : Nat) (w : Nat → Int32) : Int32 := (pa_evR w (pa_lc h k) []).headD 0
def pa_LI (h : pa_R) : Prop := ∀ k, k < 2 → h (4 + k) = 0 ∨ (h (4 + k) = 1 ∧ ∃ fr many, h (6 + k) = nI fr ∧ h (8 + k) = nI many ∧ 1 ≤ many ∧ fr + many ≤ 900 ∧ (∀ t, t < many → pa_NN (h (950 + fr + t))) ∧ pa_tyR (k == 0) (pa_lc h k) [] = some [false])
def pa_w (t told d w : Int32) : Nat → Int32 := fun j => if j = 0 then t else if j = 1 then told else if j = 2 then d else w
theorem pa_lc_at {h : pa_R} {k fr many t c : Nat} (h6 : h (6 + k) = nI fr) (h8 : h (8 + k) = nI many) (hb : fr + many ≤ 900) (hn : ∀ t, t < many → pa_NN (h (950 + fr + t))) (ht : (pa_lc h k)[t]? = some c) : t < many ∧ h (950 + fr + t) = nI c ∧ c = (h (950 + fr + t)).toNatClampNeg := by
  unfold pa_lc at ht
  rw [h6, h8, nI_clamp (by omega), nI_clamp (by omega), List.getElem?_map] at ht
  by_cases q : t < many
  · rw [List.getElem?_range q] at ht
    injection ht with ht
    subst ht
    exact ⟨q, (pa_NNe (hn t q)).1, rfl⟩
  · rw [List.getElem?_eq_none (by rw [List.length_range]; omega)] at ht
    cases ht
theorem pa_lc_len {h : pa_R} {k many : Nat} (h8 : h (8 + k) = nI many) (hm : many < 2 ^ 31) : (pa_lc h k).length = many := by
  unfold pa_lc
  rw [List.length_map, List.length_range, h8, nI_clamp hm]
theorem pa_evR_w {w w' : Nat → Int32} (h : ∀ j, j < 4 → w j = w' j) : ∀ (l : List Nat) (S : List Int32), pa_evR w l S = pa_evR w' l S
  | [], _ => rfl
  | c :: l, S => by
    have : pa_evS w c S = pa_evS w' c S := by
      unfold pa_evS
      by_cases c0 : c < 1000
      · rw [if_pos c0, if_pos c0]
      · rw [if_neg c0, if_neg c0]
        by_cases c1 : c ≤ 1003
        · rw [if_pos c1, if_pos c1, h _ (by omega)]
        · rw [if_neg c1, if_neg c1]
    rw [pa_evR, pa_evR, this, pa_evR_w h l]
theorem pg_reckons {σ : ps_S} {k : Nat} {w : Nat → Int32} (hk : k < 2) (hL : pa_LI (pg_h σ)) (h1 : pg_h σ (4 + k) = 1) (hw : ∀ j, j < 4 → σ.1 334 j = w j) : ∃ τ, qX9_reckons (nI k) σ = some (pa_lv (pg_h σ) k w, τ) ∧ (∀ c, c ≠ 333 → τ.1 c = σ.1 c) ∧ τ.2 = σ.2 := by
  rcases hL k hk with e | ⟨-, fr, many, h6, h8, hm, hb, hn, hty⟩
  · rw [e] at h1; exact absurd h1 (by decide)
  · have hlen := pa_lc_len h8 (by omega)
    have h6' : σ.1 328 (6 + k) = nI fr := by rw [← h6, pg_hd (by omega)]
    have h8' : σ.1 328 (8 + k) = nI many := by rw [← h8, pg_hd (by omega)]
    obtain ⟨τ, k1, k2, k3, k4, k5⟩ := pg_reckL (w := w) (wr := k == 0) hk hb (pa_lc (pg_h σ) k) [] [] [false] 0 ps_N σ h6' h8' hw (by omega) (fun t c hc => by
      obtain ⟨a1, a2, -⟩ := pa_lc_at h6 h8 hb hn hc
      rw [← a2, pg_hd (by omega)]
      rfl) trivial trivial (by decide) hty (by rw [hlen]; unfold ps_N; omega)
    have e0 : qX9_reckons_4 (nI k) ps_N 0 0 σ = some ((nI (pa_evR w (pa_lc (pg_h σ) k) []).length, nI many), τ) := k1
    refine ⟨τ, ?_, k3, k4⟩
    unfold qX9_reckons
    rw [pz_bde e0]
    show some (τ.1 333 0, τ) = _
    unfold pa_lv
    generalize pa_evR w (pa_lc (pg_h σ) k) [] = S at k2 k5
    match S, k2, k5 with
    | [v], k2, _ =>
      have k9 : τ.1 333 0 = v := k2.1
      rw [k9]; rfl
def pa_cl (hi v : Int32) : Int32 := if 0 ≤ v then (if v ≤ hi then v else hi) else 0
theorem pg_kept (v hi : Int32) (σ : ps_S) : qX9_kept v 0 hi σ = some (pa_cl hi v, σ) := by
  unfold qX9_kept pa_cl
  by_cases c1 : 0 ≤ v
  · rw [if_pos c1, if_pos c1]
    by_cases c2 : v ≤ hi
    · rw [if_pos c2, if_pos c2]
    · rw [if_neg c2, if_neg c2]
  · rw [if_neg c1, if_neg c1]
theorem pa_clR {hi : Nat} {v : Int32} (h : hi < 2 ^ 31) : ∃ n, n ≤ hi ∧ pa_cl (nI hi) v = nI n := by
  unfold pa_cl
  by_cases c1 : 0 ≤ v
  · rw [if_pos c1]
    obtain ⟨e, hv⟩ := pa_NNe (x := v) (Int32.not_lt.mpr c1)
    by_cases c2 : v ≤ nI hi
    · rw [if_pos c2]
      rw [e] at c2
      exact ⟨_, (nI_leI hv h).mp c2, e⟩
    · rw [if_neg c2]; exact ⟨hi, Nat.le_refl _, rfl⟩
  · rw [if_neg c1]; exact ⟨0, Nat.zero_le _, nI_0.symm⟩
def pa_dev (h : pa_R) (w : Nat) : Int32 := h (17 + (h (29 + w)).toNatClampNeg)
def pa_spd (h r : pa_R) (lw : Int32) (d : Nat) : Int32 := if nI d = lw then r (25 + d) else pa_cl 999 (if h 5 = 1 then pa_lv h 1 (pa_w (r 0 - r 0 / 100 * 100) (r (25 + d)) (nI d) 0) else r (25 + d))
def pa_wnt (h r : pa_R) (w : Nat) : Int32 := pa_cl 99 (if h 4 = 1 then pa_lv h 0 (pa_w (r 0 - r 0 / 100 * 100) (r (53 + w)) (pa_dev h w) (nI w)) else r (53 + w))
theorem pg_laysWords (a d w : Int32) (σ : ps_S) : ∃ τ, qX9_laysWords a d w σ = some ((), τ) ∧ (∀ j, j < 4 → τ.1 334 j = pa_w (σ.1 335 0 - σ.1 335 0 / 100 * 100) a d w j) ∧ (∀ c, c ≠ 334 → τ.1 c = σ.1 c) ∧ τ.2 = σ.2 := by
  unfold qX9_laysWords
  rw [pz_lt, pz_lt, pz_lt, pz_lt, pz_lt]
  refine ⟨_, rfl, fun j hj => ?_, fun c hc => ?_, rfl⟩
  · simp only [ps_rI_at]
    unfold pa_w
    rcases (show j = 0 ∨ j = 1 ∨ j = 2 ∨ j = 3 by omega) with rfl | rfl | rfl | rfl
    · rw [upd_ne _ _ (by decide), upd_ne _ _ (by decide), upd_ne _ _ (by decide), upd_self, if_pos rfl]
    · rw [upd_ne _ _ (by decide), upd_ne _ _ (by decide), upd_self, if_neg (by decide), if_pos rfl]
    · rw [upd_ne _ _ (by decide), upd_self, if_neg (by decide), if_neg (by decide), if_pos rfl]
    · rw [upd_self, if_neg (by decide), if_neg (by decide), if_neg (by decide)]
  · rw [ps_rI_ne _ _ hc, ps_rI_ne _ _ hc, ps_rI_ne _ _ hc, ps_rI_ne _ _ hc]
/-- a store in which only words and reckoning differ -/
def pg_sm (σ τ : ps_S) : Prop := (∀ c, c ≠ 333 → c ≠ 334 → τ.1 c = σ.1 c) ∧ τ.2 = σ.2
theorem pg_sm.rf (σ : ps_S) : pg_sm σ σ := ⟨fun _ _ _ => rfl, rfl⟩
theorem pg_sm.tr {σ τ υ : ps_S} (h : pg_sm σ τ) (g : pg_sm τ υ) : pg_sm σ υ := ⟨fun c a b => (g.1 c a b).trans (h.1 c a b), g.2.trans h.2⟩
theorem pg_sm.fr {σ τ : ps_S} (h : pg_sm σ τ) : pg_fr σ τ := ⟨fun k a b _ => h.1 k a b, by rw [h.2], fun k _ => by rw [h.2]⟩
theorem pg_sm.r {D W : Nat} {σ τ : ps_S} (h : pg_sm σ τ) : pg_r D W τ = pg_r D W σ := by unfold pg_r pg_f; rw [h.1 327 (by decide) (by decide), h.1 335 (by decide) (by decide)]
theorem pg_sm.e {D : Nat} {σ τ : ps_S} (h : pg_sm σ τ) : pg_e D τ = pg_e D σ := by unfold pg_e; rw [h.2]
theorem pg_speed {D W d : Nat} {σ : ps_S} (hD : D ≤ 4) (hd : d < D) (hL : pa_LI (pg_h σ)) : ps_ok (qX9_speedNow (nI d) σ) (fun v τ => v = pa_spd (pg_h σ) (pg_r D W σ) (σ.1 327 23) d ∧ pg_sm σ τ) := by
  have e25 : pg_r D W σ (25 + d) = if σ.1 327 23 = nI d then σ.1 327 24 else σ.1 335 (25 + d) := by
    unfold pg_r
    rw [pa_can_at ⟨by omega, by omega, by omega⟩]
    unfold pg_f
    rw [show 25 + d - 25 = d by omega]
    by_cases c : σ.1 327 23 = nI d
    · rw [if_pos c, if_pos ⟨by omega, by omega, c⟩]
    · rw [if_neg c, if_neg (fun z => c z.2.2)]
  have e0 : pg_r D W σ 0 = σ.1 335 0 := pg_rd (by omega) (by omega) (by omega)
  unfold qX9_speedNow pa_spd
  rw [pz_lt]
  by_cases c1 : nI d = σ.1 327 23
  · rw [if_pos c1, if_pos c1, pz_lt]
    exact ps_os ⟨by rw [e25, if_pos c1.symm], pg_sm.rf σ⟩
  · rw [if_neg (fun z => c1 z.symm)] at e25
    rw [if_neg c1, if_neg c1, pz_a25, if_pos (pz_ini (a := 25 + d) (by omega) (by omega)), nI_clamp (n := 25 + d) (by omega), pz_lt]
    obtain ⟨τ, t1, t2, t3, t4⟩ := pg_laysWords (σ.1 335 (25 + d)) (nI d) 0 σ
    have sm : pg_sm σ τ := ⟨fun c _ b => t3 c b, t4⟩
    rw [pz_bde t1, pz_lt, sm.1 328 (by decide) (by decide), ← pg_hd (σ := σ) (k := 5) (by omega), e25, e0]
    by_cases c2 : pg_h σ 5 = 1
    · rw [if_pos c2, if_pos c2]
      obtain ⟨υ, u1, u2, u3⟩ := pg_reckons (σ := τ) (k := 1) (by omega) (by rw [sm.fr.h]; exact hL) (by rw [sm.fr.h]; exact c2) t2
      have u1' : qX9_reckons 1 τ = some (pa_lv (pg_h τ) 1 (pa_w (σ.1 335 0 - σ.1 335 0 / 100 * 100) (σ.1 335 (25 + d)) (nI d) 0), υ) := u1
      rw [pz_bde u1', pz_bde (pg_kept _ _ υ)]
      refine ps_os ⟨by rw [sm.fr.h], sm.tr ⟨fun c a _ => u2 c a, u3⟩⟩
    · rw [if_neg c2, if_neg c2, pz_bde (pg_kept _ _ τ)]
      exact ps_os ⟨rfl, sm⟩
theorem pg_deviceOf {D F W w : Nat} {σ : ps_S} (hI : pa_HI (pg_h σ) D F W) (hw : w < W) : qX9_deviceOf (nI w) σ = some (pa_dev (pg_h σ) w, σ) := by
  have hW := hI.2.2.1.2
  have hF := hI.2.1.2
  obtain ⟨f, hf, ef⟩ := hI.2.2.2.2.1 w hw
  have e1 : σ.1 328 (29 + w) = nI f := by rw [← ef, pg_hd (by omega)]
  unfold qX9_deviceOf pa_dev
  rw [pz_a29, if_pos (pz_ini (a := 29 + w) (by omega) (by omega)), nI_clamp (n := 29 + w) (by omega), pz_lt, e1, pz_a17, if_pos (pz_ini (a := 17 + f) (by omega) (by omega)), nI_clamp (n := 17 + f) (by omega), pz_lt, ef, nI_clamp (n := f) (by omega), pg_hd (by omega)]
theorem pg_wants {D F W w : Nat} {σ : ps_S} (hI : pa_HI (pg_h σ) D F W) (hw : w < W) (hL : pa_LI (pg_h σ)) : ps_ok (qX9_wantsNow (nI w) σ) (fun v τ => v = pa_wnt (pg_h σ) (pg_r D W σ) w ∧ pg_sm σ τ) := by
  have hW := hI.2.2.1.2
  have e53 : pg_r D W σ (53 + w) = σ.1 335 (53 + w) := pg_rd (by omega) (by omega) (by omega)
  have e0 : pg_r D W σ 0 = σ.1 335 0 := pg_rd (by omega) (by omega) (by omega)
  unfold qX9_wantsNow pa_wnt
  rw [pz_a53, if_pos (pz_ini (a := 53 + w) (by omega) (by omega)), nI_clamp (n := 53 + w) (by omega), pz_lt, pz_bde (pg_deviceOf hI hw)]
  obtain ⟨τ, t1, t2, t3, t4⟩ := pg_laysWords (σ.1 335 (53 + w)) (pa_dev (pg_h σ) w) (nI w) σ
  have sm : pg_sm σ τ := ⟨fun c _ b => t3 c b, t4⟩
  rw [pz_bde t1, pz_lt, sm.1 328 (by decide) (by decide), ← pg_hd (σ := σ) (k := 4) (by omega), e53, e0]
  by_cases c2 : pg_h σ 4 = 1
  · rw [if_pos c2, if_pos c2]
    obtain ⟨υ, u1, u2, u3⟩ := pg_reckons (σ := τ) (k := 0) (by omega) (by rw [sm.fr.h]; exact hL) (by rw [sm.fr.h]; exact c2) t2
    have u1' : qX9_reckons 0 τ = some (pa_lv (pg_h τ) 0 (pa_w (σ.1 335 0 - σ.1 335 0 / 100 * 100) (σ.1 335 (53 + w)) (pa_dev (pg_h σ) w) (nI w)), υ) := u1
    rw [pz_bde u1', pz_bde (pg_kept _ _ υ)]
    exact ps_os ⟨by rw [sm.fr.h], sm.tr ⟨fun c a _ => u2 c a, u3⟩⟩
  · rw [if_neg c2, if_neg c2, pz_bde (pg_kept _ _ τ)]
    exact ps_os ⟨rfl, sm⟩
/-! the class's oracle: laws, and what it keeps of them -/
def pc_L (Hb : Nat) (h : pa_R) (σ : ps_S) : Prop := ∀ k, k < 2 → (h (4 + k) = 0 → σ.1 (Hb + 7) (2 + 2 * k) = σ.1 (Hb + 7) (3 + 2 * k)) ∧ (h (4 + k) = 1 → σ.1 (Hb + 7) (2 + 2 * k) = h (6 + k) ∧ σ.1 (Hb + 7) (3 + 2 * k) = h (6 + k) + h (8 + k) ∧ ∀ t, t < (h (8 + k)).toNatClampNeg → σ.1 (Hb + 8) ((h (6 + k)).toNatClampNeg + t) = nI (pa_mp (h (950 + (h (6 + k)).toNatClampNeg + t)).toNatClampNeg))
theorem pc_reckon {h : pa_R} {σ : ps_S} {k : Nat} {y3 y4 y5 y6 : Int32} (hk : k < 2) (hL : pa_LI h) (hC : pc_L 12 h σ) (h1 : h (4 + k) = 1) : ∃ τ, qX4_reckon (σ.1 (12 + 7) (2 + 2 * k)) (σ.1 (12 + 7) (3 + 2 * k)) y3 y4 y5 y6 σ = some (pa_lv h k (pa_w (y3 - y3 / 100 * 100) y4 y5 y6), τ) ∧ (∀ c, c ≠ 25 → τ.1 c = σ.1 c) ∧ τ.2 = σ.2 := by
  rcases hL k hk with e | ⟨-, fr, many, h6, h8, hm, hb, hn, hty⟩
  · rw [e] at h1; exact absurd h1 (by decide)
  · obtain ⟨gf, gt, gc⟩ := (hC k hk).2 h1
    have hlen := pa_lc_len h8 (by omega)
    rw [h6, nI_clamp (by omega), h8, nI_clamp (by omega)] at gc
    rw [gf, gt, h6, h8, nI_add]
    obtain ⟨τ, k1, k2, k3, k4, k5⟩ := pc_reckL (y1 := nI fr) (w := pa_w (y3 - y3 / 100 * 100) y4 y5 y6) (wr := k == 0) hb ⟨rfl, rfl, rfl, rfl⟩ (pa_lc h k) [] [] [false] fr ps_N σ (by rw [hlen]) (fun t c hc => by
      obtain ⟨a1, -, a2⟩ := pa_lc_at h6 h8 hb hn hc
      rw [gc t a1, ← a2]) trivial trivial (by decide) hty (by rw [hlen]; unfold ps_N; omega)
    have e0 : qX4_reckon_18 (nI fr) (nI (fr + many)) y3 y4 y5 y6 ps_N 0 (nI fr) σ = some ((nI (pa_evR (pa_w (y3 - y3 / 100 * 100) y4 y5 y6) (pa_lc h k) []).length, nI (fr + many)), τ) := k1
    refine ⟨τ, ?_, k3, k4⟩
    unfold qX4_reckon
    rw [pz_bde e0]
    unfold pa_lv
    generalize pa_evR (pa_w (y3 - y3 / 100 * 100) y4 y5 y6) (pa_lc h k) [] = S at k2 k5
    match S, k2, k5 with
    | [v], k2, _ =>
      have k9 : τ.1 25 0 = v := k2.1
      show (if nI 1 ≤ 0 then _ else _) = _
      rw [if_neg (by decide), pz_lt, k9]
      rfl
/-- what a kept answer must be -/
def pa_kv (h : pa_R) (row : Nat) (t told : Int32) : Int32 := if row < 6 then pa_cl 99 (pa_lv h 0 (pa_w t told (pa_dev h row) (nI row))) else pa_cl 999 (pa_lv h 1 (pa_w t told (nI (row - 6)) 0))
def pc_O (h : pa_R) (σ : ps_S) : Prop := ∀ row, row < 10 → ∀ t, t < 100 → σ.1 23 (row * 100 + t) = -1 ∨ σ.1 23 (row * 100 + t) = pa_kv h row (nI t) (σ.1 24 row)
theorem pc_cellL {row : Nat} {y2 y3 : Int32} (hr : row < 10) : ∀ (m k fuel : Nat) (σ : ps_S), k + m = 100 → m < fuel → ∃ τ, qX4_cellOf_20 (nI row) y2 y3 fuel (nI k) σ = some (nI 100, τ) ∧ (∀ j, row * 100 + k ≤ j → j < row * 100 + 100 → τ.1 23 j = -1) ∧ (∀ j, j < row * 100 + k ∨ row * 100 + 100 ≤ j → τ.1 23 j = σ.1 23 j) ∧ (∀ c, c ≠ 23 → τ.1 c = σ.1 c) ∧ τ.2 = σ.2 := by
  intro m
  induction m with
  | zero =>
    intro k fuel σ hk hf
    obtain ⟨f, rfl⟩ : ∃ f, fuel = f + 1 := ⟨fuel - 1, by omega⟩
    have : k = 100 := by omega
    subst this
    have q : (100 : Int32) ≤ nI 100 := nI_le (a := 100) (b := 100) (by omega) (by omega)
    rw [qX4_cellOf_20, if_pos q]
    exact ⟨σ, rfl, fun j a b => by omega, fun j _ => rfl, fun _ _ => rfl, rfl⟩
  | succ m ih =>
    intro k fuel σ hk hf
    obtain ⟨f, rfl⟩ : ∃ f, fuel = f + 1 := ⟨fuel - 1, by omega⟩
    have q : ¬ (100 : Int32) ≤ nI k := nI_ge (a := k) (b := 100) (by omega) (by omega)
    have e1 : nI row * 100 = nI (row * 100) := (Int32.ofNat_mul row 100).symm
    rw [qX4_cellOf_20, if_neg q, e1, nI_add, if_pos (pz_ini (a := row * 100 + k) (by omega) (by omega)), nI_clamp (n := row * 100 + k) (by omega), pz_lt, pz_lt, nI_1]
    obtain ⟨τ, k1, k2, k3, k4, k5⟩ := ih (k + 1) f (ps_rI σ 23 (upd (σ.1 23) (row * 100 + k) (-1))) (by omega) (by omega)
    refine ⟨τ, k1, fun j a b => ?_, fun j a => ?_, fun c hc => by rw [k4 c hc, ps_rI_ne _ _ hc], k5⟩
    · by_cases e : j = row * 100 + k
      · rw [k3 j (by omega), ps_rI_at, e, upd_self]
      · exact k2 j (by omega) b
    · rw [k3 j (by omega), ps_rI_at, upd_ne _ _ (by omega)]
theorem pc_cellOf {h : pa_R} {row t : Nat} {told : Int32} {σ : ps_S} (hr : row < 10) (ht : t < 2 ^ 31) (hO : pc_O h σ) : ∃ τ, qX4_cellOf (nI row) told (nI t) σ = some (nI (row * 100 + t % 100), τ) ∧ τ.1 24 row = told ∧ pc_O h τ ∧ (∀ c, c ≠ 23 → c ≠ 24 → τ.1 c = σ.1 c) ∧ τ.2 = σ.2 := by
  have e1 : nI row * 100 = nI (row * 100) := (Int32.ofNat_mul row 100).symm
  have e2 : nI t - nI t / 100 * 100 = nI (t % 100) := nI_rem (b := 100) ht (by omega) (by omega)
  unfold qX4_cellOf
  rw [if_pos (pz_ini (a := row) (by omega) (by omega)), nI_clamp (n := row) (by omega), pz_lt, e1, e2, nI_add]
  by_cases c1 : σ.1 24 row = told
  · rw [if_pos c1]
    exact ⟨σ, rfl, c1, hO, fun _ _ _ => rfl, rfl⟩
  · rw [if_neg c1, if_pos (pz_ini (a := row) (by omega) (by omega)), pz_lt]
    obtain ⟨τ, k1, k2, k3, k4, k5⟩ := pc_cellL (y2 := told) (y3 := nI t) hr 100 0 ps_N (ps_rI σ 24 (upd (σ.1 24) row told)) (by omega) (by unfold ps_N; omega)
    have k1' : qX4_cellOf_20 (nI row) told (nI t) ps_N 0 (ps_rI σ 24 (upd (σ.1 24) row told)) = some (nI 100, τ) := k1
    rw [pz_bde k1']
    refine ⟨τ, rfl, ?_, fun r hr2 u hu => ?_, fun c a b => ?_, k5⟩
    · rw [k4 24 (by decide), ps_rI_at, upd_self]
    · by_cases e : r = row
      · subst e
        exact Or.inl (k2 _ (by omega) (by omega))
      · rw [k3 _ (by omega), k4 24 (by decide), ps_rI_at, ps_rI_ne _ _ (by decide), upd_ne _ _ e]
        exact hO r hr2 u hu
    · rw [k4 c a, ps_rI_ne _ _ b]
theorem pa_cl_cls (hi v : Int32) (h0 : 0 ≤ hi) : (if 0 < (if v < hi then v else hi) then (if v < hi then v else hi) else 0) = pa_cl hi v := by
  unfold pa_cl
  by_cases c1 : v < hi
  · rw [if_pos c1, if_pos (Int32.le_of_lt c1)]
    by_cases c2 : 0 < v
    · rw [if_pos c2, if_pos (Int32.le_of_lt c2)]
    · rw [if_neg c2]
      by_cases c3 : 0 ≤ v
      · rw [if_pos c3]; exact Int32.le_antisymm c3 (Int32.not_lt.mp c2)
      · rw [if_neg c3]
  · have c1' := Int32.not_lt.mp c1
    rw [if_neg c1, if_pos (Int32.le_trans h0 c1')]
    by_cases c2 : 0 < hi
    · rw [if_pos c2]
      by_cases c3 : v ≤ hi
      · rw [if_pos c3]; exact Int32.le_antisymm c1' c3
      · rw [if_neg c3]
    · rw [if_neg c2]
      have e : hi = 0 := Int32.le_antisymm (Int32.not_lt.mp c2) h0
      by_cases c3 : v ≤ hi
      · rw [if_pos c3]
        rw [e] at c1' c3
        exact Int32.le_antisymm c1' c3
      · rw [if_neg c3, e]
def pc_sm (σ τ : ps_S) : Prop := (∀ c, c < 23 ∨ 26 ≤ c → τ.1 c = σ.1 c) ∧ τ.2 = σ.2
theorem pc_sm.rf (σ : ps_S) : pc_sm σ σ := ⟨fun _ _ => rfl, rfl⟩
theorem pc_sm.fr {B : Nat} {σ τ : ps_S} (h : pc_sm σ τ) : pc_fr B σ τ := ⟨fun k _ b => h.1 k b, by rw [h.2], fun k _ => by rw [h.2]⟩
theorem pc_sm.r {D W B : Nat} {σ τ : ps_S} (h : pc_sm σ τ) (hB : 26 ≤ B) : pc_r D W B τ = pc_r D W B σ := pc_congr (fun o _ => h.1 _ (by omega))
theorem pc_sm.S {h : pa_R} {D F W B : Nat} {σ τ : ps_S} {r : pa_R} {e : pa_D} {p : pa_P} (g : pc_sm σ τ) (hB : 26 ≤ B) (hS : pc_S h D F W B σ r e p) : pc_S h D F W B τ r e p := by
  unfold pc_S
  rw [g.r hB, g.1 B (by omega), g.1 (B + 4) (by omega)]
  refine ⟨hS.1, ?_, hS.2.2⟩
  rw [← hS.2.1]
  unfold pc_e
  rw [g.2]
theorem pc_sm.H {h : pa_R} {D F W : Nat} {σ τ : ps_S} (g : pc_sm σ τ) (hH : pc_H 12 h D F W σ) : pc_H 12 h D F W τ := by
  unfold pc_H
  rw [g.1 12 (by omega), g.1 (12 + 2) (by omega), g.1 (12 + 3) (by omega), g.1 (12 + 4) (by omega), g.1 (12 + 5) (by omega)]
  exact hH
theorem pc_sm.L {h : pa_R} {σ τ : ps_S} (g : pc_sm σ τ) (hL : pc_L 12 h σ) : pc_L 12 h τ := by
  unfold pc_L
  rw [g.1 (12 + 7) (by omega), g.1 (12 + 8) (by omega)]
  exact hL
/-- an answer, kept or reckoned now -/
theorem pc_ask {h : pa_R} {σ σ9 : ps_S} {k row t : Nat} {told : Int32} (hr : row < 10) (ht : t < 2 ^ 31) (hO : pc_O h σ9) (h24 : σ9.1 24 row = told) {hi y5 y6 : Int32} (hi0 : 0 ≤ hi) (hk : k < 2) (hL : pa_LI h) (hC : pc_L 12 h σ9) (h1 : h (4 + k) = 1) (hkv : pa_kv h row (nI (t % 100)) told = pa_cl hi (pa_lv h k (pa_w (nI (t % 100)) told y5 y6))) :
    (¬ σ9.1 23 (row * 100 + t % 100) = -1 → σ9.1 23 (row * 100 + t % 100) = pa_kv h row (nI (t % 100)) told) ∧ ∃ τ, qX4_reckon (σ9.1 (12 + 7) (2 + 2 * k)) (σ9.1 (12 + 7) (3 + 2 * k)) (nI t) told y5 y6 σ9 = some (pa_lv h k (pa_w (nI (t % 100)) told y5 y6), τ) ∧ (∀ c, c ≠ 25 → τ.1 c = σ9.1 c) ∧ τ.2 = σ9.2 ∧
      pc_O h (ps_rI τ 23 (upd (τ.1 23) (row * 100 + t % 100) (pa_cl hi (pa_lv h k (pa_w (nI (t % 100)) told y5 y6))))) := by
  have e2 : nI t - nI t / 100 * 100 = nI (t % 100) := nI_rem (b := 100) ht (by omega) (by omega)
  have hm : t % 100 < 100 := Nat.mod_lt _ (by omega)
  refine ⟨fun hn => ?_, ?_⟩
  · rcases hO row hr (t % 100) hm with q | q
    · exact absurd q hn
    · rw [q, h24]
  · obtain ⟨τ, k1, k2, k3⟩ := pc_reckon (y3 := nI t) (y4 := told) (y5 := y5) (y6 := y6) hk hL hC h1
    rw [e2] at k1
    refine ⟨τ, k1, k2, k3, fun r hr2 u hu => ?_⟩
    rw [ps_rI_at, ps_rI_ne _ _ (by decide), k2 24 (by decide), k2 23 (by decide)]
    by_cases e : r * 100 + u = row * 100 + t % 100
    · have e3 : r = row := by omega
      have e4 : u = t % 100 := by omega
      subst e3
      subst e4
      rw [upd_self, h24, hkv]
      exact Or.inr rfl
    · rw [upd_ne _ _ e]
      exact hO r hr2 u hu
section PCQ
variable {h : pa_R} {D F W B : Nat} {σ : ps_S} {r : pa_R} {e : pa_D} {p : pa_P}
theorem pc_speed {d : Nat} (hB : 26 ≤ B) (hI : pa_HI h D F W) (hL : pa_LI h) (hH : pc_H 12 h D F W σ) (hC : pc_L 12 h σ) (hO : pc_O h σ) (hS : pc_S h D F W B σ r e p) (hd : d < D) (hs : ∃ n, n ≤ 999 ∧ r (25 + d) = nI n) {t : Nat} (ht : r 0 = nI t) (ht2 : t < 2 ^ 31) : ps_ok (qX4_speedOf B (nI d) σ) (fun v τ => v = pa_spd h r p.2.2.1 d ∧ pc_O h τ ∧ pc_sm σ τ) := by
  have hD := hI.1.2
  obtain ⟨n, hn, en⟩ := hs
  have e25 : σ.1 (B + 2) d = r (25 + d) := by rw [← hS.1, pc_rd2 hD hd]
  have e0 : σ.1 B 8 = r 0 := by rw [← hS.1, pc_rdt]
  have elw : σ.1 B 12 = p.2.2.1 := hS.2.2.2.2.2.2.1
  have hcl : pa_cl 999 (r (25 + d)) = r (25 + d) := by
    unfold pa_cl
    have q1 : (0 : Int32) ≤ nI n := nI_pos' (by omega)
    have q2 : nI n ≤ 999 := nI_le (b := 999) hn (by omega)
    rw [en, if_pos q1, if_pos q2]
  unfold qX4_speedOf pa_spd
  rw [if_pos (pz_ini (a := d) (by omega) (by omega)), nI_clamp (n := d) (by omega), pz_lt, pz_lt, pz_lt, e25]
  rcases hL 1 (by omega) with h5 | ⟨h5, fr, many, h6, h8, hm, hb, hn2, hty⟩
  · have h5' : h 5 = 0 := h5
    have q : σ.1 (12 + 7) 4 = σ.1 (12 + 7) 5 := (hC 1 (by omega)).1 h5
    rw [if_pos q]
    refine ps_os ⟨?_, hO, pc_sm.rf σ⟩
    by_cases c : nI d = p.2.2.1
    · rw [if_pos c]
    · rw [if_neg c, h5', if_neg (by decide), hcl]
  · have h5' : h 5 = 1 := h5
    obtain ⟨gf, gt, gc⟩ := (hC 1 (by omega)).2 h5
    have gf' : σ.1 (12 + 7) 4 = nI fr := gf.trans h6
    have gt' : σ.1 (12 + 7) 5 = nI (fr + many) := by rw [← nI_add, ← h6, ← h8]; exact gt
    have q : ¬ σ.1 (12 + 7) 4 = σ.1 (12 + 7) 5 := by
      rw [gf', gt']
      exact pc_lit (by omega) (by omega) (by omega)
    rw [if_neg q, pz_lt, elw]
    by_cases c : nI d = p.2.2.1
    · rw [if_pos c, if_pos c.symm]
      exact ps_os ⟨rfl, hO, pc_sm.rf σ⟩
    · have e6 : (6 : Int32) + nI d = nI (6 + d) := nI_add 6 d
      rw [if_neg c, if_neg (fun z => c z.symm), h5', if_pos rfl, pz_lt, e0, ht, e6]
      have e2 : nI t - nI t / 100 * 100 = nI (t % 100) := nI_rem (b := 100) ht2 (by omega) (by omega)
      rw [e2]
      have hm2 : t % 100 < 100 := Nat.mod_lt _ (by omega)
      obtain ⟨σ9, a1, a2, a3, a4, a5⟩ := pc_cellOf (h := h) (row := 6 + d) (t := t) (told := r (25 + d)) (by omega) ht2 hO
      have sm9 : pc_sm σ σ9 := ⟨fun c hc => a4 c (by omega) (by omega), a5⟩
      have hkv : pa_kv h (6 + d) (nI (t % 100)) (r (25 + d)) = pa_cl 999 (pa_lv h 1 (pa_w (nI (t % 100)) (r (25 + d)) (nI d) 0)) := by
        unfold pa_kv
        rw [if_neg (by omega), show 6 + d - 6 = d by omega]
      obtain ⟨b1, τ, b2, b3, b4, b5⟩ := pc_ask (k := 1) (σ := σ) (by omega) ht2 a3 a2 (by decide) (by omega) hL (sm9.L hC) h5 hkv
      rw [pz_bde a1, if_pos (pz_ini (a := (6 + d) * 100 + t % 100) (by omega) (by omega)), nI_clamp (n := (6 + d) * 100 + t % 100) (by omega), pz_lt]
      by_cases c2 : σ9.1 23 ((6 + d) * 100 + t % 100) = -1
      · have e09 : σ9.1 B 8 = nI t := by rw [sm9.1 B (by omega), e0, ht]
        have b2' : qX4_reckon (σ9.1 (12 + 7) 4) (σ9.1 (12 + 7) 5) (nI t) (r (25 + d)) (nI d) 0 σ9 = some (pa_lv h 1 (pa_w (nI (t % 100)) (r (25 + d)) (nI d) 0), τ) := b2
        rw [if_pos c2, pz_lt, pz_lt, pz_lt, e09, pz_bde b2', pz_lt, pz_lt, pa_cl_cls _ _ (by decide), if_pos (pz_ini (a := (6 + d) * 100 + t % 100) (by omega) (by omega)), pz_lt, if_pos (pz_ini (a := (6 + d) * 100 + t % 100) (by omega) (by omega)), pz_lt]
        refine ps_os ⟨by rw [ps_rI_at, upd_self], b5, fun c hc => ?_, by rw [ps_rI_2, b4, sm9.2]⟩
        rw [ps_rI_ne _ _ (by omega), b3 c (by omega), sm9.1 c hc]
      · rw [if_neg c2, if_pos (pz_ini (a := (6 + d) * 100 + t % 100) (by omega) (by omega)), pz_lt]
        exact ps_os ⟨by rw [b1 c2, hkv], a3, sm9⟩
theorem pc_wants {w : Nat} (hB : 26 ≤ B) (hI : pa_HI h D F W) (hL : pa_LI h) (hH : pc_H 12 h D F W σ) (hC : pc_L 12 h σ) (hO : pc_O h σ) (hS : pc_S h D F W B σ r e p) (hw : w < W) (hs : ∃ n, n ≤ 99 ∧ r (53 + w) = nI n) {t : Nat} (ht : r 0 = nI t) (ht2 : t < 2 ^ 31) : ps_ok (qX4_wantedBy B (nI w) σ) (fun v τ => v = pa_wnt h r w ∧ pc_O h τ ∧ pc_sm σ τ) := by
  have hW := hI.2.2.1.2
  obtain ⟨n, hn, en⟩ := hs
  have e53 : σ.1 (B + 13) w = r (53 + w) := by rw [← hS.1, pc_rd13 hW hw]
  have e0 : σ.1 B 8 = r 0 := by rw [← hS.1, pc_rdt]
  have hcl : pa_cl 99 (r (53 + w)) = r (53 + w) := by
    unfold pa_cl
    have q1 : (0 : Int32) ≤ nI n := nI_pos' (by omega)
    have q2 : nI n ≤ 99 := nI_le (b := 99) hn (by omega)
    rw [en, if_pos q1, if_pos q2]
  unfold qX4_wantedBy pa_wnt
  rw [if_pos (pz_ini (a := w) (by omega) (by omega)), nI_clamp (n := w) (by omega), pz_lt, pz_lt, pz_lt, e53]
  rcases hL 0 (by omega) with h5 | ⟨h5, fr, many, h6, h8, hm, hb, hn2, hty⟩
  · have h5' : h 4 = 0 := h5
    have q : σ.1 (12 + 7) 2 = σ.1 (12 + 7) 3 := (hC 0 (by omega)).1 h5
    rw [if_pos q]
    refine ps_os ⟨?_, hO, pc_sm.rf σ⟩
    rw [h5', if_neg (by decide), hcl]
  · have h5' : h 4 = 1 := h5
    obtain ⟨gf, gt, gc⟩ := (hC 0 (by omega)).2 h5
    have gf' : σ.1 (12 + 7) 2 = nI fr := gf.trans h6
    have gt' : σ.1 (12 + 7) 3 = nI (fr + many) := by rw [← nI_add, ← h6, ← h8]; exact gt
    have q : ¬ σ.1 (12 + 7) 2 = σ.1 (12 + 7) 3 := by
      rw [gf', gt']
      exact pc_lit (by omega) (by omega) (by omega)
    rw [if_neg q, h5', if_pos rfl, pz_lt, e0, ht]
    have e2 : nI t - nI t / 100 * 100 = nI (t % 100) := nI_rem (b := 100) ht2 (by omega) (by omega)
    rw [e2]
    have hm2 : t % 100 < 100 := Nat.mod_lt _ (by omega)
    obtain ⟨σ9, a1, a2, a3, a4, a5⟩ := pc_cellOf (h := h) (row := w) (t := t) (told := r (53 + w)) (by omega) ht2 hO
    have sm9 : pc_sm σ σ9 := ⟨fun c hc => a4 c (by omega) (by omega), a5⟩
    have edv : σ9.1 (12 + 5) w = pa_dev h w := by rw [sm9.1 _ (by omega)]; exact hH.2.2.2.2 w hw
    have hkv : pa_kv h w (nI (t % 100)) (r (53 + w)) = pa_cl 99 (pa_lv h 0 (pa_w (nI (t % 100)) (r (53 + w)) (pa_dev h w) (nI w))) := by
      unfold pa_kv
      rw [if_pos (by omega)]
    obtain ⟨b1, τ, b2, b3, b4, b5⟩ := pc_ask (k := 0) (σ := σ) (by omega) ht2 a3 a2 (by decide) (by omega) hL (sm9.L hC) h5 hkv
    rw [pz_bde a1, if_pos (pz_ini (a := w * 100 + t % 100) (by omega) (by omega)), nI_clamp (n := w * 100 + t % 100) (by omega), pz_lt]
    by_cases c2 : σ9.1 23 (w * 100 + t % 100) = -1
    · have e09 : σ9.1 B 8 = nI t := by rw [sm9.1 B (by omega), e0, ht]
      have b2' : qX4_reckon (σ9.1 (12 + 7) 2) (σ9.1 (12 + 7) 3) (nI t) (r (53 + w)) (pa_dev h w) (nI w) σ9 = some (pa_lv h 0 (pa_w (nI (t % 100)) (r (53 + w)) (pa_dev h w) (nI w)), τ) := b2
      rw [if_pos c2, if_pos (pz_ini (a := w) (by omega) (by omega)), pz_lt, pz_lt, pz_lt, pz_lt, edv, e09, pz_bde b2', pz_lt, pz_lt, pa_cl_cls _ _ (by decide), if_pos (pz_ini (a := w * 100 + t % 100) (by omega) (by omega)), pz_lt, if_pos (pz_ini (a := w * 100 + t % 100) (by omega) (by omega)), pz_lt]
      refine ps_os ⟨by rw [ps_rI_at, upd_self], b5, fun c hc => ?_, by rw [ps_rI_2, b4, sm9.2]⟩
      rw [ps_rI_ne _ _ (by omega), b3 c (by omega), sm9.1 c hc]
    · rw [if_neg c2, if_pos (pz_ini (a := w * 100 + t % 100) (by omega) (by omega)), pz_lt]
      exact ps_os ⟨by rw [b1 c2, hkv], a3, sm9⟩
end PCQ
