/-! lists of what a device writes; speeds that fit -/
def pa_yj (H : pa_H) (p : pa_P) (x : pa_X) : Nat → pa_X
  | 0 => x
  | j + 1 => pa_tks H p 10 (pa_yj H p x j)
def pa_sp (H : pa_H) (p : pa_P) (d : Nat) (y : pa_X) : Int32 := (pa_tks H p 10 y).1 (45 + d) - y.1 (45 + d)
/-- a tray after so many lists -/
def pa_lz (H : pa_H) (p : pa_P) (x : pa_X) (d : Nat) (z : Int32 × Nat × (Nat → Int64)) : Nat → Int32 × Nat × (Nat → Int64)
  | 0 => z
  | j + 1 => pa_vu (pa_lz H p x d z j) j (pa_cut (pa_sp H p d (pa_yj H p x j)).toInt64 z.1)
theorem pa_lz1 {H : pa_H} {p : pa_P} {x : pa_X} {d : Nat} {z : Int32 × Nat × (Nat → Int64)} : ∀ j, (pa_lz H p x d z j).1 = z.1 ∧ (pa_lz H p x d z j).2.1 = z.2.1
  | 0 => ⟨rfl, rfl⟩
  | j + 1 => pa_lz1 (H := H) (p := p) (x := x) (d := d) j
section LISTS
variable {H : pa_H} {x : pa_X} {n : Nat} {P : Nat → pa_X} {im : pa_Im} {tr : pa_Tr} {tp : pa_Tp} {fl : Int32 × Int32} {σ0 σ τ : ps_S} {p : pa_P} {y : pa_X} {t T : Nat}
theorem pa_yjV (hI : pa_WH H) (hp : pa_PI H.1 p) (iv : pa_V H t x) : ∀ j, t + 10 * j ≤ 3000000 → pa_V H (t + 10 * j) (pa_yj H p x j)
  | 0, _ => iv
  | j + 1, ht => by
    have := (pa_yjV hI hp iv j (by omega)).tks (p := p) (k := 10) hI hp (by omega)
    rw [show t + 10 * (j + 1) = t + 10 * j + 10 by omega]
    exact this
theorem pa_trs2 {i : Nat} {y z : Int32 × Nat × (Nat → Int64)} : pa_trs (pa_trs tr i y) i z = pa_trs tr i z := by
  funext j
  unfold pa_trs
  by_cases c : j = i
  · rw [if_pos c, if_pos c]
  · rw [if_neg c, if_neg c, if_neg c]
theorem pa_trs_id {i : Nat} {y : Int32 × Nat × (Nat → Int64)} (h : tr i = some y) : pa_trs tr i y = tr := by
  funext j
  unfold pa_trs
  by_cases c : j = i
  · rw [if_pos c, c, h]
  · rw [if_neg c]
theorem pa_trs_at {i : Nat} {y : Int32 × Nat × (Nat → Int64)} : pa_trs tr i y i = some y := by
  unfold pa_trs
  rw [if_pos rfl]
theorem pc_liL {d i : Nat} {z : Int32 × Nat × (Nat → Int64)} {y1 : Int32} (hI : pa_WH H) (hp : pa_PI H.1 p) (hd : d < 4) (hi : i < 4) (hm : z.2.1 ≤ 40) (iv : pa_V H t x) (ht : t + 400 ≤ 3000000) : ∀ (m j fuel : Nat) (τ : ps_S), j + m = z.2.1 → m < fuel → pw_r σ0 τ → pc_G H.1 H.2.1 H.2.2.1 H.2.2.2 44 p τ (pa_yj H p x j) → pc_W H x n P im (pa_trs tr i (pa_lz H p x d z j)) tp fl τ → ps_ok (qX8_lists_49 (265 + 2 * i) y1 (nI d) fuel (nI j) τ) (fun _ υ => pc_W H x n P im (pa_trs tr i (pa_lz H p x d z z.2.1)) tp fl υ ∧ pw_r σ0 υ) := by
  intro m
  induction m with
  | zero =>
    intro j fuel τ h1 h2 r1 g w
    obtain ⟨f, rfl⟩ : ∃ f, fuel = f + 1 := ⟨fuel - 1, by omega⟩
    obtain ⟨a1, a2, a3, a4⟩ := (w.2.2.2.1 i hi).2 _ pa_trs_at
    rw [(pa_lz1 j).2] at a3
    have e : j = z.2.1 := by omega
    rw [qX8_lists_49]
    refine pz_l a3 ?_
    rw [e] at w ⊢
    exact pz_t (nI_le (Nat.le_refl _) (by omega)) (pz_done ⟨w, r1⟩)
  | succ m ih =>
    intro j fuel τ h1 h2 r1 g w
    obtain ⟨f, rfl⟩ : ∃ f, fuel = f + 1 := ⟨fuel - 1, by omega⟩
    obtain ⟨a1, a2, a3, a4⟩ := (w.2.2.2.1 i hi).2 _ pa_trs_at
    rw [(pa_lz1 j).2] at a3
    rw [qX8_lists_49]
    refine pz_l a3 ?_
    refine pz_e (nI_ge (by omega) (by omega)) ?_
    have ivj := pa_yjV hI hp iv j (by omega)
    have gY : pc_Y H x n P im (pa_trs tr i (pa_lz H p x d z j)) tp fl τ p τ (pa_yj H p x j) := ⟨g, pc_kp.rf _, w⟩
    refine pz_bd (pc_span hI hp hd ivj (by omega) gY) (fun v υ ev => ?_)
    obtain ⟨rfl, gu⟩ := ev
    obtain ⟨b1, b2, b3, b4⟩ := (gu.2.2.2.2.2.1 i hi).2 _ pa_trs_at
    rw [(pa_lz1 j).1] at b2
    refine pz_bd (pc_put (j := j) (by omega) b2) (fun _ ω e => ?_)
    obtain ⟨w3, r3⟩ := pc_Wput hi pa_trs_at gu.2.2 e
    rw [pa_trs2] at w3
    rw [pz_lt, nI_1]
    have g3 : pc_G H.1 H.2.1 H.2.2.1 H.2.2.2 44 p ω (pa_yj H p x (j + 1)) := by
      obtain ⟨q1, q2, q3, q4⟩ := gu.1
      refine ⟨q1.congr (fun o ho => by rw [e]; rfl) (by rw [e]; rfl), q2.congr (fun o ho => by rw [e]; rfl), q3.congr (fun o ho => by rw [e]; rfl), ?_⟩
      unfold pc_O at q4 ⊢
      rw [e]
      exact q4
    exact ih (j + 1) f ω (by omega) (by omega) ((r1.tr gu.2.1.2).tr r3) g3 w3
theorem pg_liL {d i : Nat} {z : Int32 × Nat × (Nat → Int64)} {y3 : Int32} (hI : pa_WH H) (hp : pa_PI H.1 p) (hd : d < 4) (hi : i < 4) (hm : z.2.1 ≤ 40) (hT : ∀ i, i < 4 → ∀ y, tr i = some y → y.2.1 ≤ 40) (iv : pa_V H t x) (ht : t + 400 ≤ 3000000) : ∀ (m j fuel : Nat) (τ : ps_S), j + m = z.2.1 → m < fuel → pw_c σ0 τ → pg_T H.1 H.2.1 H.2.2.2 τ τ (pa_yj H p x j).1 (pa_yj H p x j).2 p → pg_W H x n P im (pa_trs tr i (pa_lz H p x d z j)) tp fl τ → ps_ok (qX9_lists_48 (nI i) (nI d) y3 fuel (nI j) τ) (fun _ υ => pg_W H x n P im (pa_trs tr i (pa_lz H p x d z z.2.1)) tp fl υ ∧ pw_c σ0 υ) := by
  intro m
  induction m with
  | zero =>
    intro j fuel τ h1 h2 r1 g w
    obtain ⟨f, rfl⟩ : ∃ f, fuel = f + 1 := ⟨fuel - 1, by omega⟩
    obtain ⟨a1, a2, a3⟩ := (w.2.2.2.1 i hi).2 _ pa_trs_at
    rw [(pa_lz1 j).2] at a2
    have e : j = z.2.1 := by omega
    rw [qX9_lists_48]
    refine pz_rd (k := i) rfl hi (by decide) a2 ?_
    rw [e] at w ⊢
    exact pz_t (nI_le (Nat.le_refl _) (by omega)) (pz_done ⟨w, r1⟩)
  | succ m ih =>
    intro j fuel τ h1 h2 r1 g w
    obtain ⟨f, rfl⟩ : ∃ f, fuel = f + 1 := ⟨fuel - 1, by omega⟩
    obtain ⟨a1, a2, a3⟩ := (w.2.2.2.1 i hi).2 _ pa_trs_at
    rw [(pa_lz1 j).2] at a2
    rw [qX9_lists_48]
    refine pz_rd (k := i) rfl hi (by decide) a2 ?_
    refine pz_e (nI_ge (by omega) (by omega)) ?_
    have ivj := pa_yjV hI hp iv j (by omega)
    have gY : pg_Y H x n P im (pa_trs tr i (pa_lz H p x d z j)) tp fl τ p τ (pa_yj H p x j) := ⟨g, pg_kp.rf _, w⟩
    refine pz_bd (pg_span hI hp hd ivj (by omega) gY) (fun v υ ev => ?_)
    obtain ⟨rfl, gu⟩ := ev
    obtain ⟨b1, b2, b3⟩ := (gu.2.2.2.2.2.1 i hi).2 _ pa_trs_at
    rw [(pa_lz1 j).1] at b1
    refine pz_rd (k := i) rfl hi (by decide) b1 ?_
    refine pz_bd' (pg_cut _ _ υ) ?_
    refine pz_wrL (k := 40 * i + j) (nI_40 i j) (by omega) (by decide) (fun ω e => ?_)
    have hT' : ∀ k, k < 4 → ∀ y, pa_trs tr i (pa_lz H p x d z j) k = some y → y.2.1 ≤ 40 := by
      intro k hk y hy
      unfold pa_trs at hy
      by_cases c : k = i
      · rw [if_pos c] at hy
        cases hy
        rw [(pa_lz1 j).2]
        exact hm
      · rw [if_neg c] at hy
        exact hT k hk y hy
    obtain ⟨w3, r3⟩ := pg_Wput hT' hi (show j < 40 by omega) pa_trs_at gu.2.2 e
    rw [pa_trs2] at w3
    rw [pz_lt, nI_1]
    have g3 : pg_T H.1 H.2.1 H.2.2.2 ω ω (pa_yj H p x (j + 1)).1 (pa_yj H p x (j + 1)).2 p := by
      obtain ⟨q1, q2, q3, q4, q5⟩ := gu.1
      subst e
      exact ⟨q1, q2, q3, q4, pg_fr.rf _⟩
    exact ih (j + 1) f ω (by omega) (by omega) (pw_c.tr (pw_c.tr r1 gu.2.1.1) r3) g3 w3
/-- spans that fit a tray -/
def sp_fit (H : pa_H) (p : pa_P) (d : Nat) (tv : Nat → Int64) : Nat → Nat → pa_X → Bool
  | _, 0, _ => true
  | i, m + 1, y => if (pa_sp H p d y).toInt64 = tv i then sp_fit H p d tv (i + 1) m (pa_tks H p 10 y) else false
theorem pc_fitL {d i : Nat} {z : Int32 × Nat × (Nat → Int64)} {y3 : Int32} (hI : pa_WH H) (hp : pa_PI H.1 p) (hd : d < 4) (hi : i < 4) (hz : tr i = some z) (hm : z.2.1 ≤ 40) : ∀ (m j fuel t : Nat) (τ : ps_S) (y : pa_X), j + m = z.2.1 → m < fuel → pa_V H t y → t + 10 * m ≤ 3000000 → pc_Y H x n P im tr tp fl σ0 p τ y → ps_ok (qX8_fits_35 (265 + 2 * i) (nI d) y3 fuel (nI j) τ) (fun r υ => ((r = .inl 0 ∧ sp_fit H p d z.2.2 j m y = false) ∨ ((∃ v, r = .inr v) ∧ sp_fit H p d z.2.2 j m y = true)) ∧ pc_kp σ0 υ ∧ pc_W H x n P im tr tp fl υ) := by
  intro m
  induction m with
  | zero =>
    intro j fuel t τ y h1 h2 iv ht g
    obtain ⟨f, rfl⟩ : ∃ f, fuel = f + 1 := ⟨fuel - 1, by omega⟩
    obtain ⟨a1, a2, a3, a4⟩ := (g.2.2.2.2.2.1 i hi).2 z hz
    rw [qX8_fits_35]
    refine pz_l a3 ?_
    exact pz_t (nI_le (by omega) (by omega)) (pz_done ⟨Or.inr ⟨⟨_, rfl⟩, rfl⟩, g.2.1, g.2.2⟩)
  | succ m ih =>
    intro j fuel t τ y h1 h2 iv ht g
    obtain ⟨f, rfl⟩ : ∃ f, fuel = f + 1 := ⟨fuel - 1, by omega⟩
    obtain ⟨a1, a2, a3, a4⟩ := (g.2.2.2.2.2.1 i hi).2 z hz
    rw [qX8_fits_35, sp_fit]
    refine pz_l a3 ?_
    refine pz_e (nI_ge (by omega) (by omega)) ?_
    refine pz_bd (pc_span hI hp hd iv (by omega) g) (fun v υ ev => ?_)
    obtain ⟨rfl, gu⟩ := ev
    obtain ⟨b1, b2, b3, b4⟩ := (gu.2.2.2.2.2.1 i hi).2 z hz
    refine pz_rdL (k := j) rfl (by omega) (by decide) (w := z.2.2 j) (by rw [show 265 + 2 * i + 1 = 266 + 2 * i by omega]; exact b4 j (by omega)) ?_
    by_cases c : (pa_sp H p d y).toInt64 = z.2.2 j
    · rw [if_pos c]
      refine pz_t ((lg_cmp_eq _ _).mpr c) ?_
      rw [pz_lt, nI_1]
      exact ih (j + 1) f (t + 10) υ (pa_tks H p 10 y) (by omega) (by omega) (iv.tks hI hp (by omega)) (by omega) gu
    · rw [if_neg c]
      exact pz_e (fun hh => c ((lg_cmp_eq _ _).mp hh)) (pz_done ⟨Or.inl ⟨rfl, rfl⟩, gu.2.1, gu.2.2⟩)
theorem pg_fitL {d i : Nat} {z : Int32 × Nat × (Nat → Int64)} {y3 : Int32} (hI : pa_WH H) (hp : pa_PI H.1 p) (hd : d < 4) (hi : i < 4) (hz : tr i = some z) (hm : z.2.1 ≤ 40) : ∀ (m j fuel t : Nat) (τ : ps_S) (y : pa_X), j + m = z.2.1 → m < fuel → pa_V H t y → t + 10 * m ≤ 3000000 → pg_Y H x n P im tr tp fl σ0 p τ y → ps_ok (qX9_isWrote_17 (nI i) (nI d) y3 fuel (nI j) τ) (fun r υ => ((r = .inl 0 ∧ sp_fit H p d z.2.2 j m y = false) ∨ ((∃ v, r = .inr v) ∧ sp_fit H p d z.2.2 j m y = true)) ∧ pg_kp σ0 υ ∧ pg_W H x n P im tr tp fl υ) := by
  intro m
  induction m with
  | zero =>
    intro j fuel t τ y h1 h2 iv ht g
    obtain ⟨f, rfl⟩ : ∃ f, fuel = f + 1 := ⟨fuel - 1, by omega⟩
    obtain ⟨a1, a2, a3⟩ := (g.2.2.2.2.2.1 i hi).2 z hz
    rw [qX9_isWrote_17]
    refine pz_rd (k := i) rfl hi (by decide) a2 ?_
    exact pz_t (nI_le (by omega) (by omega)) (pz_done ⟨Or.inr ⟨⟨_, rfl⟩, rfl⟩, g.2.1, g.2.2⟩)
  | succ m ih =>
    intro j fuel t τ y h1 h2 iv ht g
    obtain ⟨f, rfl⟩ : ∃ f, fuel = f + 1 := ⟨fuel - 1, by omega⟩
    obtain ⟨a1, a2, a3⟩ := (g.2.2.2.2.2.1 i hi).2 z hz
    rw [qX9_isWrote_17, sp_fit]
    refine pz_rd (k := i) rfl hi (by decide) a2 ?_
    refine pz_e (nI_ge (by omega) (by omega)) ?_
    refine pz_bd (pg_span hI hp hd iv (by omega) g) (fun v υ ev => ?_)
    obtain ⟨rfl, gu⟩ := ev
    obtain ⟨b1, b2, b3⟩ := (gu.2.2.2.2.2.1 i hi).2 z hz
    refine pz_rdL (k := 40 * i + j) (nI_40 i j) (by omega) (by decide) (b3 j (by omega)) ?_
    by_cases c : (pa_sp H p d y).toInt64 = z.2.2 j
    · rw [if_pos c]
      refine pz_t ((lg_cmp_eq _ _).mpr c) ?_
      rw [pz_lt, nI_1]
      exact ih (j + 1) f (t + 10) υ (pa_tks H p 10 y) (by omega) (by omega) (iv.tks hI hp (by omega)) (by omega) gu
    · rw [if_neg c]
      exact pz_e (fun hh => c ((lg_cmp_eq _ _).mp hh)) (pz_done ⟨Or.inl ⟨rfl, rfl⟩, gu.2.1, gu.2.2⟩)
def pa_pd (h : pa_R) (d : Nat) : pa_P := (h 10, -1, nI d, 0)
def pa_xs (x : pa_X) (d v : Nat) : pa_X := (upd x.1 (25 + d) (nI v), x.2)
theorem pa_xsV {d v : Nat} (hI : pa_WH H) (iv : pa_V H t x) (hd : d < H.2.1) (hv : v ≤ 999) : pa_V H t (pa_xs x d v) := by
  have hD := hI.1.1.2
  exact pa_V.up hI iv (Or.inl ⟨by omega, by omega⟩) (fun _ _ _ => ⟨v, hv, rfl⟩) (fun w hw e => by have := hI.1.2.2.1.2; omega)
theorem pc_fits {d i v : Nat} {z : Int32 × Nat × (Nat → Int64)} (hI : pa_WH H) (hd : d < H.2.1) (hi : i < 4) (hz : tr i = some z) (hm : z.2.1 ≤ 40) (hv : v ≤ 999) (iv : pa_V H t x) (ht : t + 400 ≤ 3000000) (w : pc_W H x n P im tr tp fl σ) : ps_ok (qX8_fits (265 + 2 * i) (nI d) (nI v) σ) (fun r υ => r = (if sp_fit H (pa_pd H.1 d) d z.2.2 0 z.2.1 (pa_xs x d v) = true then 1 else 0) ∧ pc_kp σ υ ∧ pc_W H x n P im tr tp fl υ) := by
  have hD := hI.1.1.2
  obtain ⟨hp, -⟩ := pa_p0I hI
  have hp' : pa_PI H.1 (pa_pd H.1 d) := hp
  unfold qX8_fits
  refine pz_bd (w.go hI) (fun _ τ g => ?_)
  refine pc_w2 g.T hD hd rfl (fun τ1 g1 => ?_)
  rw [pz_lt]
  have hS : pc_S H.1 H.2.1 H.2.2.1 H.2.2.2 44 τ1 (pa_xs x d v).1 (pa_xs x d v).2 (pa_p0 H.1) := g1.1.S (pa_all_congr (fun k hk => (upd_ne _ _ (by omega)).symm)) (fun d hd => pa_don_congr hI.1.2.1.2 (fun k hk => (upd_ne _ _ (by omega)).symm))
  have g2 : pc_Y H x n P im tr tp fl σ (pa_pd H.1 d) (ps_rI τ1 44 (upd (τ1.1 44) 12 (nI d))) (pa_xs x d v) := g.to hS.set12 (g1.2.tr (pc_fb.I _ 0 _ (by decide)))
  refine pz_bd (pc_fitL hI hp' (show d < 4 by omega) hi hz hm z.2.1 0 ps_N t _ (pa_xs x d v) (by omega) (by unfold ps_N; omega) (pa_xsV hI iv hd hv) (by omega) g2) (fun r υ hr => ?_)
  obtain ⟨hr, hr2⟩ := hr
  rcases hr with ⟨rfl, e⟩ | ⟨⟨_, rfl⟩, e⟩
  · rw [e]; exact pz_done ⟨rfl, hr2⟩
  · rw [e]; exact pz_done ⟨rfl, hr2⟩
theorem pg_fits {d i v : Nat} {z : Int32 × Nat × (Nat → Int64)} (hI : pa_WH H) (hd : d < H.2.1) (hi : i < 4) (hz : tr i = some z) (hm : z.2.1 ≤ 40) (hv : v ≤ 999) (iv : pa_V H t x) (ht : t + 400 ≤ 3000000) (w : pg_W H x n P im tr tp fl σ) : ps_ok (qX9_isWrote (nI i) (nI d) (nI v) σ) (fun r υ => r = (if sp_fit H (pa_pd H.1 d) d z.2.2 0 z.2.1 (pa_xs x d v) = true then 1 else 0) ∧ pg_kp σ υ ∧ pg_W H x n P im tr tp fl υ) := by
  have hD := hI.1.1.2
  obtain ⟨hp, -⟩ := pa_p0I hI
  have hp' : pa_PI H.1 (pa_pd H.1 d) := hp
  unfold qX9_isWrote
  refine pz_bd (w.go hI) (fun _ τ g => ?_)
  rw [pz_lt, pz_lt, ps_rI_2', ps_rI_at]
  have g2 : pg_Y H x n P im tr tp fl σ (pa_pd H.1 d) (ps_rI τ 327 (upd (upd (τ.1 327) 23 (nI d)) 24 (nI v))) (pa_xs x d v) := by
    obtain ⟨q1, q2, q3, q4⟩ := g.1.2.2.2.1
    have h23 : τ.1 327 23 = -1 := q3.symm
    refine g.to ?_ g.1.2.1 ⟨?_, fun d hd => ?_, ?_, ?_⟩ ⟨fun k hk => ⟨ps_rI_ne _ _ (by omega), rfl, rfl⟩, fun k hk => ps_rI_ne _ _ (by omega), rfl, rfl, fun j hj => by rw [ps_rI_at, upd_ne _ _ (by omega), upd_ne _ _ (by omega)]⟩
    · show _ = upd x.1 (25 + d) (nI v)
      rw [← g.1.1]
      unfold pg_r
      rw [← pa_can_upd ⟨by omega, by omega, by omega⟩]
      refine pa_can_ext (fun k hk => ?_)
      unfold pg_f
      rw [ps_rI_at, ps_rI_ne _ _ (by decide), upd_ne _ _ (by decide), upd_self, upd_self, h23]
      by_cases c : k = 25 + d
      · subst c
        rw [if_pos ⟨by omega, by omega, by rw [Nat.add_sub_cancel_left]⟩, upd_self]
      · rw [upd_ne _ _ c, if_neg, if_neg]
        · intro hh
          exact nI_m1 (by omega) hh.2.2.symm
        · intro hh
          have := (nI_eq (by omega) (by omega)).mp hh.2.2
          omega
    · rw [ps_rI_at, upd_ne _ _ (by decide), upd_ne _ _ (by decide)]; exact q1
    · rw [ps_rI_at, upd_ne _ _ (by decide), upd_ne _ _ (by decide)]; exact q2 d hd
    · rw [ps_rI_at, upd_ne _ _ (by decide), upd_self]; rfl
    · rw [ps_rI_at, upd_ne _ _ (by decide), upd_ne _ _ (by decide)]; exact q4
  refine pz_bd (pg_fitL hI hp' (show d < 4 by omega) hi hz hm z.2.1 0 ps_N t _ (pa_xs x d v) (by omega) (by unfold ps_N; omega) (pa_xsV hI iv hd hv) (by omega) g2) (fun r υ hr => ?_)
  obtain ⟨hr, hr2⟩ := hr
  rcases hr with ⟨rfl, e⟩ | ⟨⟨_, rfl⟩, e⟩
  · rw [e]; exact pz_done ⟨rfl, hr2⟩
  · rw [e]; exact pz_done ⟨rfl, hr2⟩
def sp_sp (c : Nat → Bool) : Nat → Nat → Int32 → Int32 → Int32 → Int32 × Int32 × Int32
  | _, 0, a, b, g => (a, b, g)
  | i, m + 1, a, b, g => if c i = true then (if b = -1 then sp_sp c (i + 1) m (a + 1) (nI i) (nI i) else sp_sp c (i + 1) m (a + 1) b (nI i)) else sp_sp c (i + 1) m a b g
theorem pc_spL {d i : Nat} {z : Int32 × Nat × (Nat → Int64)} {y1 y3 : Int32} (hI : pa_WH H) (hd : d < H.2.1) (hi : i < 4) (hz : tr i = some z) (hm : z.2.1 ≤ 40) (iv : pa_V H t x) (ht : t + 400 ≤ 3000000) : ∀ (m v fuel : Nat) (a b gr : Int32) (τ : ps_S), v + m = 1000 → m < fuel → pc_kp σ0 τ → pc_W H x n P im tr tp fl τ → ps_ok (qX8_speeds_86 (265 + 2 * i) y1 (nI d) y3 fuel a b gr (nI v) τ) (fun r υ => r = ((sp_sp (fun v => sp_fit H (pa_pd H.1 d) d z.2.2 0 z.2.1 (pa_xs x d v)) v m a b gr).1, (sp_sp (fun v => sp_fit H (pa_pd H.1 d) d z.2.2 0 z.2.1 (pa_xs x d v)) v m a b gr).2.1, (sp_sp (fun v => sp_fit H (pa_pd H.1 d) d z.2.2 0 z.2.1 (pa_xs x d v)) v m a b gr).2.2, nI 1000) ∧ pc_kp σ0 υ ∧ pc_O H.1 υ) := by
  intro m
  induction m with
  | zero =>
    intro v fuel a b gr τ h1 h2 kp w
    obtain ⟨f, rfl⟩ : ∃ f, fuel = f + 1 := ⟨fuel - 1, by omega⟩
    have e : v = 1000 := by omega
    rw [qX8_speeds_86, e]
    exact pz_t (nI_lt (a := 999) (by omega) (by omega)) (pz_done ⟨rfl, kp, w.1.2.2⟩)
  | succ m ih =>
    intro v fuel a b gr τ h1 h2 kp w
    obtain ⟨f, rfl⟩ : ∃ f, fuel = f + 1 := ⟨fuel - 1, by omega⟩
    rw [qX8_speeds_86, sp_sp]
    refine pz_e (nI_nlt (a := 999) (by omega) (by omega)) ?_
    refine pz_bd (pc_fits hI hd hi hz hm (show v ≤ 999 by omega) iv ht w) (fun r υ hr => ?_)
    obtain ⟨rfl, k2, w2⟩ := hr
    have ih' := fun a b gr => ih (v + 1) f a b gr υ (by omega) (by omega) (kp.tr k2) w2
    by_cases c : sp_fit H (pa_pd H.1 d) d z.2.2 0 z.2.1 (pa_xs x d v) = true
    · rw [if_pos c, if_pos c]
      refine pz_e (by decide) ?_
      rw [pz_lt]
      refine pz_if (fun c2 => ?_) (fun c2 => ?_)
      · rw [if_pos c2, pz_lt, nI_1]; exact ih' _ _ _
      · rw [if_neg c2, pz_lt, nI_1]; exact ih' _ _ _
    · rw [if_neg c, if_neg c]
      refine pz_t rfl ?_
      rw [pz_lt, nI_1]
      exact ih' _ _ _
theorem pg_spL {d i : Nat} {z : Int32 × Nat × (Nat → Int64)} {y3 y4 : Int32} (hI : pa_WH H) (hd : d < H.2.1) (hi : i < 4) (hz : tr i = some z) (hm : z.2.1 ≤ 40) (iv : pa_V H t x) (ht : t + 400 ≤ 3000000) : ∀ (m v fuel : Nat) (a b gr : Int32) (τ : ps_S), v + m = 1000 → m < fuel → pg_kp σ0 τ → pg_W H x n P im tr tp fl τ → ps_ok (qX9_speeds_68 (nI i) (nI d) y3 y4 fuel a b gr (nI v) τ) (fun r υ => r = ((sp_sp (fun v => sp_fit H (pa_pd H.1 d) d z.2.2 0 z.2.1 (pa_xs x d v)) v m a b gr).1, (sp_sp (fun v => sp_fit H (pa_pd H.1 d) d z.2.2 0 z.2.1 (pa_xs x d v)) v m a b gr).2.1, (sp_sp (fun v => sp_fit H (pa_pd H.1 d) d z.2.2 0 z.2.1 (pa_xs x d v)) v m a b gr).2.2, nI 1000) ∧ pg_kp σ0 υ) := by
  intro m
  induction m with
  | zero =>
    intro v fuel a b gr τ h1 h2 kp w
    obtain ⟨f, rfl⟩ : ∃ f, fuel = f + 1 := ⟨fuel - 1, by omega⟩
    have e : v = 1000 := by omega
    rw [qX9_speeds_68, e]
    exact pz_t (nI_le (a := 1000) (by omega) (by omega)) (pz_done ⟨rfl, kp⟩)
  | succ m ih =>
    intro v fuel a b gr τ h1 h2 kp w
    obtain ⟨f, rfl⟩ : ∃ f, fuel = f + 1 := ⟨fuel - 1, by omega⟩
    rw [qX9_speeds_68, sp_sp]
    refine pz_e (nI_ge (b := 1000) (by omega) (by omega)) ?_
    refine pz_bd (pg_fits hI hd hi hz hm (show v ≤ 999 by omega) iv ht w) (fun r υ hr => ?_)
    obtain ⟨rfl, k2, w2⟩ := hr
    have ih' := fun a b gr => ih (v + 1) f a b gr υ (by omega) (by omega) (kp.tr k2) w2
    by_cases c : sp_fit H (pa_pd H.1 d) d z.2.2 0 z.2.1 (pa_xs x d v) = true
    · rw [if_pos c, if_pos c]
      refine pz_e (by decide) ?_
      rw [pz_lt]
      refine pz_if (fun c2 => ?_) (fun c2 => ?_)
      · rw [if_pos c2, pz_lt, nI_1]; exact ih' _ _ _
      · rw [if_neg c2, pz_lt, nI_1]; exact ih' _ _ _
    · rw [if_neg c, if_neg c]
      refine pz_t rfl ?_
      rw [pz_lt, nI_1]
      exact ih' _ _ _
/-- numbers below 0 -/
def sp_neg (tv : Nat → Int64) : Nat → Nat → Bool
  | _, 0 => false
  | i, m + 1 => if tv i < 0 then true else sp_neg tv (i + 1) m
theorem lg_ge0 {v : Int64} : 0 ≤ lg_cmp v 0 ↔ ¬ v < 0 := by
  rw [lg_cmp_ge]
  exact Int64.not_lt.symm
theorem pc_negL {i : Nat} {z : Int32 × Nat × (Nat → Int64)} (hi : i < 4) (hz : tr i = some z) (hm : z.2.1 ≤ 40) (w : pc_Wt tr σ) : ∀ (m j fuel : Nat), j + m = z.2.1 → m < fuel → ps_ok (qX7_hasBelowZero_2 (265 + 2 * i) fuel (nI j) σ) (fun r υ => ((r = .inl 1 ∧ sp_neg z.2.2 j m = true) ∨ ((∃ v, r = .inr v) ∧ sp_neg z.2.2 j m = false)) ∧ υ = σ) := by
  intro m
  obtain ⟨a1, a2, a3, a4⟩ := (w i hi).2 z hz
  induction m with
  | zero =>
    intro j fuel h1 h2
    obtain ⟨f, rfl⟩ : ∃ f, fuel = f + 1 := ⟨fuel - 1, by omega⟩
    rw [qX7_hasBelowZero_2]
    refine pz_l a3 ?_
    exact pz_t (nI_le (by omega) (by omega)) (pz_done ⟨Or.inr ⟨⟨_, rfl⟩, rfl⟩, rfl⟩)
  | succ m ih =>
    intro j fuel h1 h2
    obtain ⟨f, rfl⟩ : ∃ f, fuel = f + 1 := ⟨fuel - 1, by omega⟩
    rw [qX7_hasBelowZero_2, sp_neg]
    refine pz_l a3 ?_
    refine pz_e (nI_ge (by omega) (by omega)) ?_
    refine pz_rdL (k := j) rfl (by omega) (by decide) (w := z.2.2 j) (by rw [show 265 + 2 * i + 1 = 266 + 2 * i by omega]; exact a4 j (by omega)) ?_
    by_cases c : z.2.2 j < 0
    · rw [if_pos c]
      exact pz_e (fun hh => lg_ge0.mp hh c) (pz_done ⟨Or.inl ⟨rfl, rfl⟩, rfl⟩)
    · rw [if_neg c]
      refine pz_t (lg_ge0.mpr c) ?_
      rw [pz_lt, nI_1]
      exact ih (j + 1) f (by omega) (by omega)
theorem pg_negL {i : Nat} {z : Int32 × Nat × (Nat → Int64)} {y2 : Int32} (hi : i < 4) (hz : tr i = some z) (hm : z.2.1 ≤ 40) (w : pg_Wt tr σ) : ∀ (m j fuel : Nat), j + m = z.2.1 → m < fuel → ps_ok (qX9_noWrote_34 (nI i) y2 fuel (nI j) σ) (fun r υ => ((r = .inl (-3) ∧ sp_neg z.2.2 j m = true) ∨ ((∃ v, r = .inr v) ∧ sp_neg z.2.2 j m = false)) ∧ υ = σ) := by
  intro m
  obtain ⟨a1, a2, a3⟩ := (w i hi).2 z hz
  induction m with
  | zero =>
    intro j fuel h1 h2
    obtain ⟨f, rfl⟩ : ∃ f, fuel = f + 1 := ⟨fuel - 1, by omega⟩
    rw [qX9_noWrote_34]
    refine pz_rd (k := i) rfl hi (by decide) a2 ?_
    exact pz_t (nI_le (by omega) (by omega)) (pz_done ⟨Or.inr ⟨⟨_, rfl⟩, rfl⟩, rfl⟩)
  | succ m ih =>
    intro j fuel h1 h2
    obtain ⟨f, rfl⟩ : ∃ f, fuel = f + 1 := ⟨fuel - 1, by omega⟩
    rw [qX9_noWrote_34, sp_neg]
    refine pz_rd (k := i) rfl hi (by decide) a2 ?_
    refine pz_e (nI_ge (by omega) (by omega)) ?_
    refine pz_rdL (k := 40 * i + j) (nI_40 i j) (by omega) (by decide) (a3 j (by omega)) ?_
    by_cases c : z.2.2 j < 0
    · rw [if_pos c]
      exact pz_e (fun hh => lg_ge0.mp hh c) (pz_done ⟨Or.inl ⟨rfl, rfl⟩, rfl⟩)
    · rw [if_neg c]
      refine pz_t (lg_ge0.mpr c) ?_
      rw [pz_lt, nI_1]
      exact ih (j + 1) f (by omega) (by omega)
end LISTS
