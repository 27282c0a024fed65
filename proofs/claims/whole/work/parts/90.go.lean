/-! going on in a copy -/
def pa_tk (H : pa_H) (p : pa_P) (y : pa_X) : pa_X := pa_tick H.1 H.2.1 H.2.2.1 H.2.2.2 p y
def pa_tks (H : pa_H) (p : pa_P) (k : Nat) (y : pa_X) : pa_X := pa_ticks H.1 H.2.1 H.2.2.1 H.2.2.2 p k y
def pa_V (H : pa_H) (t : Nat) (y : pa_X) : Prop := pa_IV H.1 H.2.1 H.2.2.1 H.2.2.2 t y
theorem pa_V.tk {H : pa_H} {p : pa_P} {t : Nat} {y : pa_X} (g : pa_V H t y) (hI : pa_WH H) (hp : pa_PI H.1 p) (ht : t + 1 ≤ 3000000) : pa_V H (t + 1) (pa_tk H p y) := pa_ticksI hI.1 hp 1 t y g ht
theorem pa_V.tks {H : pa_H} {p : pa_P} {t k : Nat} {y : pa_X} (g : pa_V H t y) (hI : pa_WH H) (hp : pa_PI H.1 p) (ht : t + k ≤ 3000000) : pa_V H (t + k) (pa_tks H p k y) := pa_ticksI hI.1 hp k t y g ht
section GO
variable {H : pa_H} {x : pa_X} {n : Nat} {P : Nat → pa_X} {im : pa_Im} {tr : pa_Tr} {tp : pa_Tp} {fl : Int32 × Int32} {σ0 σ τ : ps_S} {p : pa_P} {y : pa_X} {t : Nat}
def pc_Y (H : pa_H) (x : pa_X) (n : Nat) (P : Nat → pa_X) (im : pa_Im) (tr : pa_Tr) (tp : pa_Tp) (fl : Int32 × Int32) (σ0 : ps_S) (p : pa_P) (τ : ps_S) (y : pa_X) : Prop := pc_G H.1 H.2.1 H.2.2.1 H.2.2.2 44 p τ y ∧ pc_kp σ0 τ ∧ pc_W H x n P im tr tp fl τ
def pg_Y (H : pa_H) (x : pa_X) (n : Nat) (P : Nat → pa_X) (im : pa_Im) (tr : pa_Tr) (tp : pa_Tp) (fl : Int32 × Int32) (σ0 : ps_S) (p : pa_P) (τ : ps_S) (y : pa_X) : Prop := pg_T H.1 H.2.1 H.2.2.2 τ τ y.1 y.2 p ∧ pg_kp σ0 τ ∧ pg_W H x n P im tr tp fl τ
theorem pc_Y.K (g : pc_Y H x n P im tr tp fl σ0 p τ y) : pc_kp σ0 τ ∧ pc_O H.1 τ := ⟨g.2.1, g.2.2.1.2.2⟩
theorem pc_Y.T (g : pc_Y H x n P im tr tp fl σ0 p τ y) : pc_T H.2.1 H.2.2.2 44 τ τ y.1 y.2 (pa_all y.1) (fun d => pa_don H.1 y.1 (nI d) H.2.2.1) p := pc_T.of g.1.1.Q
theorem pc_Y.run {k : Nat} (g : pc_Y H x n P im tr tp fl σ0 p τ y) (hI : pa_WH H) (hp : pa_PI H.1 p) (iv : pa_V H t y) (ht : t + k ≤ 3000000) (hk : k ≤ 999) : ps_ok (qX0_run 44 (nI k) τ) (fun _ υ => pc_Y H x n P im tr tp fl σ0 p υ (pa_tks H p k y)) := by
  refine pz_im (pc_run (by decide) hI.1 hI.2 hp hk iv ht g.1) (fun _ υ hu => ?_)
  have k1 := hu.2.kp (Or.inl rfl)
  exact ⟨hu.1, g.2.1.tr k1, k1.1.W hu.1.2.2.2 g.2.2⟩
theorem pc_Y.run1 (g : pc_Y H x n P im tr tp fl σ0 p τ y) (hI : pa_WH H) (hp : pa_PI H.1 p) (iv : pa_V H t y) (ht : t + 1 ≤ 3000000) : ps_ok (qX0_run 44 1 τ) (fun _ υ => pc_Y H x n P im tr tp fl σ0 p υ (pa_tk H p y)) := g.run (k := 1) hI hp iv ht (by decide)
theorem pc_W.go (w : pc_W H x n P im tr tp fl σ) (hI : pa_WH H) : ps_ok (qX6_copyFrom 44 26 σ) (fun _ τ => pc_Y H x n P im tr tp fl σ (pa_p0 H.1) τ x) := by
  refine pz_im (pc_copy (by decide) hI.1.1.2 w.1.1 (Or.inl rfl)) (fun _ τ ht => ?_)
  have fr := ht.2.fr
  have k1 := fr.kp (Or.inl rfl)
  have hO : pc_O H.1 τ := ht.2.O (by decide) w.1.2.2
  exact ⟨⟨ht.1, fr.H (by decide) w.1.2.1.1, fr.L (by decide) w.1.2.1.2, hO⟩, k1, k1.1.W hO w⟩
theorem pg_Y.ticks {k : Nat} (g : pg_Y H x n P im tr tp fl σ0 p τ y) (hI : pa_WH H) (hp : pa_PI H.1 p) (iv : pa_V H t y) (ht : t + k ≤ 3000000) (hk : k ≤ 999) : ps_ok (qX9_ticksFor (nI k) τ) (fun _ υ => pg_Y H x n P im tr tp fl σ0 p υ (pa_tks H p k y)) := by
  refine pz_im (pg_ticks hI.1 hI.2 hp hk iv ht g.1) (fun _ υ hu => ?_)
  have k1 := hu.2.2.2.2.kp
  exact ⟨hu.re (pg_fr.rf _), g.2.1.tr k1, k1.W g.2.2⟩
theorem pg_Y.tick (g : pg_Y H x n P im tr tp fl σ0 p τ y) (hI : pa_WH H) (hp : pa_PI H.1 p) (iv : pa_V H t y) (ht : t + 1 ≤ 3000000) : ps_ok (qX9_ticksOnce τ) (fun _ υ => pg_Y H x n P im tr tp fl σ0 p υ (pa_tk H p y)) := by
  refine pz_im (pg_tick hI.1 hI.2 hp iv ht g.1) (fun _ υ hu => ?_)
  have k1 := hu.2.2.2.2.kp
  exact ⟨hu.re (pg_fr.rf _), g.2.1.tr k1, k1.W g.2.2⟩
theorem pg_W.go (w : pg_W H x n P im tr tp fl σ) (hI : pa_WH H) : ps_ok (qX9_begins σ) (fun _ τ => pg_Y H x n P im tr tp fl σ (pa_p0 H.1) τ x) := pg_bg hI w
/-- suppositions -/
theorem pc_S.set13 {h : pa_R} {D F W B : Nat} {r : pa_R} {e : pa_D} {v : Int32} (g : pc_S h D F W B σ r e p) : pc_S h D F W B (ps_rI σ B (upd (σ.1 B) 13 v)) r e (p.1, p.2.1, p.2.2.1, v) := by
  obtain ⟨g1, g2, g3, g4, g5, g6, g7, g8⟩ := g
  refine ⟨by rw [pc_up0 (by decide), g1], g2, by rw [ps_rI_at, upd_ne _ _ (by decide)]; exact g3, fun d hd => by rw [ps_rI_ne _ _ (by omega)]; exact g4 d hd, ?_, ?_, ?_, ?_⟩
  · rw [ps_rI_at, upd_ne _ _ (by decide)]; exact g5
  · rw [ps_rI_at, upd_ne _ _ (by decide)]; exact g6
  · rw [ps_rI_at, upd_ne _ _ (by decide)]; exact g7
  · rw [ps_rI_at, upd_self]
theorem pc_S.set12 {h : pa_R} {D F W B : Nat} {r : pa_R} {e : pa_D} {v : Int32} (g : pc_S h D F W B σ r e p) : pc_S h D F W B (ps_rI σ B (upd (σ.1 B) 12 v)) r e (p.1, p.2.1, v, p.2.2.2) := by
  obtain ⟨g1, g2, g3, g4, g5, g6, g7, g8⟩ := g
  refine ⟨by rw [pc_up0 (by decide), g1], g2, by rw [ps_rI_at, upd_ne _ _ (by decide)]; exact g3, fun d hd => by rw [ps_rI_ne _ _ (by omega)]; exact g4 d hd, ?_, ?_, ?_, ?_⟩
  · rw [ps_rI_at, upd_ne _ _ (by decide)]; exact g5
  · rw [ps_rI_at, upd_ne _ _ (by decide)]; exact g6
  · rw [ps_rI_at, upd_self]
  · rw [ps_rI_at, upd_ne _ _ (by decide)]; exact g8
theorem pc_S.set11 {h : pa_R} {D F W B : Nat} {r : pa_R} {e : pa_D} {v : Int32} (g : pc_S h D F W B σ r e p) : pc_S h D F W B (ps_rI σ B (upd (σ.1 B) 11 v)) r e (p.1, v, p.2.2.1, p.2.2.2) := by
  obtain ⟨g1, g2, g3, g4, g5, g6, g7, g8⟩ := g
  refine ⟨by rw [pc_up0 (by decide), g1], g2, by rw [ps_rI_at, upd_ne _ _ (by decide)]; exact g3, fun d hd => by rw [ps_rI_ne _ _ (by omega)]; exact g4 d hd, ?_, ?_, ?_, ?_⟩
  · rw [ps_rI_at, upd_ne _ _ (by decide)]; exact g5
  · rw [ps_rI_at, upd_self]
  · rw [ps_rI_at, upd_ne _ _ (by decide)]; exact g7
  · rw [ps_rI_at, upd_ne _ _ (by decide)]; exact g8
theorem pc_S.set10 {h : pa_R} {D F W B : Nat} {r : pa_R} {e : pa_D} {v : Int32} (g : pc_S h D F W B σ r e p) : pc_S h D F W B (ps_rI σ B (upd (σ.1 B) 10 v)) r e (v, p.2.1, p.2.2.1, p.2.2.2) := by
  obtain ⟨g1, g2, g3, g4, g5, g6, g7, g8⟩ := g
  refine ⟨by rw [pc_up0 (by decide), g1], g2, by rw [ps_rI_at, upd_ne _ _ (by decide)]; exact g3, fun d hd => by rw [ps_rI_ne _ _ (by omega)]; exact g4 d hd, ?_, ?_, ?_, ?_⟩
  · rw [ps_rI_at, upd_self]
  · rw [ps_rI_at, upd_ne _ _ (by decide)]; exact g6
  · rw [ps_rI_at, upd_ne _ _ (by decide)]; exact g7
  · rw [ps_rI_at, upd_ne _ _ (by decide)]; exact g8
theorem pc_Y.to {q : pa_P} {z : pa_X} {υ : ps_S} (g : pc_Y H x n P im tr tp fl σ0 p τ y) (hS : pc_S H.1 H.2.1 H.2.2.1 H.2.2.2 44 υ z.1 z.2 q) (fb : pc_fb 44 τ υ) : pc_Y H x n P im tr tp fl σ0 q υ z := by
  have fr := fb.fr
  have k1 := fr.kp (Or.inl rfl)
  have hO : pc_O H.1 υ := fb.O (by decide) g.1.2.2.2
  exact ⟨⟨hS, fr.H (by decide) g.1.2.1, fr.L (by decide) g.1.2.2.1, hO⟩, g.2.1.tr k1, k1.1.W hO g.2.2⟩
theorem pg_Y.to {q : pa_P} {z : pa_X} {υ : ps_S} (g : pg_Y H x n P im tr tp fl σ0 p τ y) (hr : pg_r H.2.1 H.2.2.2 υ = z.1) (he : pg_e H.2.1 υ = z.2) (hp : pg_p H.2.1 q υ) (k1 : pg_kp τ υ) : pg_Y H x n P im tr tp fl σ0 q υ z := by
  have w := k1.W g.2.2
  exact ⟨⟨hr, he, w.1.1, hp, pg_fr.rf _⟩, g.2.1.tr k1, w⟩
/-- the first time that something is so -/
def sp_f (H : pa_H) (p : pa_P) (c : pa_X → Bool) : Nat → Nat → pa_X → Int32
  | _, 0, _ => -1
  | i, m + 1, y => if c y = true then nI i else sp_f H p c (i + 1) m (pa_tk H p y)
def sp_g (H : pa_H) (p : pa_P) (c : pa_X → Bool) : Nat → Nat → pa_X → Int32
  | _, 0, _ => -1
  | i, m + 1, y => if c (pa_tk H p y) = true then nI i else sp_g H p c (i + 1) m (pa_tk H p y)
def sp_z (a : Int32) (z : Int32 ⊕ Int32) : Prop := z = .inl a ∨ ((∃ v, z = .inr v) ∧ a = -1)
theorem pz_res {a : Int32} {z : Int32 ⊕ Int32} {Q : ps_S → Prop} (hz : sp_z a z) (hq : Q σ) : ps_ok (match z with | .inl r => some (r, σ) | .inr _ => some (-1, σ)) (fun v τ => v = a ∧ Q τ) := by
  rcases hz with rfl | ⟨⟨v, rfl⟩, rfl⟩
  · exact pz_done ⟨rfl, hq⟩
  · exact pz_done ⟨rfl, hq⟩
theorem pc_passL {k : Int32} (hI : pa_WH H) (hp : pa_PI H.1 p) : ∀ (m i fuel t : Nat) (τ : ps_S) (y : pa_X), i + m = 1000 → m < fuel → pa_V H t y → t + m ≤ 3000000 → pc_Y H x n P im tr tp fl σ0 p τ y → ps_ok (qX8_passes_27 k fuel (nI i) τ) (fun z υ => sp_z (sp_f H p (fun y => !decide (pa_all y.1 ≤ k)) i m y) z ∧ pc_kp σ0 υ ∧ pc_O H.1 υ) := by
  intro m
  induction m with
  | zero =>
    intro i fuel t τ y h1 h2 iv ht g
    obtain ⟨f, rfl⟩ : ∃ f, fuel = f + 1 := ⟨fuel - 1, by omega⟩
    rw [qX8_passes_27]
    exact pz_t (nI_lt (a := 999) (by omega) (by omega)) (pz_done ⟨Or.inr ⟨⟨_, rfl⟩, rfl⟩, g.K⟩)
  | succ m ih =>
    intro i fuel t τ y h1 h2 iv ht g
    obtain ⟨f, rfl⟩ : ∃ f, fuel = f + 1 := ⟨fuel - 1, by omega⟩
    rw [qX8_passes_27, sp_f]
    refine pz_e (nI_nlt (a := 999) (by omega) (by omega)) ?_
    refine pc_la g.T ?_
    refine pz_if (fun c => ?_) (fun c => ?_)
    · rw [if_neg (by simp [c])]
      refine pz_bd (g.run1 hI hp iv (by omega)) (fun _ υ gu => ?_)
      rw [pz_lt, nI_1]
      exact ih (i + 1) f (t + 1) υ (pa_tk H p y) (by omega) (by omega) (iv.tk hI hp (by omega)) (by omega) gu
    · rw [if_pos (by simp [c])]
      exact pz_done ⟨Or.inl rfl, g.K⟩
theorem pg_passL {k : Int32} (hI : pa_WH H) (hp : pa_PI H.1 p) : ∀ (m i fuel t : Nat) (τ : ps_S) (y : pa_X), i + m = 1000 → m < fuel → pa_V H t y → t + m ≤ 3000000 → pg_Y H x n P im tr tp fl σ0 p τ y → ps_ok (qX9_passes_26 k fuel (nI i) τ) (fun z υ => sp_z (sp_f H p (fun y => !decide (pa_all y.1 ≤ k)) i m y) z ∧ pg_kp σ0 υ) := by
  intro m
  induction m with
  | zero =>
    intro i fuel t τ y h1 h2 iv ht g
    obtain ⟨f, rfl⟩ : ∃ f, fuel = f + 1 := ⟨fuel - 1, by omega⟩
    rw [qX9_passes_26]
    exact pz_t (nI_lt (a := 999) (by omega) (by omega)) (pz_done ⟨Or.inr ⟨⟨_, rfl⟩, rfl⟩, g.2.1⟩)
  | succ m ih =>
    intro i fuel t τ y h1 h2 iv ht g
    obtain ⟨f, rfl⟩ : ∃ f, fuel = f + 1 := ⟨fuel - 1, by omega⟩
    rw [qX9_passes_26, sp_f]
    refine pz_e (nI_nlt (a := 999) (by omega) (by omega)) ?_
    refine pz_bd' g.1.all ?_
    refine pz_if (fun c => ?_) (fun c => ?_)
    · rw [if_neg (by simp [c])]
      refine pz_bd (g.tick hI hp iv (by omega)) (fun _ υ gu => ?_)
      rw [pz_lt, nI_1]
      exact ih (i + 1) f (t + 1) υ (pa_tk H p y) (by omega) (by omega) (iv.tk hI hp (by omega)) (by omega) gu
    · rw [if_pos (by simp [c])]
      exact pz_done ⟨Or.inl rfl, g.2.1⟩
theorem pc_drainL (hI : pa_WH H) (hp : pa_PI H.1 p) : ∀ (m i fuel t : Nat) (τ : ps_S) (y : pa_X), i + m = 1000 → m < fuel → pa_V H t y → t + m ≤ 3000000 → pc_Y H x n P im tr tp fl σ0 p τ y → ps_ok (qX8_drains_21 fuel (nI i) τ) (fun z υ => sp_z (sp_f H p (fun y => decide (pa_all y.1 = 0)) i m y) z ∧ pc_kp σ0 υ ∧ pc_O H.1 υ) := by
  intro m
  induction m with
  | zero =>
    intro i fuel t τ y h1 h2 iv ht g
    obtain ⟨f, rfl⟩ : ∃ f, fuel = f + 1 := ⟨fuel - 1, by omega⟩
    rw [qX8_drains_21]
    exact pz_t (nI_lt (a := 999) (by omega) (by omega)) (pz_done ⟨Or.inr ⟨⟨_, rfl⟩, rfl⟩, g.K⟩)
  | succ m ih =>
    intro i fuel t τ y h1 h2 iv ht g
    obtain ⟨f, rfl⟩ : ∃ f, fuel = f + 1 := ⟨fuel - 1, by omega⟩
    rw [qX8_drains_21, sp_f]
    refine pz_e (nI_nlt (a := 999) (by omega) (by omega)) ?_
    refine pc_la g.T ?_
    refine pz_if (fun c => ?_) (fun c => ?_)
    · rw [if_pos (by simp [c])]
      exact pz_done ⟨Or.inl rfl, g.K⟩
    · rw [if_neg (by simp [c])]
      refine pz_bd (g.run1 hI hp iv (by omega)) (fun _ υ gu => ?_)
      rw [pz_lt, nI_1]
      exact ih (i + 1) f (t + 1) υ (pa_tk H p y) (by omega) (by omega) (iv.tk hI hp (by omega)) (by omega) gu
theorem pg_drainL (hI : pa_WH H) (hp : pa_PI H.1 p) : ∀ (m i fuel t : Nat) (τ : ps_S) (y : pa_X), i + m = 1000 → m < fuel → pa_V H t y → t + m ≤ 3000000 → pg_Y H x n P im tr tp fl σ0 p τ y → ps_ok (qX9_drains_16 fuel (nI i) τ) (fun z υ => sp_z (sp_f H p (fun y => decide (pa_all y.1 = 0)) i m y) z ∧ pg_kp σ0 υ) := by
  intro m
  induction m with
  | zero =>
    intro i fuel t τ y h1 h2 iv ht g
    obtain ⟨f, rfl⟩ : ∃ f, fuel = f + 1 := ⟨fuel - 1, by omega⟩
    rw [qX9_drains_16]
    exact pz_t (nI_lt (a := 999) (by omega) (by omega)) (pz_done ⟨Or.inr ⟨⟨_, rfl⟩, rfl⟩, g.2.1⟩)
  | succ m ih =>
    intro i fuel t τ y h1 h2 iv ht g
    obtain ⟨f, rfl⟩ : ∃ f, fuel = f + 1 := ⟨fuel - 1, by omega⟩
    rw [qX9_drains_16, sp_f]
    refine pz_e (nI_nlt (a := 999) (by omega) (by omega)) ?_
    refine pz_bd' g.1.all ?_
    refine pz_if (fun c => ?_) (fun c => ?_)
    · rw [if_pos (by simp [c])]
      exact pz_done ⟨Or.inl rfl, g.2.1⟩
    · rw [if_neg (by simp [c])]
      refine pz_bd (g.tick hI hp iv (by omega)) (fun _ υ gu => ?_)
      rw [pz_lt, nI_1]
      exact ih (i + 1) f (t + 1) υ (pa_tk H p y) (by omega) (by omega) (iv.tk hI hp (by omega)) (by omega) gu
theorem nI_due {a b k : Nat} (ha : a < 2 ^ 30) (hb : b < 2 ^ 30) (hk : k < 2 ^ 30) : nI b < nI (a + k) ↔ nI b - nI a < nI k := by
  rw [Int32.lt_iff_toInt_lt, Int32.lt_iff_toInt_lt, Int32.toInt_sub, nI_toInt (by omega), nI_toInt (by omega), nI_toInt (by omega), nI_toInt (by omega), Int.bmod_eq_of_le (by omega) (by omega)]
  omega
theorem pc_wroteL {d a k : Nat} (hI : pa_WH H) (hp : pa_PI H.1 p) (hd : d < 4) {y2 : Int32} : ∀ (m i fuel t : Nat) (τ : ps_S) (y : pa_X), i + m = 1000 → m < fuel → pa_V H t y → t + m ≤ 3000000 → pc_Y H x n P im tr tp fl σ0 p τ y → ps_ok (qX8_written_54 (nI d) y2 (nI (a + k)) fuel (nI i) τ) (fun z υ => sp_z (sp_g H p (fun y => !decide (y.1 (45 + d) < nI (a + k))) i m y) z ∧ pc_kp σ0 υ ∧ pc_O H.1 υ) := by
  intro m
  induction m with
  | zero =>
    intro i fuel t τ y h1 h2 iv ht g
    obtain ⟨f, rfl⟩ : ∃ f, fuel = f + 1 := ⟨fuel - 1, by omega⟩
    rw [qX8_written_54]
    exact pz_t (nI_lt (a := 999) (by omega) (by omega)) (pz_done ⟨Or.inr ⟨⟨_, rfl⟩, rfl⟩, g.K⟩)
  | succ m ih =>
    intro i fuel t τ y h1 h2 iv ht g
    obtain ⟨f, rfl⟩ : ∃ f, fuel = f + 1 := ⟨fuel - 1, by omega⟩
    rw [qX8_written_54, sp_g]
    refine pz_e (nI_nlt (a := 999) (by omega) (by omega)) ?_
    refine pz_bd (g.run1 hI hp iv (by omega)) (fun _ υ gu => ?_)
    refine pc_l8 gu.T hd rfl ?_
    refine pz_if (fun c => ?_) (fun c => ?_)
    · rw [if_neg (by simp [c]), pz_lt, nI_1]
      exact ih (i + 1) f (t + 1) υ (pa_tk H p y) (by omega) (by omega) (iv.tk hI hp (by omega)) (by omega) gu
    · rw [if_pos (by simp [c])]
      exact pz_done ⟨Or.inl rfl, gu.K⟩
theorem pg_wroteL {d a k : Nat} (hI : pa_WH H) (hp : pa_PI H.1 p) (hd : d < 4) (ha : a < 2 ^ 30) (hk : k < 2 ^ 30) : ∀ (m i fuel t : Nat) (τ : ps_S) (y : pa_X), i + m = 1000 → m < fuel → pa_V H t y → t + m ≤ 3000000 → pg_Y H x n P im tr tp fl σ0 p τ y → ps_ok (qX9_written_49 (nI d) (nI k) (nI a) fuel (nI i) τ) (fun z υ => sp_z (sp_g H p (fun y => !decide (y.1 (45 + d) < nI (a + k))) i m y) z ∧ pg_kp σ0 υ) := by
  intro m
  induction m with
  | zero =>
    intro i fuel t τ y h1 h2 iv ht g
    obtain ⟨f, rfl⟩ : ∃ f, fuel = f + 1 := ⟨fuel - 1, by omega⟩
    rw [qX9_written_49]
    exact pz_t (nI_lt (a := 999) (by omega) (by omega)) (pz_done ⟨Or.inr ⟨⟨_, rfl⟩, rfl⟩, g.2.1⟩)
  | succ m ih =>
    intro i fuel t τ y h1 h2 iv ht g
    obtain ⟨f, rfl⟩ : ∃ f, fuel = f + 1 := ⟨fuel - 1, by omega⟩
    rw [qX9_written_49, sp_g]
    refine pz_e (nI_nlt (a := 999) (by omega) (by omega)) ?_
    refine pz_bd (g.tick hI hp iv (by omega)) (fun _ υ gu => ?_)
    have iv' := iv.tk hI hp (p := p) (by omega)
    obtain ⟨b, b1, b2, b3⟩ := pa_IB.at iv'.2.2.2.2.1 hd
    refine pg_l gu.1 (k := 45 + d) (by omega) (by omega) (by omega) (pz_a45 d) ?_
    rw [b1]
    refine pz_if (fun c => ?_) (fun c => ?_)
    · rw [if_neg (by have := (nI_due ha (show b < 2 ^ 30 by omega) hk).mpr c; simp [this]), pz_lt, nI_1]
      exact ih (i + 1) f (t + 1) υ (pa_tk H p y) (by omega) (by omega) iv' (by omega) gu
    · rw [if_pos (by have := Int32.not_lt.mp (fun hh => c ((nI_due ha (show b < 2 ^ 30 by omega) hk).mp hh)); simp [this])]
      exact pz_done ⟨Or.inl rfl, gu.2.1⟩
/-- the oldest -/
def sp_of (r : pa_R) : Nat → Int32 → Int32
  | 0, a => a
  | n + 1, a => (if r (1 + n) ≤ 0 then sp_of r n a else if r 0 - r (13 + n) ≤ sp_of r n a then sp_of r n a else r 0 - r (13 + n))
theorem sp_of_ge {r : pa_R} {a : Int32} (ha : -1 ≤ a) : ∀ n, -1 ≤ sp_of r n a
  | 0 => ha
  | n + 1 => by
    rw [sp_of]
    by_cases c : r (1 + n) ≤ 0
    · rw [if_pos c]; exact sp_of_ge ha n
    · rw [if_neg c]
      by_cases c2 : r 0 - r (13 + n) ≤ sp_of r n a
      · rw [if_pos c2]; exact sp_of_ge ha n
      · rw [if_neg c2]; exact Int32.le_trans (sp_of_ge ha n) (Int32.le_of_lt (Int32.not_le.mp c2))
def sp_ol (H : pa_H) (p : pa_P) : Nat → Int32 → pa_X → Int32
  | 0, a, _ => a
  | m + 1, a, y => sp_ol H p m (sp_of (pa_tk H p y).1 H.2.2.1 a) (pa_tk H p y)
theorem pc_oldF {y1 y3 a : Int32} (hI : pa_WH H) (g : pc_Y H x n P im tr tp fl σ0 p τ y) (ha : -1 ≤ a) : ∀ (m i fuel : Nat), i + m = H.2.2.1 → m < fuel → ps_ok (qX8_oldest_49 y1 y3 fuel (sp_of y.1 i a) (nI i) τ) (fun z υ => z = (sp_of y.1 H.2.2.1 a, nI H.2.2.1) ∧ υ = τ) := by
  intro m
  have hF := hI.1.2.1.2
  have hFe := hI.1.2.1.1
  induction m with
  | zero =>
    intro i fuel h1 h2
    obtain ⟨f, rfl⟩ : ∃ f, fuel = f + 1 := ⟨fuel - 1, by omega⟩
    have : i = H.2.2.1 := by omega
    rw [qX8_oldest_49]
    refine pz_l (g.1.2.1.1.2.2.2.2.2.2.2.2.1.trans hFe) ?_
    rw [this]
    exact pz_t (nI_le (by omega) (by omega)) (pz_done ⟨rfl, rfl⟩)
  | succ m ih =>
    intro i fuel h1 h2
    obtain ⟨f, rfl⟩ : ∃ f, fuel = f + 1 := ⟨fuel - 1, by omega⟩
    have hi : i < 12 := by omega
    rw [qX8_oldest_49]
    refine pz_l (g.1.2.1.1.2.2.2.2.2.2.2.2.1.trans hFe) ?_
    refine pz_e (nI_ge (by omega) (by omega)) ?_
    have ea : ps_ok (qX6_ageOf 44 (nI i) τ) (fun v υ => v = (if y.1 (1 + i) ≤ 0 then -1 else y.1 0 - y.1 (13 + i)) ∧ υ = τ) := by
      unfold qX6_ageOf
      refine pc_l11 g.T hi rfl ?_
      refine pz_sw (fun _ => pz_done ⟨rfl, rfl⟩) (fun _ => ?_)
      refine pc_lt g.T ?_
      exact pc_l12 g.T hi rfl (pz_done ⟨rfl, rfl⟩)
    refine pz_bd ea (fun v υ ev => ?_)
    obtain ⟨rfl, rfl⟩ := ev
    have ih' := ih (i + 1) f (by omega) (by omega)
    have em : (if sp_of y.1 i a < (if y.1 (1 + i) ≤ 0 then -1 else y.1 0 - y.1 (13 + i)) then (if y.1 (1 + i) ≤ 0 then -1 else y.1 0 - y.1 (13 + i)) else sp_of y.1 i a) = sp_of y.1 (i + 1) a := by
      rw [sp_of]
      by_cases c : y.1 (1 + i) ≤ 0
      · rw [if_pos c, if_pos c, if_neg (Int32.not_lt.mpr (sp_of_ge ha i))]
      · rw [if_neg c, if_neg c]
        by_cases c2 : y.1 0 - y.1 (13 + i) ≤ sp_of y.1 i a
        · rw [if_pos c2, if_neg (Int32.not_lt.mpr c2)]
        · rw [if_neg c2, if_pos (Int32.not_le.mp c2)]
    rw [pz_lt, em, pz_lt, nI_1]
    exact ih'
theorem pg_oldF {y1 y3 a : Int32} (hI : pa_WH H) (g : pg_Y H x n P im tr tp fl σ0 p τ y) : ∀ (m i fuel : Nat), i + m = H.2.2.1 → m < fuel → ps_ok (qX9_oldest_40 y1 y3 fuel (sp_of y.1 i a) (nI i) τ) (fun z υ => z = (sp_of y.1 H.2.2.1 a, nI H.2.2.1) ∧ υ = τ) := by
  intro m
  have hF := hI.1.2.1.2
  have hFe := hI.1.2.1.1
  induction m with
  | zero =>
    intro i fuel h1 h2
    obtain ⟨f, rfl⟩ : ∃ f, fuel = f + 1 := ⟨fuel - 1, by omega⟩
    have : i = H.2.2.1 := by omega
    rw [qX9_oldest_40]
    refine pg_hl g.1 2 (by omega) ?_
    rw [hFe, this]
    exact pz_t (nI_le (by omega) (by omega)) (pz_done ⟨rfl, rfl⟩)
  | succ m ih =>
    intro i fuel h1 h2
    obtain ⟨f, rfl⟩ : ∃ f, fuel = f + 1 := ⟨fuel - 1, by omega⟩
    have ih' := ih (i + 1) f (by omega) (by omega)
    rw [sp_of] at ih'
    rw [qX9_oldest_40]
    refine pg_hl g.1 2 (by omega) ?_
    rw [hFe]
    refine pz_e (nI_ge (by omega) (by omega)) ?_
    refine pg_lt g.1 ?_
    refine pg_l g.1 (k := 13 + i) (by omega) (by omega) (by omega) (pz_a13 i) ?_
    rw [pz_lt]
    refine pg_l g.1 (k := 1 + i) (by omega) (by omega) (by omega) (pz_a1 i) ?_
    refine pz_if (fun c => ?_) (fun c => ?_)
    · rw [if_pos c] at ih'
      rw [pz_lt, nI_1]
      exact ih'
    · rw [if_neg c] at ih'
      refine pz_if (fun c2 => ?_) (fun c2 => ?_)
      · rw [if_pos c2] at ih'
        rw [pz_lt, nI_1]
        exact ih'
      · rw [if_neg c2] at ih'
        rw [pz_lt, nI_1]
        exact ih'
theorem pc_oldT {k : Nat} (hI : pa_WH H) (hp : pa_PI H.1 p) (hk : k ≤ 999) : ∀ (m i fuel t : Nat) (a : Int32) (τ : ps_S) (y : pa_X), i + m = k → m < fuel → -1 ≤ a → pa_V H t y → t + m ≤ 3000000 → pc_Y H x n P im tr tp fl σ0 p τ y → ps_ok (qX8_oldest_29 (nI k) fuel a (nI i) τ) (fun z υ => z = (sp_ol H p m a y, nI k) ∧ pc_kp σ0 υ ∧ pc_O H.1 υ) := by
  intro m
  have hF := hI.1.2.1.2
  induction m with
  | zero =>
    intro i fuel t a τ y h1 h2 ha iv ht g
    obtain ⟨f, rfl⟩ : ∃ f, fuel = f + 1 := ⟨fuel - 1, by omega⟩
    have : i = k := by omega
    rw [qX8_oldest_29, this]
    exact pz_t (nI_le (by omega) (by omega)) (pz_done ⟨rfl, g.K⟩)
  | succ m ih =>
    intro i fuel t a τ y h1 h2 ha iv ht g
    obtain ⟨f, rfl⟩ : ∃ f, fuel = f + 1 := ⟨fuel - 1, by omega⟩
    rw [qX8_oldest_29]
    refine pz_e (nI_ge (by omega) (by omega)) ?_
    refine pz_bd (g.run1 hI hp iv (by omega)) (fun _ υ gu => ?_)
    refine pz_bd (pc_oldF (a := a) hI gu ha H.2.2.1 0 ps_N (by omega) (by unfold ps_N; omega)) (fun z υ' ez => ?_)
    obtain ⟨rfl, rfl⟩ := ez
    show ps_ok (ps_let (nI i + 1) fun v18 => qX8_oldest_29 (nI k) f (sp_of (pa_tk H p y).1 H.2.2.1 a) v18 υ') _
    rw [pz_lt, nI_1]
    exact ih (i + 1) f (t + 1) (sp_of (pa_tk H p y).1 H.2.2.1 a) υ' (pa_tk H p y) (by omega) (by omega) (sp_of_ge ha _) (iv.tk hI hp (by omega)) (by omega) gu
theorem pg_oldT {k : Nat} (hI : pa_WH H) (hp : pa_PI H.1 p) (hk : k ≤ 999) : ∀ (m i fuel t : Nat) (a : Int32) (τ : ps_S) (y : pa_X), i + m = k → m < fuel → pa_V H t y → t + m ≤ 3000000 → pg_Y H x n P im tr tp fl σ0 p τ y → ps_ok (qX9_oldest_28 (nI k) fuel a (nI i) τ) (fun z υ => z = (sp_ol H p m a y, nI k) ∧ pg_kp σ0 υ) := by
  intro m
  have hF := hI.1.2.1.2
  induction m with
  | zero =>
    intro i fuel t a τ y h1 h2 iv ht g
    obtain ⟨f, rfl⟩ : ∃ f, fuel = f + 1 := ⟨fuel - 1, by omega⟩
    have : i = k := by omega
    rw [qX9_oldest_28, this]
    exact pz_t (nI_le (by omega) (by omega)) (pz_done ⟨rfl, g.2.1⟩)
  | succ m ih =>
    intro i fuel t a τ y h1 h2 iv ht g
    obtain ⟨f, rfl⟩ : ∃ f, fuel = f + 1 := ⟨fuel - 1, by omega⟩
    rw [qX9_oldest_28]
    refine pz_e (nI_ge (by omega) (by omega)) ?_
    refine pz_bd (g.tick hI hp iv (by omega)) (fun _ υ gu => ?_)
    refine pz_bd (pg_oldF (a := a) hI gu H.2.2.1 0 ps_N (by omega) (by unfold ps_N; omega)) (fun z υ' ez => ?_)
    obtain ⟨rfl, rfl⟩ := ez
    show ps_ok (ps_let (nI i + 1) fun v18 => qX9_oldest_28 (nI k) f (sp_of (pa_tk H p y).1 H.2.2.1 a) v18 υ') _
    rw [pz_lt, nI_1]
    exact ih (i + 1) f (t + 1) (sp_of (pa_tk H p y).1 H.2.2.1 a) υ' (pa_tk H p y) (by omega) (by omega) (iv.tk hI hp (by omega)) (by omega) gu
/-- starved -/
def sp_s1 (H : pa_H) (d : Nat) (y : pa_X) (a : Int32) : Int32 := if y.1 (29 + d) = 0 then (if pa_don H.1 y.1 (nI d) H.2.2.1 ≤ 0 then a else a + 1) else a
def sp_sv (H : pa_H) (p : pa_P) (d : Nat) : Nat → Int32 → pa_X → Int32
  | 0, a, _ => a
  | m + 1, a, y => sp_sv H p d m (sp_s1 H d (pa_tk H p y) a) (pa_tk H p y)
theorem pc_stL {k d : Nat} (hI : pa_WH H) (hp : pa_PI H.1 p) (hk : k ≤ 999) (hd : d < 4) : ∀ (m i fuel t : Nat) (a : Int32) (τ : ps_S) (y : pa_X), i + m = k → m < fuel → pa_V H t y → t + m ≤ 3000000 → pc_Y H x n P im tr tp fl σ0 p τ y → ps_ok (qX8_starved_41 (nI d) (nI k) fuel a (nI i) τ) (fun z υ => z = (sp_sv H p d m a y, nI k) ∧ pc_kp σ0 υ ∧ pc_O H.1 υ) := by
  intro m
  induction m with
  | zero =>
    intro i fuel t a τ y h1 h2 iv ht g
    obtain ⟨f, rfl⟩ : ∃ f, fuel = f + 1 := ⟨fuel - 1, by omega⟩
    have : i = k := by omega
    rw [qX8_starved_41, this]
    exact pz_t (nI_le (by omega) (by omega)) (pz_done ⟨rfl, g.K⟩)
  | succ m ih =>
    intro i fuel t a τ y h1 h2 iv ht g
    obtain ⟨f, rfl⟩ : ∃ f, fuel = f + 1 := ⟨fuel - 1, by omega⟩
    rw [qX8_starved_41, sp_sv]
    refine pz_e (nI_ge (by omega) (by omega)) ?_
    refine pz_bd (g.run1 hI hp iv (by omega)) (fun _ υ gu => ?_)
    have ih' := fun a => ih (i + 1) f (t + 1) a υ (pa_tk H p y) (by omega) (by omega) (iv.tk hI hp (by omega)) (by omega) gu
    refine pc_l3 gu.T hd rfl ?_
    unfold sp_s1
    refine pz_if (fun c => ?_) (fun c => ?_)
    · rw [if_pos c]
      refine pc_l4 gu.T hd rfl ?_
      refine pz_if (fun c2 => ?_) (fun c2 => ?_)
      · rw [if_pos c2, pz_lt, nI_1]; exact ih' _
      · rw [if_neg c2, pz_lt, pz_lt, nI_1]; exact ih' _
    · rw [if_neg c, pz_lt, nI_1]; exact ih' _
theorem pg_stL {k d : Nat} (hI : pa_WH H) (hp : pa_PI H.1 p) (hk : k ≤ 999) (hd : d < 4) : ∀ (m i fuel t : Nat) (a : Int32) (τ : ps_S) (y : pa_X), i + m = k → m < fuel → pa_V H t y → t + m ≤ 3000000 → pg_Y H x n P im tr tp fl σ0 p τ y → ps_ok (qX9_starved_41 (nI d) (nI k) fuel a (nI i) τ) (fun z υ => z = (sp_sv H p d m a y, nI k) ∧ pg_kp σ0 υ) := by
  intro m
  induction m with
  | zero =>
    intro i fuel t a τ y h1 h2 iv ht g
    obtain ⟨f, rfl⟩ : ∃ f, fuel = f + 1 := ⟨fuel - 1, by omega⟩
    have : i = k := by omega
    rw [qX9_starved_41, this]
    exact pz_t (nI_le (by omega) (by omega)) (pz_done ⟨rfl, g.2.1⟩)
  | succ m ih =>
    intro i fuel t a τ y h1 h2 iv ht g
    obtain ⟨f, rfl⟩ : ∃ f, fuel = f + 1 := ⟨fuel - 1, by omega⟩
    rw [qX9_starved_41, sp_sv]
    refine pz_e (nI_ge (by omega) (by omega)) ?_
    refine pz_bd (g.tick hI hp iv (by omega)) (fun _ υ gu => ?_)
    have ih' := fun a => ih (i + 1) f (t + 1) a υ (pa_tk H p y) (by omega) (by omega) (iv.tk hI hp (by omega)) (by omega) gu
    refine pg_l gu.1 (k := 29 + d) (by omega) (by omega) (by omega) (pz_a29 d) ?_
    unfold sp_s1
    refine pz_if (fun c => ?_) (fun c => ?_)
    · rw [if_pos c]
      refine pz_bd (pg_don hI.1 gu.1 (nI d)) (fun v υ' ev => ?_)
      obtain ⟨rfl, rfl⟩ := ev
      refine pz_if (fun c2 => ?_) (fun c2 => ?_)
      · rw [if_pos c2, pz_lt, pz_lt, nI_1, Int32.add_zero]; exact ih' _
      · rw [if_neg c2, pz_lt, pz_lt, nI_1]; exact ih' _
    · rw [if_neg c, pz_lt, pz_lt, nI_1, Int32.add_zero]; exact ih' _
end GO
