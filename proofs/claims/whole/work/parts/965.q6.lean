/-! judge, perform, load -/
section Q6
variable {H : pa_H} {x : pa_X} {n : Nat} {P : Nat → pa_X} {im : pa_Im} {tr : pa_Tr} {tp : pa_Tp} {fl : Int32 × Int32} {σ0 σ τ : ps_S} {y : pa_X} {t T : Nat}
theorem pc_doAll {B i : Nat} {z : Int32 × Nat × (Nat → Int64)} (hB : B = 26 ∨ B = 44) (hI : pa_WH H) (hi : i < 4) (hm : z.2.1 ≤ 40) (h3 : σ.1 (265 + 2 * i) 3 = nI z.2.1) (h4 : ∀ j, j < z.2.1 → σ.2.1 (266 + 2 * i) j = z.2.2 j) (iv : pa_V H t x) (ht : t + 4000 ≤ 3000000) (g : pc_G H.1 H.2.1 H.2.2.1 H.2.2.2 B (pa_p0 H.1) σ x) : ps_ok (qX8_doAll B (265 + 2 * i) σ) (fun v υ => v = nI (sp_do H z.2.2 0 z.2.1 x).1 ∧ pc_G H.1 H.2.1 H.2.2.1 H.2.2.2 B (pa_p0 H.1) υ (sp_do H z.2.2 0 z.2.1 x).2.2 ∧ pc_fr B σ υ) := by
  unfold qX8_doAll
  refine pz_bd (pc_doL hB hI hi hm h3 h4 z.2.1 0 ps_N t σ x (by omega) (by unfold ps_N; omega) iv (by omega) (pc_fr.rf _ _) g) (fun r υ hr => ?_)
  obtain ⟨hr, gu, fr⟩ := hr
  rcases hr with ⟨rfl, e⟩ | ⟨⟨v, rfl⟩, e⟩
  · exact pz_done ⟨rfl, gu, fr⟩
  · refine pz_l ((congrFun (fr.1 _ (by omega) (by omega)) 3).trans h3) ?_
    refine pz_done ⟨?_, gu, fr⟩
    obtain ⟨a1, -⟩ := sp_doI (tv := z.2.2) hI z.2.1 0 t x iv (by omega)
    rcases a1 with ⟨b1, b2⟩ | ⟨b1, b2⟩
    · rw [b2, Nat.zero_add]
    · rw [b1] at e; exact absurd e (by decide)
theorem pg_tells {i : Nat} {z : Int32 × Nat × (Nat → Int64)} (hi : i < 4) (hz : tr i = some z) (hm : z.2.1 ≤ 40) (hW : pa_W T H x n P im tr tp) (iv : pa_V H t x) (ht : t + 99 * z.2.1 ≤ T) (hT : T ≤ 3000000) (w : pg_W H x n P im tr tp fl σ) : ps_ok (qX9_tells (nI i) σ) (fun v υ => v = nI (sp_do H z.2.2 0 z.2.1 x).1 ∧ υ.1 327 28 = (if (sp_do H z.2.2 0 z.2.1 x).2.1 = true then 0 else 1) ∧ pg_W H (sp_do H z.2.2 0 z.2.1 x).2.2 n P im tr tp fl υ ∧ pw_c σ υ ∧ υ.1 337 = σ.1 337 ∧ υ.2.2 338 = σ.2.2 338) := by
  unfold qX9_tells
  rw [pz_lt]
  have kp := pg_kp.F σ (j := 28) 0 (by decide)
  have w2 := kp.W w
  have x28 : (ps_rI σ 327 (upd (σ.1 327) 28 0)).1 327 28 = 0 := by rw [ps_rI_at, upd_self]
  have x337 : (ps_rI σ 327 (upd (σ.1 327) 28 0)).1 337 = σ.1 337 := ps_rI_ne _ _ (by decide)
  have x338 : (ps_rI σ 327 (upd (σ.1 327) 28 0)).2.2 338 = σ.2.2 338 := rfl
  generalize ps_rI σ 327 (upd (σ.1 327) 28 0) = σ2 at kp w2 x28 x337 x338 ⊢
  refine pz_bd (pg_tellsL hi hz hm z.2.1 0 ps_N t σ2 x (by omega) (by unfold ps_N; omega) hW iv ht hT x28 w2) (fun r υ hr => ?_)
  obtain ⟨hr, o2, o3, o4, o5⟩ := hr
  have K := pw_c.tr kp.1 o3
  rcases hr with ⟨rfl, e, e28⟩ | ⟨⟨v, rfl⟩, e, e28⟩
  · exact pz_done ⟨rfl, by rw [e]; exact e28, o2, K, by rw [o4, x337], by rw [o5, x338]⟩
  · refine pz_rd (k := i) rfl hi (by decide) ((o2.2.2.2.1 i hi).2 z hz).2.1 ?_
    refine pz_done ⟨?_, by rw [e]; exact e28, o2, K, by rw [o4, x337], by rw [o5, x338]⟩
    obtain ⟨a1, -⟩ := sp_doI (tv := z.2.2) hW.1 z.2.1 0 t x iv (by omega)
    rcases a1 with ⟨b1, b2⟩ | ⟨b1, b2⟩
    · rw [b2, Nat.zero_add]
    · rw [b1] at e; exact absurd e (by decide)
/-- draws -/
def pa_ns (s : Int32) : Int32 := 1103515245 * s + 12345
def pa_dv (s : Int32) : Int32 := (((pa_ns s).toUInt32 >>> ((16).toUInt32 &&& Int32.toUInt32 31)).toInt32)
def pa_md (a b : Int32) : Int32 := a - a / b * b
def pa_ddv (s : Int32) : Int32 := if 2 ≤ pa_md (pa_dv s) 4 then (if pa_md (pa_dv s) 4 = 2 then 10000 + 1000 * pa_md (pa_dv (pa_ns s)) 4 + pa_md (pa_dv (pa_ns (pa_ns s))) 1000 else 20000 + 100 * pa_md (pa_dv (pa_ns s)) 6 + pa_md (pa_dv (pa_ns (pa_ns s))) 20) else 1 + pa_md (pa_dv (pa_ns s)) 9
def pa_dds (s : Int32) : Int32 := if 2 ≤ pa_md (pa_dv s) 4 then pa_ns (pa_ns (pa_ns s)) else pa_ns (pa_ns s)
def pc_sd (σ : ps_S) (s : Int32) : ps_S := ps_rI σ 0 (upd (σ.1 0) 16 s)
def pg_sd (σ : ps_S) (s : Int32) : ps_S := ps_rI σ 327 (upd (σ.1 327) 29 s)
theorem pc_sd2 (σ : ps_S) (s u : Int32) : pc_sd (pc_sd σ s) u = pc_sd σ u := by
  unfold pc_sd
  rw [ps_rI_2', ps_rI_at, upd_upd]
theorem pg_sd2 (σ : ps_S) (s u : Int32) : pg_sd (pg_sd σ s) u = pg_sd σ u := by
  unfold pg_sd
  rw [ps_rI_2', ps_rI_at, upd_upd]
theorem pc_sd_id {s : Int32} (h : σ.1 0 16 = s) : pc_sd σ s = σ := by
  unfold pc_sd
  refine ps_rI_id σ 0 ?_
  rw [← h]
  exact upd_id _ _
theorem pg_sd_id {s : Int32} (h : σ.1 327 29 = s) : pg_sd σ s = σ := by
  unfold pg_sd
  refine ps_rI_id σ 327 ?_
  rw [← h]
  exact upd_id _ _
theorem pc_sd_at (σ : ps_S) (s : Int32) : (pc_sd σ s).1 0 16 = s := by unfold pc_sd; rw [ps_rI_at, upd_self]
theorem pg_sd_at (σ : ps_S) (s : Int32) : (pg_sd σ s).1 327 29 = s := by unfold pg_sd; rw [ps_rI_at, upd_self]
theorem pc_draw (σ : ps_S) (s : Int32) : qX8_draw (pc_sd σ s) = some (pa_dv s, pc_sd σ (pa_ns s)) := by
  unfold qX8_draw
  rw [pz_lt, pc_sd_at, pz_lt]
  have e : ps_rI (pc_sd σ s) 0 (upd ((pc_sd σ s).1 0) 16 (1103515245 * s + 12345)) = pc_sd σ (pa_ns s) := pc_sd2 σ s (pa_ns s)
  rw [e, pz_lt, pc_sd_at]
  rfl
theorem pg_draw {σ : ps_S} {s b : Int32} (hb : ¬ b = 0) : qX9_draw b (pg_sd σ s) = some (pa_md (pa_dv s) b, pg_sd σ (pa_ns s)) := by
  unfold qX9_draw
  rw [pz_lt, pg_sd_at, pz_lt]
  have e : ps_rI (pg_sd σ s) 327 (upd ((pg_sd σ s).1 327) 29 (1103515245 * s + 12345)) = pg_sd σ (pa_ns s) := pg_sd2 σ s (pa_ns s)
  rw [e, pz_lt, pg_sd_at, if_neg hb]
  rfl
theorem pc_drawDeed (σ : ps_S) (s : Int32) : ps_ok (qX8_drawDeed (pc_sd σ s)) (fun v τ => v = pa_ddv s ∧ τ = pc_sd σ (pa_dds s)) := by
  unfold qX8_drawDeed pa_ddv pa_dds
  refine pz_bd' (pc_draw σ s) ?_
  rw [pz_lt]
  show ps_ok (if 2 ≤ pa_md (pa_dv s) 4 then _ else _) _
  by_cases c : 2 ≤ pa_md (pa_dv s) 4
  · refine pz_t c ?_
    by_cases c2 : pa_md (pa_dv s) 4 = 2
    · refine pz_t c2 ?_
      refine pz_bd' (pc_draw σ (pa_ns s)) ?_
      rw [pz_lt]
      refine pz_bd' (pc_draw σ (pa_ns (pa_ns s))) ?_
      exact pz_done ⟨by rw [if_pos c, if_pos c2]; rfl, by rw [if_pos c]⟩
    · refine pz_e c2 ?_
      refine pz_bd' (pc_draw σ (pa_ns s)) ?_
      rw [pz_lt]
      refine pz_bd' (pc_draw σ (pa_ns (pa_ns s))) ?_
      exact pz_done ⟨by rw [if_pos c, if_neg c2]; rfl, by rw [if_pos c]⟩
  · refine pz_e c ?_
    refine pz_bd' (pc_draw σ (pa_ns s)) ?_
    exact pz_done ⟨by rw [if_neg c]; rfl, by rw [if_neg c]⟩
theorem pg_drawDeed (σ : ps_S) (s : Int32) : ps_ok (qX9_drawn (pg_sd σ s)) (fun v τ => v = pa_ddv s ∧ τ = pg_sd σ (pa_dds s)) := by
  unfold qX9_drawn pa_ddv pa_dds
  refine pz_bd' (pg_draw (by decide)) ?_
  by_cases c : 2 ≤ pa_md (pa_dv s) 4
  · refine pz_t c ?_
    by_cases c2 : pa_md (pa_dv s) 4 = 2
    · refine pz_t c2 ?_
      refine pz_bd' (pg_draw (by decide)) ?_
      refine pz_t c2 ?_
      refine pz_bd' (pg_draw (by decide)) ?_
      exact pz_done ⟨by rw [if_pos c, if_pos c2], by rw [if_pos c]⟩
    · refine pz_e c2 ?_
      refine pz_bd' (pg_draw (by decide)) ?_
      refine pz_e c2 ?_
      refine pz_bd' (pg_draw (by decide)) ?_
      exact pz_done ⟨by rw [if_pos c, if_neg c2], by rw [if_pos c]⟩
  · refine pz_e c ?_
    refine pz_bd' (pg_draw (by decide)) ?_
    exact pz_done ⟨by rw [if_neg c], by rw [if_neg c]⟩
/-- loads -/
def sp_ld (H : pa_H) : Nat → Nat → Int32 → pa_X → Nat × pa_X
  | 0, c, _, x => (c, x)
  | m + 1, c, s, x => match pa_deed H (pa_ddv s).toInt64 x with
    | some x' => sp_ld H m (c + 1) (pa_dds s) x'
    | none => sp_ld H m c (pa_dds s) x
theorem sp_ldI (hI : pa_WH H) : ∀ (m c : Nat) (s : Int32) (t : Nat) (x : pa_X), pa_V H t x → t + 99 * m ≤ 3000000 → (sp_ld H m c s x).1 ≤ c + m ∧ ∃ t', t' ≤ t + 99 * m ∧ pa_V H t' (sp_ld H m c s x).2
  | 0, c, s, t, x, iv, _ => ⟨Nat.le_refl _, t, by omega, iv⟩
  | m + 1, c, s, t, x, iv, ht => by
    cases h : pa_deed H (pa_ddv s).toInt64 x with
    | none =>
      have e : sp_ld H (m + 1) c s x = sp_ld H m c (pa_dds s) x := by rw [sp_ld, h]
      rw [e]
      obtain ⟨a1, t', a2, a3⟩ := sp_ldI hI m c (pa_dds s) t x iv (by omega)
      exact ⟨by omega, t', by omega, a3⟩
    | some x' =>
      have e : sp_ld H (m + 1) c s x = sp_ld H m (c + 1) (pa_dds s) x' := by rw [sp_ld, h]
      rw [e]
      obtain ⟨t', h1, h2⟩ := pa_deedV hI iv (by omega) h
      obtain ⟨a1, t2, a2, a3⟩ := sp_ldI hI m (c + 1) (pa_dds s) t' x' h2 (by omega)
      exact ⟨by omega, t2, by omega, a3⟩
theorem pc_sdW {s : Int32} (w : pc_W H x n P im tr tp fl σ) : pc_W H x n P im tr tp fl (pc_sd σ s) ∧ pw_r σ (pc_sd σ s) := by
  have e : ∀ k, k ≠ 0 → (pc_sd σ s).1 k = σ.1 k := fun k hk => ps_rI_ne _ _ hk
  refine ⟨pc_ck.W ⟨fun k hk => ⟨e k (by omega), rfl⟩, fun _ _ => rfl, fun j hj => ?_, fun j _ => by rw [e 11 (by decide)]⟩ ?_ w, fun k hk => ⟨e k (by omega), rfl, rfl⟩⟩
  · unfold pc_sd
    rw [ps_rI_at, upd_ne _ _ (by omega)]
  · have := w.1.2.2
    unfold pc_O at this ⊢
    rw [e 23 (by decide), e 24 (by decide)]
    exact this
theorem pc_ldL {k : Nat} {z : pa_X} {y1 : Int32} (hI : pa_WH H) (hk : k ≤ 20) : ∀ (m i fuel c t : Nat) (s : Int32) (τ : ps_S) (x : pa_X), i + m = k → m < fuel → τ.1 0 16 = s → pa_V H t x → t + 99 * m ≤ 3000000 → pc_W H x n P im tr tp fl τ → pw_r σ0 τ → pc_Ws H 62 τ z → ps_ok (qX8_load_34 y1 (nI k) fuel (nI c) (nI i) τ) (fun r υ => r.1 = nI (sp_ld H m c s x).1 ∧ pc_W H (sp_ld H m c s x).2 n P im tr tp fl υ ∧ pw_r σ0 υ ∧ pc_Ws H 62 υ z) := by
  intro m
  induction m with
  | zero =>
    intro i fuel c t s τ x e1 e2 es iv ht w r b
    obtain ⟨f, rfl⟩ : ∃ f, fuel = f + 1 := ⟨fuel - 1, by omega⟩
    rw [qX8_load_34]
    exact pz_t (nI_le (by omega) (by omega)) (pz_done ⟨rfl, w, r, b⟩)
  | succ m ih =>
    intro i fuel c t s τ x e1 e2 es iv ht w r b
    obtain ⟨f, rfl⟩ : ∃ f, fuel = f + 1 := ⟨fuel - 1, by omega⟩
    rw [qX8_load_34]
    refine pz_e (nI_ge (by omega) (by omega)) ?_
    have dd := pc_drawDeed τ s
    rw [pc_sd_id es] at dd
    refine pz_bd dd (fun v υ ev => ?_)
    obtain ⟨rfl, rfl⟩ := ev
    obtain ⟨w2, r2⟩ := pc_sdW (s := pa_dds s) w
    have b2 : pc_Ws H 62 (pc_sd τ (pa_dds s)) z := pc_S.congr b (fun o ho => ps_rI_ne _ _ (by omega)) rfl
    have e16 := pc_sd_at τ (pa_dds s)
    generalize pc_sd τ (pa_dds s) = υ at w2 r2 b2 e16 ⊢
    refine pz_bd (pc_deed (B := 26) (by decide) hI iv (by omega) w2.G) (fun r' ω hr => ?_)
    rcases hr with ⟨x', q1, rfl, q3, q4⟩ | ⟨q1, rfl, rfl⟩
    · refine pz_e (by decide) ?_
      obtain ⟨w3, r3⟩ := w2.setX q4 q3.1 q3.2.2.2
      have b3 : pc_Ws H 62 ω z := pc_S.congr b2 (fun o ho => q4.1 _ (by omega) (by omega)) (q4.2.2 _ (by omega))
      obtain ⟨t', h1, h2⟩ := pa_deedV hI iv (by omega) q1
      rw [pz_lt, nI_1, pz_lt, nI_1, show sp_ld H (m + 1) c s x = sp_ld H m (c + 1) (pa_dds s) x' by rw [sp_ld, q1]]
      exact ih (i + 1) f (c + 1) t' (pa_dds s) ω x' (by omega) (by omega) (by rw [q4.1 0 (by omega) (by omega)]; exact e16) h2 (by omega) w3 ((r.tr r2).tr r3) b3
    · refine pz_t rfl ?_
      rw [pz_lt, nI_1, show sp_ld H (m + 1) c s x = sp_ld H m c (pa_dds s) x by rw [sp_ld, q1]]
      exact ih (i + 1) f c t (pa_dds s) ω x (by omega) (by omega) e16 iv (by omega) w2 (r.tr r2) b2
theorem pg_ldL {k : Nat} {z : pa_X} {y1 : Int32} (hk : k ≤ 20) (hT : T ≤ 3000000) : ∀ (m i fuel c t : Nat) (s : Int32) (τ : ps_S) (x : pa_X), i + m = k → m < fuel → τ.1 327 29 = s → pa_W T H x n P im tr tp → pa_V H t x → t + 99 * m ≤ T → pg_W H x n P im tr tp fl τ → pw_c σ0 τ → pg_was H z τ → ps_ok (qX9_load_34 y1 (nI k) fuel (nI c) (nI i) τ) (fun r υ => r.1 = nI (sp_ld H m c s x).1 ∧ pg_W H (sp_ld H m c s x).2 n P im tr tp fl υ ∧ pw_c σ0 υ ∧ pg_was H z υ) := by
  intro m
  induction m with
  | zero =>
    intro i fuel c t s τ x e1 e2 es hW iv ht w r b
    obtain ⟨f, rfl⟩ : ∃ f, fuel = f + 1 := ⟨fuel - 1, by omega⟩
    rw [qX9_load_34]
    exact pz_t (nI_le (by omega) (by omega)) (pz_done ⟨rfl, w, r, b⟩)
  | succ m ih =>
    intro i fuel c t s τ x e1 e2 es hW iv ht w r b
    obtain ⟨f, rfl⟩ : ∃ f, fuel = f + 1 := ⟨fuel - 1, by omega⟩
    rw [qX9_load_34]
    refine pz_e (nI_ge (by omega) (by omega)) ?_
    have dd := pg_drawDeed τ s
    rw [pg_sd_id es] at dd
    refine pz_bd dd (fun v υ ev => ?_)
    obtain ⟨rfl, rfl⟩ := ev
    have kp : pg_kp τ (pg_sd τ (pa_dds s)) := pg_kp.F τ _ (by decide)
    have w2 := kp.W w
    have b2 : pg_was H z (pg_sd τ (pa_dds s)) := by
      unfold pg_was pg_sd
      rw [ps_rI_ne _ _ (by decide)]
      exact b
    have e29 := pg_sd_at τ (pa_dds s)
    generalize pg_sd τ (pa_dds s) = υ at kp w2 b2 e29 ⊢
    refine pz_bd (pg_why hW.1 w2) (fun r' ω hr => ?_)
    obtain ⟨hr, rfl⟩ := hr
    rcases hr with ⟨q1, rfl⟩ | ⟨q1, rfl⟩
    · refine pz_e (by decide) ?_
      rw [pz_lt, nI_1, show sp_ld H (m + 1) c s x = sp_ld H m c (pa_dds s) x by rw [sp_ld, q1]]
      exact ih (i + 1) f c t (pa_dds s) ω x (by omega) (by omega) e29 hW iv (by omega) w2 (pw_c.tr r kp.1) b2
    · refine pz_t rfl ?_
      obtain ⟨x', ex⟩ := Option.ne_none_iff_exists'.mp q1
      have e32 : (pa_ddv s).toInt64.toInt32 = pa_ddv s := by simp
      have hd := pg_does hW iv (by omega) w2 ex
      rw [e32] at hd
      refine pz_bd hd (fun _ ψ h3 => ?_)
      obtain ⟨w3, c3, d1, d2, d3, d4⟩ := h3
      have b3 : pg_was H z ψ := by unfold pg_was; rw [d1, d2]; exact b2
      obtain ⟨t', h1, h2⟩ := pa_deedV hW.1 iv (by omega) ex
      rw [pz_lt, nI_1, pz_lt, nI_1, show sp_ld H (m + 1) c s x = sp_ld H m (c + 1) (pa_dds s) x' by rw [sp_ld, ex]]
      exact ih (i + 1) f (c + 1) t' (pa_dds s) ψ x' (by omega) (by omega) (by rw [d4]; exact e29) (hW.setX ⟨t', by omega, h2⟩) h2 (by omega) w3 (pw_c.tr (pw_c.tr r kp.1) c3) b3
end Q6
