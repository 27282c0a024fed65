/-! told deeds: the reference; rows of deeds -/
section DEED4
variable {H : pa_H} {x : pa_X} {n : Nat} {P : Nat → pa_X} {im : pa_Im} {tr : pa_Tr} {tp : pa_Tp} {fl : Int32 × Int32} {σ0 σ τ : ps_S} {y : pa_X} {t T : Nat} {v : Int64}
theorem pg_w0 {a b : Nat} (ha : a < 2 ^ 31) (hb : b < 2 ^ 31) (h : ¬ ((a : Int) ≤ v.toInt ∧ v.toInt ≤ (b : Int))) : qX9_within v (lN a) (lN b) τ = some (0, τ) := by
  unfold qX9_within
  by_cases c : v.toInt < (a : Int)
  · rw [if_pos ((lc_lt ha).mpr c)]
  · rw [if_neg (fun hh => c ((lc_lt ha).mp hh)), if_pos ((lc_gt hb).mpr (by omega))]
theorem pg_w1 {a b : Nat} (ha : a < 2 ^ 31) (hb : b < 2 ^ 31) (h : (a : Int) ≤ v.toInt ∧ v.toInt ≤ (b : Int)) : qX9_within v (lN a) (lN b) τ = some (1, τ) := by
  unfold qX9_within
  rw [if_neg (fun hh => by have := (lc_lt ha).mp hh; omega), if_neg (fun hh => by have := (lc_gt hb).mp hh; omega)]
theorem pg_why (hI : pa_WH H) (w : pg_W H x n P im tr tp fl τ) : ps_ok (qX9_whyNot v τ) (fun r υ => ((pa_deed H v x = none ∧ r = 1) ∨ (pa_deed H v x ≠ none ∧ r = 0)) ∧ υ = τ) := by
  have hD := hI.1.1.2
  have hW := hI.1.2.2.1.2
  unfold qX9_whyNot
  by_cases c1 : ((1 : Nat) : Int) ≤ v.toInt ∧ v.toInt ≤ ((99 : Nat) : Int)
  · refine pz_bd' (pg_w1 (a := 1) (b := 99) (by decide) (by decide) c1) ?_
    refine pz_e (by decide) ?_
    obtain ⟨m, m1, rfl⟩ := lN_of (v := v) (a := 1) (b := 99) c1.1 c1.2
    exact pz_done ⟨Or.inr ⟨by rw [pa_deedA (by omega) (by omega)]; exact fun hh => (by cases hh), rfl⟩, rfl⟩
  · refine pz_bd' (pg_w0 (a := 1) (b := 99) (by decide) (by decide) c1) ?_
    refine pz_t rfl ?_
    by_cases c2 : ((10000 : Nat) : Int) ≤ v.toInt ∧ v.toInt ≤ ((13999 : Nat) : Int)
    · refine pz_bd' (pg_w1 (a := 10000) (b := 13999) (by decide) (by decide) c2) ?_
      refine pz_e (by decide) ?_
      obtain ⟨m, m1, rfl⟩ := lN_of (v := v) (a := 10000) (b := 13999) c2.1 c2.2
      have e1 : (lN (10000 + m) - 10000) / 1000 = (nI (m / 1000)).toInt64 := by
        have q1 : lN (10000 + m) - 10000 = lN m := by
          show lN (10000 + m) - lN 10000 = _
          rw [lN_sub (by omega), Nat.add_sub_cancel_left]
        rw [q1, nI_l (by omega)]
        exact lN_div' (a := m) (b := 1000) (by omega) (by omega)
      rw [e1, pa_deedB (by omega)]
      by_cases q : m / 1000 < H.2.1
      · have c : ¬ (nI (m / 1000) < 0 ∨ nI H.2.1 ≤ nI (m / 1000)) := fun hh => hh.elim (nI_pos (by omega)) (nI_ge q (by omega))
        refine pz_bd' (pg_dev1 hI w c) ?_
        refine pz_e (by decide) (pz_done ⟨Or.inr ⟨by rw [if_pos q]; exact fun hh => (by cases hh), rfl⟩, rfl⟩)
      · refine pz_bd' (pg_dev0 hI w (Or.inr (nI_le (by omega) (by omega)))) ?_
        exact pz_t rfl (pz_done ⟨Or.inl ⟨by rw [if_neg q], rfl⟩, rfl⟩)
    · refine pz_bd' (pg_w0 (a := 10000) (b := 13999) (by decide) (by decide) c2) ?_
      refine pz_t rfl ?_
      by_cases c3 : ((20000 : Nat) : Int) ≤ v.toInt ∧ v.toInt ≤ ((20599 : Nat) : Int)
      · refine pz_bd' (pg_w1 (a := 20000) (b := 20599) (by decide) (by decide) c3) ?_
        refine pz_e (by decide) ?_
        obtain ⟨m, m1, rfl⟩ := lN_of (v := v) (a := 20000) (b := 20599) c3.1 c3.2
        have e1 : (lN (20000 + m) - 20000) / 100 = (nI (m / 100)).toInt64 := by
          have q1 : lN (20000 + m) - 20000 = lN m := by
            show lN (20000 + m) - lN 20000 = _
            rw [lN_sub (by omega), Nat.add_sub_cancel_left]
          rw [q1, nI_l (by omega)]
          exact lN_div' (a := m) (b := 100) (by omega) (by omega)
        rw [e1, pa_deedC (by omega)]
        by_cases q : m / 100 < H.2.2.2
        · have c : ¬ (nI (m / 100) < 0 ∨ nI H.2.2.2 ≤ nI (m / 100)) := fun hh => hh.elim (nI_pos (by omega)) (nI_ge q (by omega))
          refine pz_bd' (pg_wri1 hI w c) ?_
          refine pz_e (by decide) (pz_done ⟨Or.inr ⟨by rw [if_pos q]; exact fun hh => (by cases hh), rfl⟩, rfl⟩)
        · refine pz_bd' (pg_wri0 hI w (Or.inr (nI_le (by omega) (by omega)))) ?_
          exact pz_t rfl (pz_done ⟨Or.inl ⟨by rw [if_neg q], rfl⟩, rfl⟩)
      · refine pz_bd' (pg_w0 (a := 20000) (b := 20599) (by decide) (by decide) c3) ?_
        exact pz_t rfl (pz_done ⟨Or.inl ⟨pa_deedN c1 c2 c3, rfl⟩, rfl⟩)
/-- what a deed of the reference leaves -/
def pg_dk (σ τ : ps_S) : Prop := pw_c σ τ ∧ τ.1 337 = σ.1 337 ∧ τ.2.2 338 = σ.2.2 338 ∧ τ.1 327 28 = σ.1 327 28 ∧ τ.1 327 29 = σ.1 327 29
theorem pg_does {x' : pa_X} (hW : pa_W T H x n P im tr tp) (iv : pa_V H t x) (ht : t + 99 ≤ 3000000) (w : pg_W H x n P im tr tp fl τ) (h : pa_deed H v x = some x') : ps_ok (qX9_does v.toInt32 τ) (fun _ υ => pg_W H x' n P im tr tp fl υ ∧ pg_dk τ υ) := by
  have hI := hW.1
  have hD := hI.1.1.2
  have hWl := hI.1.2.2.1.2
  unfold qX9_does
  by_cases c1 : 1 ≤ v.toInt ∧ v.toInt ≤ 99
  · obtain ⟨m, m1, rfl⟩ := lN_of (a := 1) (b := 99) c1.1 c1.2
    rw [pa_deedA (by omega) (by omega)] at h
    cases h
    rw [lN_i]
    refine pz_e (nI_ge (b := 100) (by omega) (by omega)) ?_
    refine pz_bd (pg_goesTicks hW iv (by omega) (by omega) w) (fun _ υ hu => ?_)
    obtain ⟨-, u1, u2⟩ := hu
    exact pz_done ⟨u1, u2⟩
  · by_cases c2 : 10000 ≤ v.toInt ∧ v.toInt ≤ 13999
    · obtain ⟨m, m1, rfl⟩ := lN_of (a := 10000) (b := 13999) c2.1 c2.2
      rw [pa_deedB (by omega)] at h
      by_cases q : m / 1000 < H.2.1
      · rw [if_pos q] at h
        cases h
        rw [lN_i]
        refine pz_t (nI_le (a := 100) (by omega) (by omega)) ?_
        refine pz_e (nI_ge (b := 20000) (by omega) (by omega)) ?_
        have e1 : (60 : Int32) + (nI (10000 + m) - 10000) / 1000 = nI (35 + (25 + m / 1000)) := by
          have q1 : nI (10000 + m) - 10000 = nI m := by
            show nI (10000 + m) - nI 10000 = _
            rw [nI_sub (by omega), Nat.add_sub_cancel_left]
          rw [q1, show nI m / 1000 = nI (m / 1000) from nI_div (a := m) (b := 1000) (by omega) (by omega), show (60 : Int32) + nI (m / 1000) = nI (60 + m / 1000) from nI_add 60 (m / 1000)]
          congr 1
          omega
        have e2 : nI (10000 + m) - nI (10000 + m) / 1000 * 1000 = nI (m % 1000) := by
          rw [show nI (10000 + m) - nI (10000 + m) / 1000 * 1000 = nI ((10000 + m) % 1000) from nI_rem (a := 10000 + m) (b := 1000) (by omega) (by omega) (by omega)]
          congr 1
          omega
        rw [e2]
        refine pg_setk hW (k := 25 + m / 1000) ⟨by omega, by omega, by omega⟩ e1 w (fun υ w2 c3 o3 e3 => ?_)
        exact pz_done ⟨w2, c3, o3 337 (by decide), by rw [e3], by rw [o3 327 (by decide)], by rw [o3 327 (by decide)]⟩
      · rw [if_neg q] at h
        cases h
    · by_cases c3 : 20000 ≤ v.toInt ∧ v.toInt ≤ 20599
      · obtain ⟨m, m1, rfl⟩ := lN_of (a := 20000) (b := 20599) c3.1 c3.2
        rw [pa_deedC (by omega)] at h
        by_cases q : m / 100 < H.2.2.2
        · rw [if_pos q] at h
          cases h
          rw [lN_i]
          refine pz_t (nI_le (a := 100) (by omega) (by omega)) ?_
          refine pz_t (nI_le (a := 20000) (by omega) (by omega)) ?_
          have e1 : (88 : Int32) + (nI (20000 + m) - 20000) / 100 = nI (35 + (53 + m / 100)) := by
            have q1 : nI (20000 + m) - 20000 = nI m := by
              show nI (20000 + m) - nI 20000 = _
              rw [nI_sub (by omega), Nat.add_sub_cancel_left]
            rw [q1, show nI m / 100 = nI (m / 100) from nI_div (a := m) (b := 100) (by omega) (by omega), show (88 : Int32) + nI (m / 100) = nI (88 + m / 100) from nI_add 88 (m / 100)]
            congr 1
            omega
          have e2 : nI (20000 + m) - nI (20000 + m) / 100 * 100 = nI (m % 100) := by
            rw [show nI (20000 + m) - nI (20000 + m) / 100 * 100 = nI ((20000 + m) % 100) from nI_rem (a := 20000 + m) (b := 100) (by omega) (by omega) (by omega)]
            congr 1
            omega
          rw [e2]
          refine pg_setk hW (k := 53 + m / 100) ⟨by omega, by omega, by omega⟩ e1 w (fun υ w2 c3 o3 e3 => ?_)
          exact pz_done ⟨w2, c3, o3 337 (by decide), by rw [e3], by rw [o3 327 (by decide)], by rw [o3 327 (by decide)]⟩
        · rw [if_neg q] at h
          cases h
      · rw [pa_deedN c1 c2 c3] at h
        cases h
/-- a row of deeds -/
def sp_do (H : pa_H) (tv : Nat → Int64) : Nat → Nat → pa_X → Nat × Bool × pa_X
  | i, 0, x => (i, true, x)
  | i, m + 1, x => match pa_deed H (tv i) x with
    | some x' => sp_do H tv (i + 1) m x'
    | none => (i, false, x)
theorem sp_do_s {tv : Nat → Int64} {i m : Nat} {x' : pa_X} (h : pa_deed H (tv i) x = some x') : sp_do H tv i (m + 1) x = sp_do H tv (i + 1) m x' := by rw [sp_do, h]
theorem sp_do_n {tv : Nat → Int64} {i m : Nat} (h : pa_deed H (tv i) x = none) : sp_do H tv i (m + 1) x = (i, false, x) := by rw [sp_do, h]
theorem sp_doI {tv : Nat → Int64} (hI : pa_WH H) : ∀ (m i t : Nat) (x : pa_X), pa_V H t x → t + 99 * m ≤ 3000000 → (((sp_do H tv i m x).2.1 = true ∧ (sp_do H tv i m x).1 = i + m) ∨ ((sp_do H tv i m x).2.1 = false ∧ (sp_do H tv i m x).1 < i + m)) ∧ i ≤ (sp_do H tv i m x).1 ∧ ∃ t', t' ≤ t + 99 * m ∧ pa_V H t' (sp_do H tv i m x).2.2
  | 0, i, t, x, iv, _ => ⟨Or.inl ⟨rfl, rfl⟩, Nat.le_refl _, t, by omega, iv⟩
  | m + 1, i, t, x, iv, ht => by
    cases h : pa_deed H (tv i) x with
    | none =>
      rw [sp_do_n h]
      exact ⟨Or.inr ⟨rfl, by show i < _; omega⟩, Nat.le_refl _, t, by omega, iv⟩
    | some x' =>
      rw [sp_do_s h]
      obtain ⟨t', h1, h2⟩ := pa_deedV hI iv (by omega) h
      obtain ⟨a1, a2, t2, a3, a4⟩ := sp_doI hI m (i + 1) t' x' h2 (by omega)
      refine ⟨?_, by omega, t2, by omega, a4⟩
      rcases a1 with ⟨b1, b2⟩ | ⟨b1, b2⟩
      · exact Or.inl ⟨b1, by omega⟩
      · exact Or.inr ⟨b1, by omega⟩
theorem pc_doL {B i : Nat} {z : Int32 × Nat × (Nat → Int64)} (hB : B = 26 ∨ B = 44) (hI : pa_WH H) (hi : i < 4) (hm : z.2.1 ≤ 40) (h3 : σ0.1 (265 + 2 * i) 3 = nI z.2.1) (h4 : ∀ j, j < z.2.1 → σ0.2.1 (266 + 2 * i) j = z.2.2 j) : ∀ (m j fuel t : Nat) (τ : ps_S) (x : pa_X), j + m = z.2.1 → m < fuel → pa_V H t x → t + 99 * m ≤ 3000000 → pc_fr B σ0 τ → pc_G H.1 H.2.1 H.2.2.1 H.2.2.2 B (pa_p0 H.1) τ x → ps_ok (qX8_doAll_2 B (265 + 2 * i) fuel (nI j) τ) (fun r υ => ((r = .inl (nI (sp_do H z.2.2 j m x).1) ∧ (sp_do H z.2.2 j m x).2.1 = false) ∨ ((∃ v, r = .inr v) ∧ (sp_do H z.2.2 j m x).2.1 = true)) ∧ pc_G H.1 H.2.1 H.2.2.1 H.2.2.2 B (pa_p0 H.1) υ (sp_do H z.2.2 j m x).2.2 ∧ pc_fr B σ0 υ) := by
  intro m
  induction m with
  | zero =>
    intro j fuel t τ x e1 e2 iv ht fr g
    obtain ⟨f, rfl⟩ : ∃ f, fuel = f + 1 := ⟨fuel - 1, by omega⟩
    rw [qX8_doAll_2]
    refine pz_l ((congrFun (fr.1 _ (by omega) (by omega)) 3).trans h3) ?_
    exact pz_t (nI_le (by omega) (by omega)) (pz_done ⟨Or.inr ⟨⟨_, rfl⟩, rfl⟩, g, fr⟩)
  | succ m ih =>
    intro j fuel t τ x e1 e2 iv ht fr g
    obtain ⟨f, rfl⟩ : ∃ f, fuel = f + 1 := ⟨fuel - 1, by omega⟩
    rw [qX8_doAll_2]
    refine pz_l ((congrFun (fr.1 _ (by omega) (by omega)) 3).trans h3) ?_
    refine pz_e (nI_ge (by omega) (by omega)) ?_
    refine pz_rdL (k := j) rfl (by omega) (by decide) (w := z.2.2 j) (by rw [fr.2.1, show 265 + 2 * i + 1 = 266 + 2 * i by omega]; exact h4 j (by omega)) ?_
    refine pz_bd (pc_deed (by omega) hI iv (by omega) g) (fun r υ hr => ?_)
    rcases hr with ⟨x', q1, rfl, q3, q4⟩ | ⟨q1, rfl, rfl⟩
    · refine pz_e (by decide) ?_
      obtain ⟨t', b1, b2⟩ := pa_deedV hI iv (by omega) q1
      rw [pz_lt, nI_1, sp_do_s q1]
      exact ih (j + 1) f t' υ x' (by omega) (by omega) b2 (by omega) (fr.tr q4) q3
    · refine pz_t rfl ?_
      rw [sp_do_n q1]
      exact pz_done ⟨Or.inl ⟨rfl, rfl⟩, g, fr⟩
theorem pg_tellsL {i : Nat} {z : Int32 × Nat × (Nat → Int64)} (hi : i < 4) (hz : tr i = some z) (hm : z.2.1 ≤ 40) : ∀ (m j fuel t : Nat) (τ : ps_S) (x : pa_X), j + m = z.2.1 → m < fuel → pa_W T H x n P im tr tp → pa_V H t x → t + 99 * m ≤ T → T ≤ 3000000 → τ.1 327 28 = 0 → pg_W H x n P im tr tp fl τ → ps_ok (qX9_tells_7 (nI i) fuel (nI j) τ) (fun r υ => ((r = .inl (nI (sp_do H z.2.2 j m x).1) ∧ (sp_do H z.2.2 j m x).2.1 = false ∧ υ.1 327 28 = 1) ∨ ((∃ v, r = .inr v) ∧ (sp_do H z.2.2 j m x).2.1 = true ∧ υ.1 327 28 = 0)) ∧ pg_W H (sp_do H z.2.2 j m x).2.2 n P im tr tp fl υ ∧ pw_c τ υ ∧ υ.1 337 = τ.1 337 ∧ υ.2.2 338 = τ.2.2 338) := by
  intro m
  induction m with
  | zero =>
    intro j fuel t τ x e1 e2 hW iv ht hT h28 w
    obtain ⟨f, rfl⟩ : ∃ f, fuel = f + 1 := ⟨fuel - 1, by omega⟩
    obtain ⟨a1, a2, a3⟩ := (w.2.2.2.1 i hi).2 z hz
    rw [qX9_tells_7]
    refine pz_rd (k := i) rfl hi (by decide) a2 ?_
    exact pz_t (nI_le (by omega) (by omega)) (pz_done ⟨Or.inr ⟨⟨_, rfl⟩, rfl, h28⟩, w, pw_c.rf _, rfl, rfl⟩)
  | succ m ih =>
    intro j fuel t τ x e1 e2 hW iv ht hT h28 w
    obtain ⟨f, rfl⟩ : ∃ f, fuel = f + 1 := ⟨fuel - 1, by omega⟩
    obtain ⟨a1, a2, a3⟩ := (w.2.2.2.1 i hi).2 z hz
    rw [qX9_tells_7]
    refine pz_rd (k := i) rfl hi (by decide) a2 ?_
    refine pz_e (nI_ge (by omega) (by omega)) ?_
    refine pz_rdL (k := 40 * i + j) (nI_40 i j) (by omega) (by decide) (a3 j (by omega)) ?_
    refine pz_bd (pg_why hW.1 w) (fun r υ hr => ?_)
    obtain ⟨hr, rfl⟩ := hr
    rcases hr with ⟨q1, rfl⟩ | ⟨q1, rfl⟩
    · rw [pz_lt]
      refine pz_l (show _ = (1 : Int32) by rw [ps_rI_at, upd_self]) ?_
      refine pz_e (by decide) ?_
      rw [sp_do_n q1]
      have kp := pg_kp.F υ (j := 28) 1 (by decide)
      exact pz_done ⟨Or.inl ⟨rfl, rfl, by rw [ps_rI_at, upd_self]⟩, kp.W w, kp.1, by rw [ps_rI_ne _ _ (by decide)], rfl⟩
    · rw [pz_lt]
      refine pz_l (show _ = (0 : Int32) by rw [ps_rI_at, upd_self]) ?_
      refine pz_t rfl ?_
      have kp := pg_kp.F υ (j := 28) 0 (by decide)
      have w2 := kp.W w
      have x28 : (ps_rI υ 327 (upd (υ.1 327) 28 0)).1 327 28 = 0 := by rw [ps_rI_at, upd_self]
      have x337 : (ps_rI υ 327 (upd (υ.1 327) 28 0)).1 337 = υ.1 337 := ps_rI_ne _ _ (by decide)
      have x338 : (ps_rI υ 327 (upd (υ.1 327) 28 0)).2.2 338 = υ.2.2 338 := rfl
      generalize ps_rI υ 327 (upd (υ.1 327) 28 0) = υ2 at kp w2 x28 x337 x338 ⊢
      obtain ⟨b1, b2, b3⟩ := (w2.2.2.2.1 i hi).2 z hz
      refine pz_rdL (k := 40 * i + j) (nI_40 i j) (by omega) (by decide) (b3 j (by omega)) ?_
      obtain ⟨x', ex⟩ := Option.ne_none_iff_exists'.mp q1
      refine pz_bd (pg_does hW iv (by omega) w2 ex) (fun _ υ3 h3 => ?_)
      obtain ⟨w3, c3, d1, d2, d3, d4⟩ := h3
      obtain ⟨t', b1', b2'⟩ := pa_deedV hW.1 iv (by omega) ex
      rw [pz_lt, nI_1, sp_do_s ex]
      refine pz_im (ih (j + 1) f t' υ3 x' (by omega) (by omega) (hW.setX ⟨t', by omega, b2'⟩) b2' (by omega) hT (by rw [d3, x28]) w3) (fun r ω hω => ?_)
      obtain ⟨o1, o2, o3, o4, o5⟩ := hω
      exact ⟨o1, o2, pw_c.tr (pw_c.tr kp.1 c3) o3, by rw [o4, d1, x337], by rw [o5, d2, x338]⟩
end DEED4
