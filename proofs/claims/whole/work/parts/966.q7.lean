/-! judge, perform, load: the calls -/
theorem pw_load {T : Nat} {σ : ps_S} {p1 p2 : Int32} (w : pw_W T σ) (hT : T ≤ 2990000) : pw_call (T + 4000) (qX8_load p1 p2) (qX9_load p1 p2) σ := by
  obtain ⟨H, x, n, P, im, tr, tp, fl, hW, hc, hg⟩ := w
  obtain ⟨t, t1, iv⟩ := hW.2.1
  have hW' := hW.mono (show T ≤ T + 4000 by omega)
  by_cases c : p2 < 1 ∨ 20 < p2
  · refine pw_query (a := -3) hW' hc hg ?_ (fun τ hg => ?_)
    · unfold qX8_load
      refine pz_bd' (pc_i0 c) ?_
      exact pz_t rfl (pz_done ⟨rfl, pc_kp.rf _, hc.1.2.2⟩)
    · unfold qX9_load
      refine pg_th hg (fun τ1 hg1 k1 => ?_)
      refine pz_bd' (pg_i0 (lo := 1) (hi := 20) (by decide) (by decide) c) ?_
      exact pz_t rfl (pz_done ⟨rfl, k1⟩)
  obtain ⟨k, m1, m2, rfl⟩ := pa_num 1 20 (by decide) (by decide) c
  obtain ⟨hle, t', ht1, iv'⟩ := sp_ldI hW.1 k 0 p1 t x iv (by omega)
  have hx1 : pa_W1 (T + 4000) H (sp_ld H k 0 p1 x).2 := ⟨t', by omega, iv'⟩
  -- the class up to the last step
  have cl : ps_ok (ps_let (ps_rI σ 0 (upd (σ.1 0) 16 p1)) fun σ4 => ps_bd (qX6_copyFrom 62 26 σ4) (fun _ σ6 => qX8_load_34 p1 (nI k) ps_N 0 0 σ6)) (fun r υ => r.1 = nI (sp_ld H k 0 p1 x).1 ∧ pc_W H (sp_ld H k 0 p1 x).2 n P im tr tp fl υ ∧ pw_r σ υ ∧ pc_Ws H 62 υ x) := by
    rw [pz_lt]
    obtain ⟨w1, r1⟩ := pc_sdW (s := p1) hc
    have e16 := pc_sd_at σ p1
    show ps_ok (ps_bd (qX6_copyFrom 62 26 (pc_sd σ p1)) _) _
    generalize pc_sd σ p1 = σ1 at w1 r1 e16 ⊢
    refine pz_bd (pc_before w1 hW.1) (fun _ σ2 h2 => ?_)
    obtain ⟨b2, k2, w2, fb⟩ := h2
    exact pc_ldL (y1 := p1) hW.1 m2 k 0 ps_N 0 t p1 σ2 x (by omega) (by unfold ps_N; omega) (by rw [fb.1 0 (by omega)]; exact e16) iv (by omega) w2 (r1.tr k2.2) b2
  have rf : ∀ τ, pg_W H x n P im tr tp fl τ → ps_ok (ps_bd (qX9_stores τ) (fun _ σ6 => ps_let (ps_rI σ6 327 (upd (σ6.1 327) 29 p1)) fun σ7 => qX9_load_34 p1 (nI k) ps_N 0 0 σ7)) (fun r υ => r.1 = nI (sp_ld H k 0 p1 x).1 ∧ pg_W H (sp_ld H k 0 p1 x).2 n P im tr tp fl υ ∧ pw_c τ υ ∧ pg_was H x υ) := by
    intro τ hg
    refine pz_bd (pg_stores hW.1 hg) (fun _ σ2 h2 => ?_)
    obtain ⟨z2, k2, w2, -⟩ := h2
    rw [pz_lt]
    have kp : pg_kp σ2 (pg_sd σ2 p1) := pg_kp.F σ2 _ (by decide)
    have w3 := kp.W w2
    have z3 : pg_was H x (pg_sd σ2 p1) := by
      unfold pg_was pg_sd
      rw [ps_rI_ne _ _ (by decide)]
      exact z2
    exact pg_ldL (T := T + 4000) (y1 := p1) m2 (by omega) k 0 ps_N 0 t p1 (pg_sd σ2 p1) x (by omega) (by unfold ps_N; omega) (pg_sd_at σ2 p1) hW' iv (by omega) w3 (pw_c.tr k2.1 kp.1) z3
  by_cases q : (sp_ld H k 0 p1 x).1 = 0
  · refine pw_change (a := nI (sp_ld H k 0 p1 x).1) (fl' := fl) (hW'.setX hx1) hg ?_ (fun τ hg => ?_)
    · unfold qX8_load
      refine pz_bd' (pc_i1 (fun hh => c (Or.inl hh)) (fun hh => c (Or.inr hh))) ?_
      refine pz_e (by decide) ?_
      refine pz_assoc (pz_bd cl (fun r υ hr => ?_))
      obtain ⟨r1, r2⟩ := r
      obtain ⟨e, w2, rr, b⟩ := hr
      have e' : r1 = nI (sp_ld H k 0 p1 x).1 := e
      subst e'
      refine pz_t (by rw [q]; decide) (pz_done ⟨rfl, w2, rr⟩)
    · unfold qX9_load
      refine pg_th hg (fun τ1 hg1 k1 => ?_)
      refine pz_bd' (pg_i1 (lo := 1) (hi := 20) (by decide) (by decide) (fun hh => c (Or.inl hh)) (fun hh => c (Or.inr hh))) ?_
      refine pz_e (by decide) ?_
      refine pz_assoc (pz_bd (rf τ1 hg1) (fun r υ hr => ?_))
      obtain ⟨r1, r2⟩ := r
      obtain ⟨e, w2, rr, b⟩ := hr
      have e' : r1 = nI (sp_ld H k 0 p1 x).1 := e
      subst e'
      refine pz_t (by rw [q]; decide) (pz_done ⟨rfl, w2, pw_c.tr k1.1 rr⟩)
  · have hq : ¬ nI (sp_ld H k 0 p1 x).1 ≤ 0 := nI_nle (by omega) (by omega)
    refine pw_change (a := nI (sp_ld H k 0 p1 x).1) (fl' := fl) ((hW'.setX hx1).push hW'.2.1) hg ?_ (fun τ hg => ?_)
    · unfold qX8_load
      refine pz_bd' (pc_i1 (fun hh => c (Or.inl hh)) (fun hh => c (Or.inr hh))) ?_
      refine pz_e (by decide) ?_
      refine pz_assoc (pz_bd cl (fun r υ hr => ?_))
      obtain ⟨r1, r2⟩ := r
      obtain ⟨e, w2, rr, b⟩ := hr
      have e' : r1 = nI (sp_ld H k 0 p1 x).1 := e
      subst e'
      refine pz_e hq ?_
      refine pz_bd (w2.push hW.1 hW.2.2.1.1 b) (fun _ ω hω => ?_)
      exact pz_done ⟨rfl, hω.1, rr.tr hω.2.1⟩
    · unfold qX9_load
      refine pg_th hg (fun τ1 hg1 k1 => ?_)
      refine pz_bd' (pg_i1 (lo := 1) (hi := 20) (by decide) (by decide) (fun hh => c (Or.inl hh)) (fun hh => c (Or.inr hh))) ?_
      refine pz_e (by decide) ?_
      refine pz_assoc (pz_bd (rf τ1 hg1) (fun r υ hr => ?_))
      obtain ⟨r1, r2⟩ := r
      obtain ⟨e, w2, rr, b⟩ := hr
      have e' : r1 = nI (sp_ld H k 0 p1 x).1 := e
      subst e'
      refine pz_e hq ?_
      refine pz_bd (w2.push (hW'.setX hx1) b) (fun _ ω hω => ?_)
      exact pz_done ⟨rfl, hω.1, pw_c.tr (pw_c.tr k1.1 rr) hω.2.1⟩
theorem pw_perform {T : Nat} {σ : ps_S} {p1 : Int32} (w : pw_W T σ) (hT : T ≤ 2990000) : pw_call (T + 4000) (qX8_perform p1) (qX9_perform p1) σ := by
  obtain ⟨H, x, n, P, im, tr, tp, fl, hW, hc, hg⟩ := w
  obtain ⟨t, t1, iv⟩ := hW.2.1
  have hW' := hW.mono (show T ≤ T + 4000 by omega)
  by_cases c1 : p1 < 0 ∨ 4 ≤ p1
  · refine pw_query (a := -2) hW' hc hg ?_ (fun τ hg => ?_)
    · unfold qX8_perform
      refine pz_bd' (pc_tf c1) ?_
      exact pz_t rfl (pz_done ⟨rfl, pc_kp.rf _, hc.1.2.2⟩)
    · unfold qX9_perform
      refine pg_th hg (fun τ1 hg1 k1 => ?_)
      refine pz_bd' (pg_noT0 c1) ?_
      exact pz_e (by decide) (pz_done ⟨rfl, k1⟩)
  obtain ⟨i, hi, rfl⟩ := pa_idx (n := 4) (by decide) c1
  cases hz : tr i with
  | none =>
    refine pw_query (a := -6) hW' hc hg ?_ (fun τ hg => ?_)
    · unfold qX8_perform
      refine pz_bd' (pc_tt c1) ?_
      refine pz_e (by decide) ?_
      refine pz_rdN (k := i) (f := fun k => 265 + 2 * k) rfl hi (by decide) ?_
      refine pz_l ((hc.2.2.2.1 i hi).1 hz) ?_
      exact pz_e (by decide) (pz_done ⟨rfl, pc_kp.rf _, hc.1.2.2⟩)
    · unfold qX9_perform
      refine pg_th hg (fun τ1 hg1 k1 => ?_)
      refine pz_bd' (pg_noT1 hi hg1.2.2.2.1 hz) ?_
      exact pz_e (by decide) (pz_done ⟨rfl, k1⟩)
  | some z =>
    obtain ⟨hs, hm⟩ := hW.2.2.2.2.1 i hi z hz
    obtain ⟨a1, -, t', ht1, iv'⟩ := sp_doI (tv := z.2.2) hW.1 z.2.1 0 t x iv (by omega)
    have hx1 : pa_W1 (T + 4000) H (sp_do H z.2.2 0 z.2.1 x).2.2 := ⟨t', by omega, iv'⟩
    have hle : (sp_do H z.2.2 0 z.2.1 x).1 ≤ 40 := by omega
    have cl : ps_ok (ps_bd (qX6_copyFrom 62 26 σ) (fun _ σ10 => if ps_in (nI i) 4 = true then ps_let (265 + 2 * (nI i).toNatClampNeg) fun B13 => qX8_doAll 26 B13 σ10 else none)) (fun v υ => v = nI (sp_do H z.2.2 0 z.2.1 x).1 ∧ pc_W H (sp_do H z.2.2 0 z.2.1 x).2.2 n P im tr tp fl υ ∧ pw_r σ υ ∧ pc_Ws H 62 υ x) := by
      refine pz_bd (pc_before hc hW.1) (fun _ σ2 h2 => ?_)
      obtain ⟨b2, k2, w2, fb⟩ := h2
      refine pz_rdN (k := i) (f := fun k => 265 + 2 * k) rfl hi (by decide) ?_
      obtain ⟨y1, y2, y3, y4⟩ := (w2.2.2.2.1 i hi).2 z hz
      refine pz_im (pc_doAll (B := 26) (Or.inl rfl) hW.1 hi hm y3 y4 iv (by omega) w2.G) (fun v υ hv => ?_)
      obtain ⟨e, gu, fr⟩ := hv
      obtain ⟨w3, r3⟩ := w2.setX fr gu.1 gu.2.2.2
      exact ⟨e, w3, k2.2.tr r3, pc_S.congr b2 (fun o ho => fr.1 _ (by omega) (by omega)) (fr.2.2 _ (by omega))⟩
    have cl2 : ∀ {Q : Int32 → ps_S → Prop}, ps_ok (ps_bd (ps_bd (qX6_copyFrom 62 26 σ) (fun _ σ10 => if ps_in (nI i) 4 = true then ps_let (265 + 2 * (nI i).toNatClampNeg) fun B13 => qX8_doAll 26 B13 σ10 else none)) (fun v14 σ15 => if v14 ≤ 0 then some (v14, σ15) else ps_bd (qX8_remember σ15) (fun _ σ18 => some (v14, σ18)))) Q → ps_ok (qX8_perform (nI i) σ) Q := by
      intro Q h
      unfold qX8_perform
      refine pz_bd' (pc_tt c1) ?_
      refine pz_e (by decide) ?_
      refine pz_rdN (k := i) (f := fun k => 265 + 2 * k) rfl hi (by decide) ?_
      refine pz_l ((hc.2.2.2.1 i hi).2 z hz).1 ?_
      refine pz_t rfl ?_
      have h2 := pz_assoc h
      obtain ⟨⟨a, s⟩, ea, ha⟩ := (pc_before hc hW.1)
      have ea' : qX6_copyFrom 62 26 σ = some (a, s) := ea
      rw [ea'] at h2 ⊢
      have h3 : ps_ok (ps_bd (if ps_in (nI i) 4 = true then ps_let (265 + 2 * (nI i).toNatClampNeg) fun B13 => qX8_doAll 26 B13 s else none) (fun v14 σ15 => if v14 ≤ 0 then some (v14, σ15) else ps_bd (qX8_remember σ15) (fun _ σ18 => some (v14, σ18)))) Q := h2
      refine pz_rdN (k := i) (f := fun k => 265 + 2 * k) rfl hi (by decide) ?_
      rw [if_pos (pz_ini hi (by decide)), nI_clamp (by omega), pz_lt] at h3
      exact h3
    have rf : ∀ τ, pg_W H x n P im tr tp fl τ → ps_ok (ps_bd (qX9_stores τ) (fun _ σ6 => qX9_tells (nI i) σ6)) (fun v υ => v = nI (sp_do H z.2.2 0 z.2.1 x).1 ∧ pg_W H (sp_do H z.2.2 0 z.2.1 x).2.2 n P im tr tp fl υ ∧ pw_c τ υ ∧ pg_was H x υ) := by
      intro τ hg
      refine pz_bd (pg_stores hW.1 hg) (fun _ σ2 h2 => ?_)
      obtain ⟨z2, k2, w2, -⟩ := h2
      refine pz_im (pg_tells (T := T + 4000) hi hz hm hW' iv (by omega) (by omega) w2) (fun v υ hv => ?_)
      obtain ⟨e, e28, w3, c3, d1, d2⟩ := hv
      exact ⟨e, w3, pw_c.tr k2.1 c3, by unfold pg_was; rw [d1, d2]; exact z2⟩
    by_cases q : (sp_do H z.2.2 0 z.2.1 x).1 = 0
    · refine pw_change (a := nI (sp_do H z.2.2 0 z.2.1 x).1) (fl' := fl) (hW'.setX hx1) hg (cl2 ?_) (fun τ hg => ?_)
      · refine pz_bd cl (fun v υ hv => ?_)
        obtain ⟨rfl, w2, rr, b⟩ := hv
        exact pz_t (by rw [q]; decide) (pz_done ⟨rfl, w2, rr⟩)
      · unfold qX9_perform
        refine pg_th hg (fun τ1 hg1 k1 => ?_)
        refine pz_bd' (pg_noT2 hi hg1.2.2.2.1 hz hs) ?_
        refine pz_t rfl ?_
        refine pz_assoc (pz_bd (rf τ1 hg1) (fun v υ hv => ?_))
        obtain ⟨rfl, w2, rr, b⟩ := hv
        exact pz_t (by rw [q]; decide) (pz_done ⟨rfl, w2, pw_c.tr k1.1 rr⟩)
    · have hq : ¬ nI (sp_do H z.2.2 0 z.2.1 x).1 ≤ 0 := nI_nle (by omega) (by omega)
      refine pw_change (a := nI (sp_do H z.2.2 0 z.2.1 x).1) (fl' := fl) ((hW'.setX hx1).push hW'.2.1) hg (cl2 ?_) (fun τ hg => ?_)
      · refine pz_bd cl (fun v υ hv => ?_)
        obtain ⟨rfl, w2, rr, b⟩ := hv
        refine pz_e hq ?_
        refine pz_bd (w2.push hW.1 hW.2.2.1.1 b) (fun _ ω hω => ?_)
        exact pz_done ⟨rfl, hω.1, rr.tr hω.2.1⟩
      · unfold qX9_perform
        refine pg_th hg (fun τ1 hg1 k1 => ?_)
        refine pz_bd' (pg_noT2 hi hg1.2.2.2.1 hz hs) ?_
        refine pz_t rfl ?_
        refine pz_assoc (pz_bd (rf τ1 hg1) (fun v υ hv => ?_))
        obtain ⟨rfl, w2, rr, b⟩ := hv
        refine pz_e hq ?_
        refine pz_bd (w2.push (hW'.setX hx1) b) (fun _ ω hω => ?_)
        exact pz_done ⟨rfl, hω.1, pw_c.tr (pw_c.tr k1.1 rr) hω.2.1⟩
theorem pw_judge {T : Nat} {σ : ps_S} {p1 p2 : Int32} (w : pw_W T σ) (hT : T ≤ 2990000) : pw_call T (qX8_judge p1 p2) (qX9_judge p1 p2) σ := by
  obtain ⟨H, x, n, P, im, tr, tp, fl, hW, hc, hg⟩ := w
  obtain ⟨t, t1, iv⟩ := hW.2.1
  have hW' := hW.mono (show T ≤ T + 4000 by omega)
  by_cases c2 : p2 < 0 ∨ 3 < p2
  · refine pw_query (a := -2) hW hc hg ?_ (fun τ hg => ?_)
    · unfold qX8_judge
      by_cases c1 : p1 < 0 ∨ 4 ≤ p1
      · refine pz_bd' (pc_tf c1) ?_
        exact pz_t rfl (pz_done ⟨rfl, pc_kp.rf _, hc.1.2.2⟩)
      · refine pz_bd' (pc_tt c1) ?_
        refine pz_e (by decide) ?_
        refine pz_bd' (pc_i0 c2) ?_
        exact pz_t rfl (pz_done ⟨rfl, pc_kp.rf _, hc.1.2.2⟩)
    · unfold qX9_judge
      refine pg_th hg (fun τ1 hg1 k1 => ?_)
      refine pz_bd' (pg_i0 (lo := 0) (hi := 3) (by decide) (by decide) c2) ?_
      exact pz_t rfl (pz_done ⟨rfl, k1⟩)
  by_cases c1 : p1 < 0 ∨ 4 ≤ p1
  · refine pw_query (a := -2) hW hc hg ?_ (fun τ hg => ?_)
    · unfold qX8_judge
      refine pz_bd' (pc_tf c1) ?_
      exact pz_t rfl (pz_done ⟨rfl, pc_kp.rf _, hc.1.2.2⟩)
    · unfold qX9_judge
      refine pg_th hg (fun τ1 hg1 k1 => ?_)
      refine pz_bd' (pg_i1 (lo := 0) (hi := 3) (by decide) (by decide) (fun hh => c2 (Or.inl hh)) (fun hh => c2 (Or.inr hh))) ?_
      refine pz_e (by decide) ?_
      refine pz_bd' (pg_noT0 c1) ?_
      exact pz_e (by decide) (pz_done ⟨rfl, k1⟩)
  obtain ⟨i, hi, rfl⟩ := pa_idx (n := 4) (by decide) c1
  cases hz : tr i with
  | none =>
    refine pw_query (a := -6) hW hc hg ?_ (fun τ hg => ?_)
    · unfold qX8_judge
      refine pz_bd' (pc_tt c1) ?_
      refine pz_e (by decide) ?_
      refine pz_bd' (pc_i1 (fun hh => c2 (Or.inl hh)) (fun hh => c2 (Or.inr hh))) ?_
      refine pz_e (by decide) ?_
      refine pz_rdN (k := i) (f := fun k => 265 + 2 * k) rfl hi (by decide) ?_
      refine pz_l ((hc.2.2.2.1 i hi).1 hz) ?_
      exact pz_e (by decide) (pz_done ⟨rfl, pc_kp.rf _, hc.1.2.2⟩)
    · unfold qX9_judge
      refine pg_th hg (fun τ1 hg1 k1 => ?_)
      refine pz_bd' (pg_i1 (lo := 0) (hi := 3) (by decide) (by decide) (fun hh => c2 (Or.inl hh)) (fun hh => c2 (Or.inr hh))) ?_
      refine pz_e (by decide) ?_
      refine pz_bd' (pg_noT1 hi hg1.2.2.2.1 hz) ?_
      exact pz_e (by decide) (pz_done ⟨rfl, k1⟩)
  | some z =>
    obtain ⟨hs, hm⟩ := hW.2.2.2.2.1 i hi z hz
    obtain ⟨a1, -, t', ht1, iv'⟩ := sp_doI (tv := z.2.2) hW.1 z.2.1 0 t x iv (by omega)
    have hx1 : pa_W1 (T + 4000) H (sp_do H z.2.2 0 z.2.1 x).2.2 := ⟨t', by omega, iv'⟩
    refine pw_change (a := if (sp_do H z.2.2 0 z.2.1 x).2.1 = true then (if p2 = 0 then -1 else if p2 = 1 then 0 else if p2 = 2 then pa_all (sp_do H z.2.2 0 z.2.1 x).2.2.1 else (sp_do H z.2.2 0 z.2.1 x).2.2.1 0) else (if p2 = 0 then nI (sp_do H z.2.2 0 z.2.1 x).1 else if p2 = 1 then 1 else if p2 = 2 then pa_all (sp_do H z.2.2 0 z.2.1 x).2.2.1 else (sp_do H z.2.2 0 z.2.1 x).2.2.1 0)) (fl' := fl) hW hg ?_ (fun τ hg => ?_)
    · unfold qX8_judge
      refine pz_bd' (pc_tt c1) ?_
      refine pz_e (by decide) ?_
      refine pz_bd' (pc_i1 (fun hh => c2 (Or.inl hh)) (fun hh => c2 (Or.inr hh))) ?_
      refine pz_e (by decide) ?_
      refine pz_rdN (k := i) (f := fun k => 265 + 2 * k) rfl hi (by decide) ?_
      refine pz_l ((hc.2.2.2.1 i hi).2 z hz).1 ?_
      refine pz_t rfl ?_
      refine pz_bd (hc.go hW.1) (fun _ σ2 g => ?_)
      refine pz_rdN (k := i) (f := fun k => 265 + 2 * k) rfl hi (by decide) ?_
      obtain ⟨y1, y2, y3, y4⟩ := (g.2.2.2.2.2.1 i hi).2 z hz
      refine pz_bd (pc_doAll (B := 44) (Or.inr rfl) hW.1 hi hm y3 y4 iv (by omega) g.1) (fun v υ hv => ?_)
      obtain ⟨rfl, gu, fr⟩ := hv
      have kp := g.2.1.tr (fr.kp (Or.inl rfl))
      have wu : pc_W H x n P im tr tp fl υ := kp.1.W gu.2.2.2 hc
      have K : pc_W H x n P im tr tp fl υ ∧ pw_r σ υ := ⟨wu, kp.2⟩
      refine pz_rdN (k := i) (f := fun k => 265 + 2 * k) rfl hi (by decide) ?_
      refine pz_l ((wu.2.2.2.1 i hi).2 z hz).2.2.1 ?_
      have gT := pc_T.of gu.1.Q
      rcases a1 with ⟨b1, b2⟩ | ⟨b1, b2⟩
      · rw [if_pos b1]
        refine pz_t (by rw [b2, Nat.zero_add]) ?_
        refine pz_sw (fun _ => pz_done ⟨rfl, K⟩) (fun _ => ?_)
        refine pz_sw (fun _ => pz_done ⟨rfl, K⟩) (fun _ => ?_)
        exact pz_sw (fun _ => pc_la gT (pz_done ⟨rfl, K⟩)) (fun _ => pc_lt gT (pz_done ⟨rfl, K⟩))
      · have hb : ¬ (sp_do H z.2.2 0 z.2.1 x).2.1 = true := by rw [b1]; decide
        rw [if_neg hb]
        refine pz_e (fun hh => by
          have := (nI_eq (by omega) (by omega)).mp hh
          omega) ?_
        refine pz_sw (fun _ => pz_done ⟨rfl, K⟩) (fun _ => ?_)
        refine pz_sw (fun _ => pz_done ⟨rfl, K⟩) (fun _ => ?_)
        exact pz_sw (fun _ => pc_la gT (pz_done ⟨rfl, K⟩)) (fun _ => pc_lt gT (pz_done ⟨rfl, K⟩))
    · unfold qX9_judge
      refine pg_th hg (fun τ1 hg1 k1 => ?_)
      refine pz_bd' (pg_i1 (lo := 0) (hi := 3) (by decide) (by decide) (fun hh => c2 (Or.inl hh)) (fun hh => c2 (Or.inr hh))) ?_
      refine pz_e (by decide) ?_
      refine pz_bd' (pg_noT2 hi hg1.2.2.2.1 hz hs) ?_
      refine pz_t rfl ?_
      refine pz_bd (pg_stores hW.1 hg1) (fun _ τ2 h2 => ?_)
      obtain ⟨z2, k2, w2, -⟩ := h2
      refine pz_bd (pg_tells (T := T + 4000) hi hz hm hW' iv (by omega) (by omega) w2) (fun v τ3 hv => ?_)
      obtain ⟨rfl, e28, w3, c3, d1, d2⟩ := hv
      have bk : ps_ok (qX9_begins τ3) (fun _ τ => τ.1 337 = τ3.1 337 ∧ τ.2.2 338 = τ3.2.2 338 ∧ τ.1 327 28 = τ3.1 327 28) := by
        have l1 : qX9_begins_2 ps_N 0 τ3 = some (nI 83, ps_rI τ3 335 (pz_cp (τ3.1 328) (τ3.1 335) 35 0 0 83)) := pz_cpI (F := qX9_begins_2) (a := fun _ x => 35 + x) (b := fun _ x => x) (fun _ => True) (fun n x σ => rfl) rfl (by decide) (fun σ k _ _ => nI_add 35 k) (fun σ k _ _ => by rw [Nat.zero_add]) (by decide) (by decide) (by decide) (by decide) (Or.inl (by decide)) (fun _ _ _ _ _ => trivial) 83 0 ps_N τ3 (by decide) (by unfold ps_N; decide) trivial
        unfold qX9_begins
        refine pz_bd' l1 ?_
        have e1 : (ps_rI τ3 335 (pz_cp (τ3.1 328) (τ3.1 335) 35 0 0 83)).1 337 = τ3.1 337 := ps_rI_ne _ _ (by decide)
        have e2 : (ps_rI τ3 335 (pz_cp (τ3.1 328) (τ3.1 335) 35 0 0 83)).1 327 = τ3.1 327 := ps_rI_ne _ _ (by decide)
        have e3 : (ps_rI τ3 335 (pz_cp (τ3.1 328) (τ3.1 335) 35 0 0 83)).2 = τ3.2 := rfl
        generalize ps_rI τ3 335 (pz_cp (τ3.1 328) (τ3.1 335) 35 0 0 83) = σ7 at e1 e2 e3 ⊢
        have l2 : qX9_begins_31 ps_N 0 σ7 = some (nI 4, ps_rD σ7 336 (pz_cp (σ7.2.2 329) (σ7.2.2 336) 0 0 0 4)) := pz_cpD (F := qX9_begins_31) (a := fun _ x => x) (b := fun _ x => x) (fun _ => True) (fun n x σ => rfl) rfl (by decide) (fun σ k _ _ => by rw [Nat.zero_add]) (fun σ k _ _ => by rw [Nat.zero_add]) (by decide) (by decide) (by decide) (by decide) (Or.inl (by decide)) (fun _ _ _ _ _ => trivial) 4 0 ps_N σ7 (by decide) (by unfold ps_N; decide) trivial
        refine pz_bd' l2 ?_
        rw [pz_lt, pz_lt, pz_lt, pz_lt, pz_lt]
        refine pz_done ⟨?_, ?_, ?_⟩
        · rw [ps_rI_ne _ _ (by decide), ps_rI_ne _ _ (by decide), ps_rI_ne _ _ (by decide), ps_rI_ne _ _ (by decide), ps_rD_1, e1]
        · rw [ps_rI_2, ps_rI_2, ps_rI_2, ps_rI_2, ps_rD_ne _ _ (by decide), e3]
        · rw [ps_rI_at, upd_ne _ _ (by decide), ps_rI_at, upd_ne _ _ (by decide), ps_rI_at, upd_ne _ _ (by decide), ps_rI_at, upd_ne _ _ (by decide), ps_rD_1, e2]
      refine pz_bd (pz_and (w3.go hW.1) bk) (fun _ τ4 h4 => ?_)
      obtain ⟨g, f1, f2, f3⟩ := h4
      refine pz_bd' g.1.all ?_
      refine pg_lt g.1 ?_
      have z4 : pg_was H x τ4 := by unfold pg_was; rw [f1, f2, d1, d2]; exact z2
      refine pz_bd (pg_intoX (F1 := qX9_isAgain_2) (F2 := qX9_isAgain_31) (cI := 337) (cD := 338) (Or.inr rfl) (Or.inr rfl) pg_isAgL1 pg_isAgL2 (hW'.setX hx1) g.2.2 z4.1 z4.2) (fun _ τ5 h5 => ?_)
      obtain ⟨i1, i2, i3, i4, i5⟩ := h5
      have K : pg_W H x n P im tr tp fl τ5 ∧ pw_c τ τ5 := ⟨i1, pw_c.tr (pw_c.tr (pw_c.tr (pw_c.tr k1.1 k2.1) c3) g.2.1.1) i2⟩
      have e28' : τ5.1 327 28 = (if (sp_do H z.2.2 0 z.2.1 x).2.1 = true then 0 else 1) := by rw [i3 327 (by decide), f3, e28]
      by_cases hb : (sp_do H z.2.2 0 z.2.1 x).2.1 = true
      · rw [if_pos hb] at e28' ⊢
        refine pz_sw (fun _ => pz_l e28' (pz_t rfl (pz_done ⟨rfl, K⟩))) (fun _ => ?_)
        refine pz_sw (fun _ => pz_l e28' (pz_done ⟨rfl, K⟩)) (fun _ => ?_)
        exact pz_sw (fun _ => pz_done ⟨rfl, K⟩) (fun _ => pz_done ⟨rfl, K⟩)
      · rw [if_neg hb] at e28' ⊢
        refine pz_sw (fun _ => pz_l e28' (pz_e (by decide) (pz_done ⟨rfl, K⟩))) (fun _ => ?_)
        refine pz_sw (fun _ => pz_l e28' (pz_done ⟨rfl, K⟩)) (fun _ => ?_)
        exact pz_sw (fun _ => pz_done ⟨rfl, K⟩) (fun _ => pz_done ⟨rfl, K⟩)
