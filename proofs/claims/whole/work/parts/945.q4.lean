/-! lists, speeds: the calls -/
theorem pg_i3f {q : Int32} {σ : ps_S} (c : q < 0 ∨ 4 ≤ q) : qX9_within q.toInt64 0 3 σ = some (0, σ) := pg_i0 (lo := 0) (hi := 3) (by decide) (by decide) (c.imp id (fun h => (nI_dm1 (n := 4) (by decide)).mpr h))
theorem pg_i3t {i : Nat} {σ : ps_S} (hi : i < 4) : qX9_within (nI i).toInt64 0 3 σ = some (1, σ) := pg_i1 (lo := 0) (hi := 3) (by decide) (by decide) (nI_pos (by omega)) (nI_nlt (a := 3) (b := i) (by omega) (by omega))
theorem pw_lists {T : Nat} {σ : ps_S} {p1 p2 : Int32} (w : pw_W T σ) (hT : T ≤ 2990000) : pw_call T (qX8_lists p1 p2) (qX9_lists p1 p2) σ := by
  obtain ⟨H, x, n, P, im, tr, tp, fl, hW, hc, hg⟩ := w
  have hT40 : ∀ i, i < 4 → ∀ y, tr i = some y → y.2.1 ≤ 40 := fun i hi y hy => (hW.2.2.2.2.1 i hi y hy).2
  obtain ⟨hp, -⟩ := pa_p0I hW.1
  obtain ⟨t, t1, iv⟩ := hW.2.1
  have hD := hW.1.1.1.2
  by_cases c1 : p1 < 0 ∨ 4 ≤ p1
  · refine pw_query (a := -2) hW hc hg ?_ (fun τ hg => ?_)
    · unfold qX8_lists
      refine pz_bd' (pc_tf c1) ?_
      exact pz_t rfl (pz_done ⟨rfl, pc_kp.rf _, hc.1.2.2⟩)
    · unfold qX9_lists
      refine pg_th hg (fun τ1 hg1 k1 => ?_)
      refine pz_bd' (pg_i3f c1) ?_
      exact pz_t rfl (pz_done ⟨rfl, k1⟩)
  obtain ⟨i, hi, rfl⟩ := pa_idx (n := 4) (by decide) c1
  by_cases c : p2 < 0 ∨ nI H.2.1 ≤ p2
  · refine pw_query (a := -2) hW hc hg ?_ (fun τ hg => ?_)
    · unfold qX8_lists
      refine pz_bd' (pc_tt c1) ?_
      refine pz_e (by decide) ?_
      refine pz_bd' (pc_dev0 hW.1 hc.hH c) ?_
      exact pz_t rfl (pz_done ⟨rfl, pc_kp.rf _, hc.1.2.2⟩)
    · unfold qX9_lists
      refine pg_th hg (fun τ1 hg1 k1 => ?_)
      refine pz_bd' (pg_i3t hi) ?_
      refine pz_e (by decide) ?_
      refine pz_bd' (pg_dev0 hW.1 hg1 c) ?_
      exact pz_t rfl (pz_done ⟨rfl, k1⟩)
  obtain ⟨d, hd, rfl⟩ := pa_idx (n := H.2.1) (by omega) c
  have hd4 : d < 4 := by omega
  cases hz : tr i with
  | none =>
    refine pw_query (a := -6) hW hc hg ?_ (fun τ hg => ?_)
    · unfold qX8_lists
      refine pz_bd' (pc_tt c1) ?_
      refine pz_e (by decide) ?_
      refine pz_bd' (pc_dev1 hW.1 hc.hH c) ?_
      refine pz_e (by decide) ?_
      refine pz_rdN (k := i) (f := fun k => 265 + 2 * k) rfl hi (by decide) ?_
      refine pz_l ((hc.2.2.2.1 i hi).1 hz) ?_
      exact pz_e (by decide) (pz_done ⟨rfl, pc_kp.rf _, hc.1.2.2⟩)
    · unfold qX9_lists
      refine pg_th hg (fun τ1 hg1 k1 => ?_)
      refine pz_bd' (pg_i3t hi) ?_
      refine pz_e (by decide) ?_
      refine pz_bd' (pg_dev1 hW.1 hg1 c) ?_
      refine pz_e (by decide) ?_
      refine pz_bd' (pg_noT1 hi hg1.2.2.2.1 hz) ?_
      exact pz_e (by decide) (pz_done ⟨rfl, k1⟩)
  | some z =>
    obtain ⟨hs, hm⟩ := hW.2.2.2.2.1 i hi z hz
    have e1 := pa_lz1 (H := H) (p := pa_p0 H.1) (x := x) (d := d) (z := z) z.2.1
    refine pw_change (a := nI z.2.1) (fl' := fl) (hW.setTr (i := i) (y := pa_lz H (pa_p0 H.1) x d z z.2.1) (by rw [e1.1]; exact hs) (by rw [e1.2]; exact hm)) hg ?_ (fun τ hg => ?_)
    · unfold qX8_lists
      refine pz_bd' (pc_tt c1) ?_
      refine pz_e (by decide) ?_
      refine pz_bd' (pc_dev1 hW.1 hc.hH c) ?_
      refine pz_e (by decide) ?_
      refine pz_rdN (k := i) (f := fun k => 265 + 2 * k) rfl hi (by decide) ?_
      refine pz_l ((hc.2.2.2.1 i hi).2 z hz).1 ?_
      refine pz_t rfl ?_
      refine pz_bd (hc.go hW.1) (fun _ τ g => ?_)
      have w0 : pc_W H x n P im (pa_trs tr i (pa_lz H (pa_p0 H.1) x d z 0)) tp fl τ := by
        show pc_W H x n P im (pa_trs tr i z) tp fl τ
        rw [pa_trs_id hz]
        exact g.2.2
      refine pz_bd (pc_liL hW.1 hp hd4 hi hm iv (by omega) z.2.1 0 ps_N τ (by omega) (by unfold ps_N; omega) g.2.1.2 g.1 w0) (fun _ υ hu => ?_)
      obtain ⟨a1, a2, a3, a4⟩ := (hu.1.2.2.2.1 i hi).2 _ pa_trs_at
      rw [e1.2] at a3
      refine pz_l a3 ?_
      exact pz_done ⟨rfl, hu⟩
    · unfold qX9_lists
      refine pg_th hg (fun τ1 hg1 k1 => ?_)
      refine pz_bd' (pg_i3t hi) ?_
      refine pz_e (by decide) ?_
      refine pz_bd' (pg_dev1 hW.1 hg1 c) ?_
      refine pz_e (by decide) ?_
      refine pz_bd' (pg_noT2 hi hg1.2.2.2.1 hz hs) ?_
      refine pz_t rfl ?_
      refine pz_bd (hg1.go hW.1) (fun _ τ2 g => ?_)
      have w0 : pg_W H x n P im (pa_trs tr i (pa_lz H (pa_p0 H.1) x d z 0)) tp fl τ2 := by
        show pg_W H x n P im (pa_trs tr i z) tp fl τ2
        rw [pa_trs_id hz]
        exact g.2.2
      refine pz_bd (pg_liL hW.1 hp hd4 hi hm hT40 iv (by omega) z.2.1 0 ps_N τ2 (by omega) (by unfold ps_N; omega) (pw_c.tr k1.1 g.2.1.1) g.1 w0) (fun _ υ hu => ?_)
      obtain ⟨a1, a2, a3⟩ := (hu.1.2.2.2.1 i hi).2 _ pa_trs_at
      rw [e1.2] at a2
      refine pz_rd (k := i) rfl hi (by decide) a2 ?_
      exact pz_done ⟨rfl, hu⟩
theorem pw_speeds {T : Nat} {σ : ps_S} {p1 p2 p3 : Int32} (w : pw_W T σ) (hT : T ≤ 2990000) : pw_call T (qX8_speeds p1 p2 p3) (qX9_speeds p1 p2 p3) σ := by
  obtain ⟨H, x, n, P, im, tr, tp, fl, hW, hc, hg⟩ := w
  obtain ⟨t, t1, iv⟩ := hW.2.1
  have hD := hW.1.1.1.2
  by_cases c1 : p1 < 0 ∨ 4 ≤ p1
  · refine pw_query (a := -2) hW hc hg ?_ (fun τ hg => ?_)
    · unfold qX8_speeds
      refine pz_bd' (pc_tf c1) ?_
      exact pz_t rfl (pz_done ⟨rfl, pc_kp.rf _, hc.1.2.2⟩)
    · unfold qX9_speeds
      refine pg_th hg (fun τ1 hg1 k1 => ?_)
      refine pz_bd' (pg_i3f c1) ?_
      exact pz_t rfl (pz_done ⟨rfl, k1⟩)
  obtain ⟨i, hi, rfl⟩ := pa_idx (n := 4) (by decide) c1
  by_cases c : p2 < 0 ∨ nI H.2.1 ≤ p2
  · refine pw_query (a := -2) hW hc hg ?_ (fun τ hg => ?_)
    · unfold qX8_speeds
      refine pz_bd' (pc_tt c1) ?_
      refine pz_e (by decide) ?_
      refine pz_bd' (pc_dev0 hW.1 hc.hH c) ?_
      exact pz_t rfl (pz_done ⟨rfl, pc_kp.rf _, hc.1.2.2⟩)
    · unfold qX9_speeds
      refine pg_th hg (fun τ1 hg1 k1 => ?_)
      refine pz_bd' (pg_i3t hi) ?_
      refine pz_e (by decide) ?_
      refine pz_bd' (pg_dev0 hW.1 hg1 c) ?_
      exact pz_t rfl (pz_done ⟨rfl, k1⟩)
  obtain ⟨d, hd, rfl⟩ := pa_idx (n := H.2.1) (by omega) c
  by_cases c3 : p3 < 0 ∨ 2 < p3
  · refine pw_query (a := -2) hW hc hg ?_ (fun τ hg => ?_)
    · unfold qX8_speeds
      refine pz_bd' (pc_tt c1) ?_
      refine pz_e (by decide) ?_
      refine pz_bd' (pc_dev1 hW.1 hc.hH c) ?_
      refine pz_e (by decide) ?_
      refine pz_bd' (pc_i0 c3) ?_
      exact pz_t rfl (pz_done ⟨rfl, pc_kp.rf _, hc.1.2.2⟩)
    · unfold qX9_speeds
      refine pg_th hg (fun τ1 hg1 k1 => ?_)
      refine pz_bd' (pg_i3t hi) ?_
      refine pz_e (by decide) ?_
      refine pz_bd' (pg_dev1 hW.1 hg1 c) ?_
      refine pz_e (by decide) ?_
      refine pz_bd' (pg_i0 (lo := 0) (hi := 2) (by decide) (by decide) c3) ?_
      exact pz_t rfl (pz_done ⟨rfl, k1⟩)
  have cA : ∀ {a : Int32}, ps_ok (if ps_in (nI i) 4 = true then ps_let (265 + 2 * (nI i).toNatClampNeg) (fun B12 => ps_let (σ.1 B12 1) fun v13 => if v13 = 0 then ps_let (σ.1 B12 3) fun v15 => ps_bd (qX8_isWithin v15 1 8 σ) (fun v16 σ17 => if v16 = 0 then some ((-4), σ17) else ps_bd (qX7_hasBelowZero B12 σ17) (fun v19 σ20 => if v19 = 0 then ps_bd (qX8_speeds_86 B12 (nI i) (nI d) p3 ps_N 0 ((-1)) ((-1)) 0 σ20) (fun res σ31 => match res with | (v32, v33, v34, v35) => if p3 = 0 then some (v32, σ31) else if p3 = 1 then some (v33, σ31) else some (v34, σ31)) else some ((-3), σ20))) else some ((-6), σ)) else none) (fun v τ => v = a ∧ pc_kp σ τ ∧ pc_O H.1 τ) → ps_ok (qX8_speeds (nI i) (nI d) p3 σ) (fun v τ => v = a ∧ pc_kp σ τ ∧ pc_O H.1 τ) := by
    intro a h
    unfold qX8_speeds
    refine pz_bd' (pc_tt c1) ?_
    refine pz_e (by decide) ?_
    refine pz_bd' (pc_dev1 hW.1 hc.hH c) ?_
    refine pz_e (by decide) ?_
    refine pz_bd' (pc_i1 (fun hh => c3 (Or.inl hh)) (fun hh => c3 (Or.inr hh))) ?_
    exact pz_e (by decide) h
  have gA : ∀ {a : Int32} {τ : ps_S}, pg_W H x n P im tr tp fl τ → (∀ τ1, pg_W H x n P im tr tp fl τ1 → pg_kp τ τ1 → ps_ok (ps_bd (qX9_noWrote (nI i) τ1) (fun v11 σ12 => if v11 = 0 then ps_bd (qX9_speeds_68 (nI i) (nI d) p3 v11 ps_N 0 ((-1)) ((-1)) 0 σ12) (fun res σ23 => match res with | (v24, v25, v26, v27) => if p3 = 0 then some (v24, σ23) else if p3 = 1 then some (v25, σ23) else some (v26, σ23)) else some (v11, σ12))) (fun v υ => v = a ∧ pg_kp τ υ)) → ps_ok (qX9_speeds (nI i) (nI d) p3 τ) (fun v υ => v = a ∧ pg_kp τ υ) := by
    intro a τ hg h
    unfold qX9_speeds
    refine pg_th hg (fun τ1 hg1 k1 => ?_)
    refine pz_bd' (pg_i3t hi) ?_
    refine pz_e (by decide) ?_
    refine pz_bd' (pg_dev1 hW.1 hg1 c) ?_
    refine pz_e (by decide) ?_
    refine pz_bd' (pg_i1 (lo := 0) (hi := 2) (by decide) (by decide) (fun hh => c3 (Or.inl hh)) (fun hh => c3 (Or.inr hh))) ?_
    exact pz_e (by decide) (h τ1 hg1 k1)
  cases hz : tr i with
  | none =>
    refine pw_query (a := -6) hW hc hg (cA ?_) (fun τ hg => gA hg (fun τ1 hg1 k1 => ?_))
    · refine pz_rdN (k := i) (f := fun k => 265 + 2 * k) rfl hi (by decide) ?_
      refine pz_l ((hc.2.2.2.1 i hi).1 hz) ?_
      exact pz_e (by decide) (pz_done ⟨rfl, pc_kp.rf _, hc.1.2.2⟩)
    · unfold qX9_noWrote
      have q : ps_ok (ps_bd (qX9_noTray (nI i) τ1) (fun v1 σ2 => if v1 = 0 then if ps_in (nI i) 4 = true then ps_let (σ2.1 343 (nI i).toNatClampNeg) fun v4 => ps_bd (qX9_within (((v4).toInt64)) 1 8 σ2) (fun v5 σ6 => if v5 = 0 then some ((-4), σ6) else ps_bd (qX9_noWrote_34 (nI i) v1 ps_N 0 σ6) (fun res σ15 => match res with | .inl r => some (r, σ15) | .inr _ => some (0, σ15))) else none else some (v1, σ2))) (fun v υ => v = -6 ∧ υ = τ1) := by
        refine pz_bd' (pg_noT1 hi hg1.2.2.2.1 hz) ?_
        exact pz_e (by decide) (pz_done ⟨rfl, rfl⟩)
      refine pz_bd q (fun v υ ev => ?_)
      obtain ⟨rfl, rfl⟩ := ev
      exact pz_e (by decide) (pz_done ⟨rfl, k1⟩)
  | some z =>
    obtain ⟨hs, hm⟩ := hW.2.2.2.2.1 i hi z hz
    obtain ⟨a1, a2, a3, a4⟩ := (hc.2.2.2.1 i hi).2 z hz
    -- what noWrote answers
    have nw : ∀ τ1, pg_W H x n P im tr tp fl τ1 → ps_ok (qX9_noWrote (nI i) τ1) (fun v υ => v = (if nI z.2.1 < 1 ∨ 8 < nI z.2.1 then -4 else if sp_neg z.2.2 0 z.2.1 = true then -3 else 0) ∧ υ = τ1) := by
      intro τ1 hg1
      obtain ⟨b1, b2, b3⟩ := (hg1.2.2.2.1 i hi).2 z hz
      unfold qX9_noWrote
      refine pz_bd' (pg_noT2 hi hg1.2.2.2.1 hz hs) ?_
      refine pz_t rfl ?_
      refine pz_rd (k := i) rfl hi (by decide) b2 ?_
      by_cases q : nI z.2.1 < 1 ∨ 8 < nI z.2.1
      · rw [if_pos q]
        refine pz_bd' (pg_i0 (lo := 1) (hi := 8) (by decide) (by decide) q) ?_
        exact pz_t rfl (pz_done ⟨rfl, rfl⟩)
      · rw [if_neg q]
        refine pz_bd' (pg_i1 (lo := 1) (hi := 8) (by decide) (by decide) (fun hh => q (Or.inl hh)) (fun hh => q (Or.inr hh))) ?_
        refine pz_e (by decide) ?_
        refine pz_bd (pg_negL hi hz hm hg1.2.2.2.1 z.2.1 0 ps_N (by omega) (by unfold ps_N; omega)) (fun r υ hr => ?_)
        obtain ⟨hr, rfl⟩ := hr
        rcases hr with ⟨rfl, e⟩ | ⟨⟨_, rfl⟩, e⟩
        · rw [if_pos e]; exact pz_done ⟨rfl, rfl⟩
        · rw [e]; exact pz_done ⟨rfl, rfl⟩
    by_cases q : nI z.2.1 < 1 ∨ 8 < nI z.2.1
    · refine pw_query (a := -4) hW hc hg (cA ?_) (fun τ hg => gA hg (fun τ1 hg1 k1 => ?_))
      · refine pz_rdN (k := i) (f := fun k => 265 + 2 * k) rfl hi (by decide) ?_
        refine pz_l a1 ?_
        refine pz_t rfl ?_
        refine pz_l a3 ?_
        refine pz_bd' (pc_i0 q) ?_
        exact pz_t rfl (pz_done ⟨rfl, pc_kp.rf _, hc.1.2.2⟩)
      · refine pz_bd (nw τ1 hg1) (fun v υ ev => ?_)
        obtain ⟨rfl, rfl⟩ := ev
        rw [if_pos q]
        exact pz_e (by decide) (pz_done ⟨rfl, k1⟩)
    · have neg : ps_ok (qX7_hasBelowZero (265 + 2 * i) σ) (fun v υ => v = (if sp_neg z.2.2 0 z.2.1 = true then 1 else 0) ∧ υ = σ) := by
        unfold qX7_hasBelowZero
        refine pz_bd (pc_negL hi hz hm hc.2.2.2.1 z.2.1 0 ps_N (by omega) (by unfold ps_N; omega)) (fun r υ hr => ?_)
        obtain ⟨hr, rfl⟩ := hr
        rcases hr with ⟨rfl, e⟩ | ⟨⟨_, rfl⟩, e⟩
        · rw [if_pos e]; exact pz_done ⟨rfl, rfl⟩
        · rw [e]; exact pz_done ⟨rfl, rfl⟩
      by_cases q2 : sp_neg z.2.2 0 z.2.1 = true
      · refine pw_query (a := -3) hW hc hg (cA ?_) (fun τ hg => gA hg (fun τ1 hg1 k1 => ?_))
        · refine pz_rdN (k := i) (f := fun k => 265 + 2 * k) rfl hi (by decide) ?_
          refine pz_l a1 ?_
          refine pz_t rfl ?_
          refine pz_l a3 ?_
          refine pz_bd' (pc_i1 (fun hh => q (Or.inl hh)) (fun hh => q (Or.inr hh))) ?_
          refine pz_e (by decide) ?_
          refine pz_bd neg (fun v υ ev => ?_)
          obtain ⟨rfl, rfl⟩ := ev
          rw [if_pos q2]
          exact pz_e (by decide) (pz_done ⟨rfl, pc_kp.rf _, hc.1.2.2⟩)
        · refine pz_bd (nw τ1 hg1) (fun v υ ev => ?_)
          obtain ⟨rfl, rfl⟩ := ev
          rw [if_neg q, if_pos q2]
          exact pz_e (by decide) (pz_done ⟨rfl, k1⟩)
      · refine pw_query (a := if p3 = 0 then (sp_sp (fun v => sp_fit H (pa_pd H.1 d) d z.2.2 0 z.2.1 (pa_xs x d v)) 0 1000 0 (-1) (-1)).1 else if p3 = 1 then (sp_sp (fun v => sp_fit H (pa_pd H.1 d) d z.2.2 0 z.2.1 (pa_xs x d v)) 0 1000 0 (-1) (-1)).2.1 else (sp_sp (fun v => sp_fit H (pa_pd H.1 d) d z.2.2 0 z.2.1 (pa_xs x d v)) 0 1000 0 (-1) (-1)).2.2) hW hc hg (cA ?_) (fun τ hg => gA hg (fun τ1 hg1 k1 => ?_))
        · refine pz_rdN (k := i) (f := fun k => 265 + 2 * k) rfl hi (by decide) ?_
          refine pz_l a1 ?_
          refine pz_t rfl ?_
          refine pz_l a3 ?_
          refine pz_bd' (pc_i1 (fun hh => q (Or.inl hh)) (fun hh => q (Or.inr hh))) ?_
          refine pz_e (by decide) ?_
          refine pz_bd neg (fun v υ ev => ?_)
          obtain ⟨rfl, rfl⟩ := ev
          rw [if_neg q2]
          refine pz_t rfl ?_
          refine pz_bd (pc_spL hW.1 hd hi hz hm iv (by omega) 1000 0 ps_N 0 (-1) (-1) υ (by decide) (by unfold ps_N; decide) (pc_kp.rf _) hc) (fun r ω hr => ?_)
          obtain ⟨rfl, hr⟩ := hr
          exact pz_sw (fun _ => pz_done ⟨rfl, hr⟩) (fun _ => pz_sw (fun _ => pz_done ⟨rfl, hr⟩) (fun _ => pz_done ⟨rfl, hr⟩))
        · refine pz_bd (nw τ1 hg1) (fun v υ ev => ?_)
          obtain ⟨rfl, rfl⟩ := ev
          rw [if_neg q, if_neg q2]
          refine pz_t rfl ?_
          refine pz_bd (pg_spL hW.1 hd hi hz hm iv (by omega) 1000 0 ps_N 0 (-1) (-1) υ (by decide) (by unfold ps_N; decide) (pg_kp.rf _) hg1) (fun r ω hr => ?_)
          obtain ⟨rfl, hr⟩ := hr
          have K := k1.tr hr
          exact pz_sw (fun _ => pz_done ⟨rfl, K⟩) (fun _ => pz_sw (fun _ => pz_done ⟨rfl, K⟩) (fun _ => pz_done ⟨rfl, K⟩))
