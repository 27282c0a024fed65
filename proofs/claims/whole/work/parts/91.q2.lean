/-! questions of what comes -/
section Q2
variable {T : Nat} {σ : ps_S} {p1 p2 : Int32}
theorem pw_passes (w : pw_W T σ) (hT : T ≤ 2990000) : pw_call T (qX8_passes p1) (qX9_passes p1) σ := by
  obtain ⟨H, x, n, P, im, tr, tp, fl, hW, hc, hg⟩ := w
  obtain ⟨hp, -⟩ := pa_p0I hW.1
  obtain ⟨t, t1, iv⟩ := hW.2.1
  by_cases c : p1 < 0 ∨ 999 < p1
  · refine pw_query (a := -3) hW hc hg ?_ (fun τ hg => ?_)
    · unfold qX8_passes
      refine pz_bd' (pc_i0 c) ?_
      exact pz_t rfl (pz_done ⟨rfl, pc_kp.rf _, hc.1.2.2⟩)
    · unfold qX9_passes
      refine pg_th hg (fun τ1 hg1 k1 => ?_)
      refine pz_bd' (pg_i0 (lo := 0) (hi := 999) (by decide) (by decide) c) ?_
      exact pz_t rfl (pz_done ⟨rfl, k1⟩)
  · refine pw_query (a := sp_f H (pa_p0 H.1) (fun y => !decide (pa_all y.1 ≤ p1)) 0 1000 x) hW hc hg ?_ (fun τ hg => ?_)
    · unfold qX8_passes
      refine pz_bd' (pc_i1 (fun hh => c (Or.inl hh)) (fun hh => c (Or.inr hh))) ?_
      refine pz_e (by decide) ?_
      refine pz_bd (hc.go hW.1) (fun _ τ g => ?_)
      refine pz_bd (pc_passL hW.1 hp 1000 0 ps_N t τ x (by decide) (by unfold ps_N; decide) iv (by omega) g) (fun z υ hz => ?_)
      exact pz_res hz.1 hz.2
    · unfold qX9_passes
      refine pg_th hg (fun τ1 hg1 k1 => ?_)
      refine pz_bd' (pg_i1 (lo := 0) (hi := 999) (by decide) (by decide) (fun hh => c (Or.inl hh)) (fun hh => c (Or.inr hh))) ?_
      refine pz_e (by decide) ?_
      refine pz_bd (hg1.go hW.1) (fun _ τ2 g => ?_)
      refine pz_bd (pg_passL hW.1 hp 1000 0 ps_N t τ2 x (by decide) (by unfold ps_N; decide) iv (by omega) g) (fun z υ hz => ?_)
      exact pz_res hz.1 (k1.tr hz.2)
theorem pw_drains (w : pw_W T σ) (hT : T ≤ 2990000) : pw_call T qX8_drains qX9_drains σ := by
  obtain ⟨H, x, n, P, im, tr, tp, fl, hW, hc, hg⟩ := w
  obtain ⟨hp, -⟩ := pa_p0I hW.1
  obtain ⟨t, t1, iv⟩ := hW.2.1
  have hp' : pa_PI H.1 (H.1 10, -1, -1, 1) := hp
  refine pw_query (a := sp_f H (H.1 10, -1, -1, 1) (fun y => decide (pa_all y.1 = 0)) 0 1000 x) hW hc hg ?_ (fun τ hg => ?_)
  · unfold qX8_drains
    refine pz_bd (hc.go hW.1) (fun _ τ g => ?_)
    rw [pz_lt]
    have g2 : pc_Y H x n P im tr tp fl σ (H.1 10, -1, -1, 1) (ps_rI τ 44 (upd (τ.1 44) 13 1)) x := g.to g.1.1.set13 (pc_fb.I _ 0 _ (by decide))
    refine pz_bd (pc_drainL hW.1 hp' 1000 0 ps_N t _ x (by decide) (by unfold ps_N; decide) iv (by omega) g2) (fun z υ hz => ?_)
    exact pz_res hz.1 hz.2
  · unfold qX9_drains
    refine pg_th hg (fun τ1 hg1 k1 => ?_)
    refine pz_bd (hg1.go hW.1) (fun _ τ2 g => ?_)
    rw [pz_lt]
    have g2 : pg_Y H x n P im tr tp fl τ1 (H.1 10, -1, -1, 1) (ps_rI τ2 327 (upd (τ2.1 327) 25 0)) x := by
      refine g.to ?_ g.1.2.1 ?_ (pg_kp.F _ _ (by decide))
      · rw [← g.1.1]
        unfold pg_r pg_f
        rw [ps_rI_at, ps_rI_ne _ _ (by decide), upd_ne _ _ (by decide), upd_ne _ _ (by decide)]
      · obtain ⟨q1, q2, q3, q4⟩ := g.1.2.2.2.1
        refine ⟨?_, fun d hd => ?_, ?_, ?_⟩
        · rw [ps_rI_at, upd_ne _ _ (by decide)]; exact q1
        · rw [ps_rI_at, upd_ne _ _ (by decide)]; exact q2 d hd
        · rw [ps_rI_at, upd_ne _ _ (by decide)]; exact q3
        · rw [ps_rI_at, upd_self]
          exact ⟨fun h => absurd (show (1 : Int32) = 0 from h) (by decide), fun h => absurd rfl h⟩
    refine pz_bd (pg_drainL hW.1 hp' 1000 0 ps_N t _ x (by decide) (by unfold ps_N; decide) iv (by omega) g2) (fun z υ hz => ?_)
    exact pz_res hz.1 (k1.tr hz.2)
theorem pw_oldest (w : pw_W T σ) (hT : T ≤ 2990000) : pw_call T (qX8_oldest p1) (qX9_oldest p1) σ := by
  obtain ⟨H, x, n, P, im, tr, tp, fl, hW, hc, hg⟩ := w
  obtain ⟨hp, -⟩ := pa_p0I hW.1
  obtain ⟨t, t1, iv⟩ := hW.2.1
  by_cases c : p1 < 1 ∨ 999 < p1
  · refine pw_query (a := -3) hW hc hg ?_ (fun τ hg => ?_)
    · unfold qX8_oldest
      refine pz_bd' (pc_i0 c) ?_
      exact pz_t rfl (pz_done ⟨rfl, pc_kp.rf _, hc.1.2.2⟩)
    · unfold qX9_oldest
      refine pg_th hg (fun τ1 hg1 k1 => ?_)
      refine pz_bd' (pg_i0 (lo := 1) (hi := 999) (by decide) (by decide) c) ?_
      exact pz_t rfl (pz_done ⟨rfl, k1⟩)
  · obtain ⟨m, m1, m2, rfl⟩ := pa_num 1 999 (by decide) (by decide) c
    refine pw_query (a := sp_ol H (pa_p0 H.1) m (-1) x) hW hc hg ?_ (fun τ hg => ?_)
    · unfold qX8_oldest
      refine pz_bd' (pc_i1 (fun hh => c (Or.inl hh)) (fun hh => c (Or.inr hh))) ?_
      refine pz_e (by decide) ?_
      refine pz_bd (hc.go hW.1) (fun _ τ g => ?_)
      refine pz_bd (pc_oldT hW.1 hp m2 m 0 ps_N t (-1) τ x (by omega) (by unfold ps_N; omega) (by decide) iv (by omega) g) (fun z υ hz => ?_)
      obtain ⟨rfl, hz⟩ := hz
      exact pz_done ⟨rfl, hz⟩
    · unfold qX9_oldest
      refine pg_th hg (fun τ1 hg1 k1 => ?_)
      refine pz_bd' (pg_i1 (lo := 1) (hi := 999) (by decide) (by decide) (fun hh => c (Or.inl hh)) (fun hh => c (Or.inr hh))) ?_
      refine pz_e (by decide) ?_
      refine pz_bd (hg1.go hW.1) (fun _ τ2 g => ?_)
      refine pz_bd (pg_oldT hW.1 hp m2 m 0 ps_N t (-1) τ2 x (by omega) (by unfold ps_N; omega) iv (by omega) g) (fun z υ hz => ?_)
      obtain ⟨rfl, hz⟩ := hz
      exact pz_done ⟨rfl, k1.tr hz⟩
theorem pw_starved (w : pw_W T σ) (hT : T ≤ 2990000) : pw_call T (qX8_starved p1 p2) (qX9_starved p1 p2) σ := by
  obtain ⟨H, x, n, P, im, tr, tp, fl, hW, hc, hg⟩ := w
  obtain ⟨hp, -⟩ := pa_p0I hW.1
  obtain ⟨t, t1, iv⟩ := hW.2.1
  have hD := hW.1.1.1.2
  by_cases c : p1 < 0 ∨ nI H.2.1 ≤ p1
  · refine pw_query (a := -2) hW hc hg ?_ (fun τ hg => ?_)
    · unfold qX8_starved
      refine pz_bd' (pc_dev0 hW.1 hc.hH c) ?_
      exact pz_t rfl (pz_done ⟨rfl, pc_kp.rf _, hc.1.2.2⟩)
    · unfold qX9_starved
      refine pg_th hg (fun τ1 hg1 k1 => ?_)
      refine pz_bd' (pg_dev0 hW.1 hg1 c) ?_
      exact pz_t rfl (pz_done ⟨rfl, k1⟩)
  · obtain ⟨d, hd, rfl⟩ := pa_idx (by omega) c
    by_cases c2 : p2 < 1 ∨ 999 < p2
    · refine pw_query (a := -3) hW hc hg ?_ (fun τ hg => ?_)
      · unfold qX8_starved
        refine pz_bd' (pc_dev1 hW.1 hc.hH c) ?_
        refine pz_e (by decide) ?_
        refine pz_bd' (pc_i0 c2) ?_
        exact pz_t rfl (pz_done ⟨rfl, pc_kp.rf _, hc.1.2.2⟩)
      · unfold qX9_starved
        refine pg_th hg (fun τ1 hg1 k1 => ?_)
        refine pz_bd' (pg_dev1 hW.1 hg1 c) ?_
        refine pz_e (by decide) ?_
        refine pz_bd' (pg_i0 (lo := 1) (hi := 999) (by decide) (by decide) c2) ?_
        exact pz_t rfl (pz_done ⟨rfl, k1⟩)
    · obtain ⟨m, m1, m2, rfl⟩ := pa_num 1 999 (by decide) (by decide) c2
      refine pw_query (a := sp_sv H (pa_p0 H.1) d m 0 x) hW hc hg ?_ (fun τ hg => ?_)
      · unfold qX8_starved
        refine pz_bd' (pc_dev1 hW.1 hc.hH c) ?_
        refine pz_e (by decide) ?_
        refine pz_bd' (pc_i1 (fun hh => c2 (Or.inl hh)) (fun hh => c2 (Or.inr hh))) ?_
        refine pz_e (by decide) ?_
        refine pz_bd (hc.go hW.1) (fun _ τ g => ?_)
        refine pz_bd (pc_stL hW.1 hp m2 (show d < 4 by omega) m 0 ps_N t 0 τ x (by omega) (by unfold ps_N; omega) iv (by omega) g) (fun z υ hz => ?_)
        obtain ⟨rfl, hz⟩ := hz
        exact pz_done ⟨rfl, hz⟩
      · unfold qX9_starved
        refine pg_th hg (fun τ1 hg1 k1 => ?_)
        refine pz_bd' (pg_dev1 hW.1 hg1 c) ?_
        refine pz_e (by decide) ?_
        refine pz_bd' (pg_i1 (lo := 1) (hi := 999) (by decide) (by decide) (fun hh => c2 (Or.inl hh)) (fun hh => c2 (Or.inr hh))) ?_
        refine pz_e (by decide) ?_
        refine pz_bd (hg1.go hW.1) (fun _ τ2 g => ?_)
        refine pz_bd (pg_stL hW.1 hp m2 (show d < 4 by omega) m 0 ps_N t 0 τ2 x (by omega) (by unfold ps_N; omega) iv (by omega) g) (fun z υ hz => ?_)
        obtain ⟨rfl, hz⟩ := hz
        exact pz_done ⟨rfl, k1.tr hz⟩
theorem pw_written (w : pw_W T σ) (hT : T ≤ 2990000) : pw_call T (qX8_written p1 p2) (qX9_written p1 p2) σ := by
  obtain ⟨H, x, n, P, im, tr, tp, fl, hW, hc, hg⟩ := w
  obtain ⟨hp, -⟩ := pa_p0I hW.1
  obtain ⟨t, t1, iv⟩ := hW.2.1
  have hD := hW.1.1.1.2
  by_cases c : p1 < 0 ∨ nI H.2.1 ≤ p1
  · refine pw_query (a := -2) hW hc hg ?_ (fun τ hg => ?_)
    · unfold qX8_written
      refine pz_bd' (pc_dev0 hW.1 hc.hH c) ?_
      exact pz_t rfl (pz_done ⟨rfl, pc_kp.rf _, hc.1.2.2⟩)
    · unfold qX9_written
      refine pg_th hg (fun τ1 hg1 k1 => ?_)
      refine pz_bd' (pg_dev0 hW.1 hg1 c) ?_
      exact pz_t rfl (pz_done ⟨rfl, k1⟩)
  · obtain ⟨d, hd, rfl⟩ := pa_idx (by omega) c
    have hd4 : d < 4 := by omega
    by_cases c2 : p2 < 1 ∨ 9999 < p2
    · refine pw_query (a := -3) hW hc hg ?_ (fun τ hg => ?_)
      · unfold qX8_written
        refine pz_bd' (pc_dev1 hW.1 hc.hH c) ?_
        refine pz_e (by decide) ?_
        refine pz_bd' (pc_i0 c2) ?_
        exact pz_t rfl (pz_done ⟨rfl, pc_kp.rf _, hc.1.2.2⟩)
      · unfold qX9_written
        refine pg_th hg (fun τ1 hg1 k1 => ?_)
        refine pz_bd' (pg_dev1 hW.1 hg1 c) ?_
        refine pz_e (by decide) ?_
        refine pz_bd' (pg_i0 (lo := 1) (hi := 9999) (by decide) (by decide) c2) ?_
        exact pz_t rfl (pz_done ⟨rfl, k1⟩)
    · obtain ⟨m, m1, m2, rfl⟩ := pa_num 1 9999 (by decide) (by decide) c2
      obtain ⟨b, b1, b2, b3⟩ := pa_IB.at iv.2.2.2.2.1 hd4
      refine pw_query (a := sp_g H (pa_p0 H.1) (fun y => !decide (y.1 (45 + d) < nI (b + m))) 1 999 x) hW hc hg ?_ (fun τ hg => ?_)
      · unfold qX8_written
        refine pz_bd' (pc_dev1 hW.1 hc.hH c) ?_
        refine pz_e (by decide) ?_
        refine pz_bd' (pc_i1 (fun hh => c2 (Or.inl hh)) (fun hh => c2 (Or.inr hh))) ?_
        refine pz_e (by decide) ?_
        refine pz_bd (hc.go hW.1) (fun _ τ g => ?_)
        refine pc_l8 g.2.2.T hd4 rfl ?_
        rw [b1, pz_lt, nI_add]
        refine pz_bd (pc_wroteL hW.1 hp hd4 999 1 ps_N t τ x (by decide) (by unfold ps_N; decide) iv (by omega) g) (fun z υ hz => ?_)
        exact pz_res hz.1 hz.2
      · unfold qX9_written
        refine pg_th hg (fun τ1 hg1 k1 => ?_)
        refine pz_bd' (pg_dev1 hW.1 hg1 c) ?_
        refine pz_e (by decide) ?_
        refine pz_bd' (pg_i1 (lo := 1) (hi := 9999) (by decide) (by decide) (fun hh => c2 (Or.inl hh)) (fun hh => c2 (Or.inr hh))) ?_
        refine pz_e (by decide) ?_
        refine pz_bd (hg1.go hW.1) (fun _ τ2 g => ?_)
        refine pg_l g.1 (k := 45 + d) (by omega) (by omega) (by omega) (pz_a45 d) ?_
        rw [b1]
        refine pz_bd (pg_wroteL hW.1 hp hd4 (by omega) (by omega) 999 1 ps_N t τ2 x (by decide) (by unfold ps_N; decide) iv (by omega) g) (fun z υ hz => ?_)
        exact pz_res hz.1 (k1.tr hz.2)
/-- a whole row of ticks -/
theorem pc_goOn {H : pa_H} {x : pa_X} {n : Nat} {P : Nat → pa_X} {im : pa_Im} {tr : pa_Tr} {tp : pa_Tp} {fl : Int32 × Int32} {t m : Nat} (hI : pa_WH H) (hc : pc_W H x n P im tr tp fl σ) (iv : pa_V H t x) (ht : t + m ≤ 3000000) (hm : m ≤ 999) : ps_ok (qX8_goOn (nI m) σ) (fun _ τ => pc_Y H x n P im tr tp fl σ (pa_p0 H.1) τ (pa_tks H (pa_p0 H.1) m x)) := by
  obtain ⟨hp, -⟩ := pa_p0I hI
  unfold qX8_goOn
  refine pz_bd (hc.go hI) (fun _ τ g => ?_)
  exact pz_bd (g.run hI hp iv ht hm) (fun _ υ gu => pz_done gu)
theorem pw_held (w : pw_W T σ) (hT : T ≤ 2990000) : pw_call T (qX8_held p1) (qX9_held p1) σ := by
  obtain ⟨H, x, n, P, im, tr, tp, fl, hW, hc, hg⟩ := w
  obtain ⟨hp, -⟩ := pa_p0I hW.1
  obtain ⟨t, t1, iv⟩ := hW.2.1
  by_cases c : p1 < 1 ∨ 999 < p1
  · refine pw_query (a := -3) hW hc hg ?_ (fun τ hg => ?_)
    · unfold qX8_held
      refine pz_bd' (pc_i0 c) ?_
      exact pz_t rfl (pz_done ⟨rfl, pc_kp.rf _, hc.1.2.2⟩)
    · unfold qX9_held
      refine pg_th hg (fun τ1 hg1 k1 => ?_)
      refine pz_bd' (pg_i0 (lo := 1) (hi := 999) (by decide) (by decide) c) ?_
      exact pz_t rfl (pz_done ⟨rfl, k1⟩)
  · obtain ⟨m, m1, m2, rfl⟩ := pa_num 1 999 (by decide) (by decide) c
    refine pw_query (a := pa_sum (pa_tks H (pa_p0 H.1) m x).1 77 6 - pa_sum x.1 77 6) hW hc hg ?_ (fun τ hg => ?_)
    · unfold qX8_held
      refine pz_bd' (pc_i1 (fun hh => c (Or.inl hh)) (fun hh => c (Or.inr hh))) ?_
      refine pz_e (by decide) ?_
      refine pz_bd (pc_goOn hW.1 hc iv (by omega) m2) (fun _ τ g => ?_)
      refine pz_bd (pc_heldAll g.1.1) (fun v τ' ev => ?_)
      obtain ⟨rfl, rfl⟩ := ev
      refine pz_bd (pc_heldAll g.2.2.1.1) (fun v τ' ev => ?_)
      obtain ⟨rfl, rfl⟩ := ev
      exact pz_done ⟨rfl, g.K⟩
    · unfold qX9_held
      refine pg_th hg (fun τ1 hg1 k1 => ?_)
      refine pz_bd' (pg_i1 (lo := 1) (hi := 999) (by decide) (by decide) (fun hh => c (Or.inl hh)) (fun hh => c (Or.inr hh))) ?_
      refine pz_e (by decide) ?_
      refine pz_bd (hg1.go hW.1) (fun _ τ2 g => ?_)
      have s1 : qX9_sumOf 77 6 τ2 = some (pa_sum x.1 77 6, τ2) := g.1.sum (a := 77) (n := 6) (by omega) (by omega) (by omega)
      refine pz_bd' s1 ?_
      refine pz_bd (g.ticks hW.1 hp iv (by omega) m2) (fun _ τ3 g3 => ?_)
      have s2 : qX9_sumOf 77 6 τ3 = some (pa_sum (pa_tks H (pa_p0 H.1) m x).1 77 6, τ3) := g3.1.sum (a := 77) (n := 6) (by omega) (by omega) (by omega)
      refine pz_bd' s2 ?_
      exact pz_done ⟨rfl, k1.tr g3.2.1⟩
theorem pa_fl4 {r : pa_R} : pa_all r - pa_sum r 1 12 = pa_sum r 29 4 := by
  unfold pa_all
  rw [Int32.add_comm, Int32.add_sub_cancel]
theorem pw_later (w : pw_W T σ) (hT : T ≤ 2990000) : pw_call T (qX8_later p1 p2) (qX9_later p1 p2) σ := by
  obtain ⟨H, x, n, P, im, tr, tp, fl, hW, hc, hg⟩ := w
  obtain ⟨hp, -⟩ := pa_p0I hW.1
  obtain ⟨t, t1, iv⟩ := hW.2.1
  by_cases c : p2 < 0 ∨ 4 < p2
  · refine pw_query (a := -2) hW hc hg ?_ (fun τ hg => ?_)
    · unfold qX8_later
      refine pz_bd' (pc_i0 c) ?_
      exact pz_t rfl (pz_done ⟨rfl, pc_kp.rf _, hc.1.2.2⟩)
    · unfold qX9_later
      refine pg_th hg (fun τ1 hg1 k1 => ?_)
      refine pz_bd' (pg_i0 (lo := 0) (hi := 4) (by decide) (by decide) c) ?_
      exact pz_t rfl (pz_done ⟨rfl, k1⟩)
  · by_cases c2 : p1 < 0 ∨ 999 < p1
    · refine pw_query (a := -3) hW hc hg ?_ (fun τ hg => ?_)
      · unfold qX8_later
        refine pz_bd' (pc_i1 (fun hh => c (Or.inl hh)) (fun hh => c (Or.inr hh))) ?_
        refine pz_e (by decide) ?_
        refine pz_bd' (pc_i0 c2) ?_
        exact pz_t rfl (pz_done ⟨rfl, pc_kp.rf _, hc.1.2.2⟩)
      · unfold qX9_later
        refine pg_th hg (fun τ1 hg1 k1 => ?_)
        refine pz_bd' (pg_i1 (lo := 0) (hi := 4) (by decide) (by decide) (fun hh => c (Or.inl hh)) (fun hh => c (Or.inr hh))) ?_
        refine pz_e (by decide) ?_
        refine pz_bd' (pg_i0 (lo := 0) (hi := 999) (by decide) (by decide) c2) ?_
        exact pz_t rfl (pz_done ⟨rfl, k1⟩)
    · obtain ⟨m, m1, m2, rfl⟩ := pa_num 0 999 (by decide) (by decide) c2
      have iv2 := pa_V.tks (p := pa_p0 H.1) iv hW.1 hp (show t + m ≤ 3000000 by omega)
      generalize hz : pa_tks H (pa_p0 H.1) m x = z at iv2
      refine pw_query (a := if p2 = 0 then pa_all z.1 else if p2 = 1 then pa_sum z.1 1 12 else if p2 = 2 then pa_sum z.1 29 4 else if p2 = 3 then pa_sum z.1 45 4 - pa_sum x.1 45 4 else pa_sum z.1 71 6 - pa_sum x.1 71 6) hW hc hg ?_ (fun τ hg => ?_)
      · unfold qX8_later
        refine pz_bd' (pc_i1 (fun hh => c (Or.inl hh)) (fun hh => c (Or.inr hh))) ?_
        refine pz_e (by decide) ?_
        refine pz_bd' (pc_i1 (fun hh => c2 (Or.inl hh)) (fun hh => c2 (Or.inr hh))) ?_
        refine pz_e (by decide) ?_
        refine pz_bd (pc_goOn hW.1 hc iv (by omega) m2) (fun _ τ g => ?_)
        rw [hz] at g
        refine pz_sw (fun _ => pc_la g.T (pz_done ⟨rfl, g.K⟩)) (fun _ => ?_)
        refine pz_sw (fun _ => ?_) (fun _ => ?_)
        · refine pz_bd (pc_dirtyAll (σ0 := σ) hW.1 iv2.1.1 g.1.1) (fun v τ' ev => ?_)
          obtain ⟨rfl, rfl⟩ := ev
          exact pz_done ⟨rfl, g.K⟩
        refine pz_sw (fun _ => pc_la g.T ?_) (fun _ => ?_)
        · refine pz_bd (pc_dirtyAll (σ0 := σ) hW.1 iv2.1.1 g.1.1) (fun v τ' ev => ?_)
          obtain ⟨rfl, rfl⟩ := ev
          exact pz_done ⟨pa_fl4, g.K⟩
        refine pz_sw (fun _ => ?_) (fun _ => ?_)
        · refine pz_bd (pc_wroteAll g.1.1) (fun v τ' ev => ?_)
          obtain ⟨rfl, rfl⟩ := ev
          refine pz_bd (pc_wroteAll g.2.2.1.1) (fun v τ' ev => ?_)
          obtain ⟨rfl, rfl⟩ := ev
          exact pz_done ⟨rfl, g.K⟩
        refine pz_bd (pc_madeAll g.1.1) (fun v τ' ev => ?_)
        obtain ⟨rfl, rfl⟩ := ev
        refine pz_bd (pc_madeAll g.2.2.1.1) (fun v τ' ev => ?_)
        obtain ⟨rfl, rfl⟩ := ev
        exact pz_done ⟨rfl, g.K⟩
      · unfold qX9_later
        refine pg_th hg (fun τ1 hg1 k1 => ?_)
        refine pz_bd' (pg_i1 (lo := 0) (hi := 4) (by decide) (by decide) (fun hh => c (Or.inl hh)) (fun hh => c (Or.inr hh))) ?_
        refine pz_e (by decide) ?_
        refine pz_bd' (pg_i1 (lo := 0) (hi := 999) (by decide) (by decide) (fun hh => c2 (Or.inl hh)) (fun hh => c2 (Or.inr hh))) ?_
        refine pz_e (by decide) ?_
        refine pz_bd (hg1.go hW.1) (fun _ τ2 g => ?_)
        have s1 : qX9_wroteInAll τ2 = some (pa_sum x.1 45 4, τ2) := by
          have q : qX9_sumOf 45 4 τ2 = some (pa_sum x.1 45 4, τ2) := g.1.sum (a := 45) (n := 4) (by omega) (by omega) (by omega)
          unfold qX9_wroteInAll
          rw [pz_bde q]
        refine pz_bd' s1 ?_
        have s2 : qX9_sumOf 71 6 τ2 = some (pa_sum x.1 71 6, τ2) := g.1.sum (a := 71) (n := 6) (by omega) (by omega) (by omega)
        refine pz_bd' s2 ?_
        refine pz_bd (g.ticks hW.1 hp iv (by omega) m2) (fun _ τ3 g3 => ?_)
        rw [hz] at g3
        have K := k1.tr g3.2.1
        have u1 : qX9_sumOf 1 12 τ3 = some (pa_sum z.1 1 12, τ3) := g3.1.sum (a := 1) (n := 12) (by omega) (by omega) (by omega)
        have u2 : qX9_sumOf 29 4 τ3 = some (pa_sum z.1 29 4, τ3) := g3.1.sum (a := 29) (n := 4) (by omega) (by omega) (by omega)
        have u3 : qX9_wroteInAll τ3 = some (pa_sum z.1 45 4, τ3) := by
          have q : qX9_sumOf 45 4 τ3 = some (pa_sum z.1 45 4, τ3) := g3.1.sum (a := 45) (n := 4) (by omega) (by omega) (by omega)
          unfold qX9_wroteInAll
          rw [pz_bde q]
        have u4 : qX9_sumOf 71 6 τ3 = some (pa_sum z.1 71 6, τ3) := g3.1.sum (a := 71) (n := 6) (by omega) (by omega) (by omega)
        refine pz_sw (fun _ => pz_bd' g3.1.all (pz_done ⟨rfl, K⟩)) (fun _ => ?_)
        refine pz_sw (fun _ => pz_bd' u1 (pz_done ⟨rfl, K⟩)) (fun _ => ?_)
        refine pz_sw (fun _ => pz_bd' u2 (pz_done ⟨rfl, K⟩)) (fun _ => ?_)
        refine pz_sw (fun _ => pz_bd' u3 (pz_done ⟨rfl, K⟩)) (fun _ => ?_)
        exact pz_bd' u4 (pz_done ⟨rfl, K⟩)
end Q2
