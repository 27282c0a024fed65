/-! trays written; lists; speeds that fit -/
section WRT
variable {H : pa_H} {x : pa_X} {n : Nat} {P : Nat → pa_X} {im : pa_Im} {tr : pa_Tr} {tp : pa_Tp} {fl : Int32 × Int32} {σ0 σ τ : ps_S} {p : pa_P} {y : pa_X} {t T : Nat} {q : Int32}
theorem pg_noT0 (c : q < 0 ∨ 4 ≤ q) : qX9_noTray q σ = some (-2, σ) := by
  unfold qX9_noTray
  rw [pz_bde (pg_i0 (lo := 0) (hi := 3) (by decide) (by decide) (c.imp id (fun h => (nI_dm1 (n := 4) (by decide)).mpr h))), if_pos rfl]
theorem pg_noT1 {i : Nat} (hi : i < 4) (w : pg_Wt tr σ) (h : tr i = none) : qX9_noTray (nI i) σ = some (-6, σ) := by
  have t1 : ¬ (3 : Int32) < nI i := nI_nlt (a := 3) (b := i) (by omega) (by omega)
  unfold qX9_noTray
  rw [pz_bde (pg_i1 (lo := 0) (hi := 3) (by decide) (by decide) (nI_pos (by omega)) t1), if_neg (by decide), if_pos (pz_ini hi (by decide)), nI_clamp (by omega), pz_lt, (w i hi).1 h, if_pos rfl]
theorem pg_noT2 {i : Nat} {z : Int32 × Nat × (Nat → Int64)} (hi : i < 4) (w : pg_Wt tr σ) (h : tr i = some z) (hz : ∃ s, s < 4 ∧ z.1 = nI s) : qX9_noTray (nI i) σ = some (0, σ) := by
  have t1 : ¬ (3 : Int32) < nI i := nI_nlt (a := 3) (b := i) (by omega) (by omega)
  obtain ⟨s, hs, es⟩ := hz
  unfold qX9_noTray
  rw [pz_bde (pg_i1 (lo := 0) (hi := 3) (by decide) (by decide) (nI_pos (by omega)) t1), if_neg (by decide), if_pos (pz_ini hi (by decide)), nI_clamp (by omega), pz_lt, ((w i hi).2 z h).1, es, if_neg (nI_m1 (by omega))]
theorem pc_put {i j : Nat} {v : Int64} {s : Int32} (hj : j < 40) (h2 : σ.1 (265 + 2 * i) 2 = s) : ps_ok (qX7_put (265 + 2 * i) (nI j) v σ) (fun _ τ => τ = ps_rL σ (265 + 2 * i + 1) (vp_updL (σ.2.1 (265 + 2 * i + 1)) j (pa_cut v s))) := by
  unfold qX7_put
  refine pz_l h2 ?_
  by_cases c0 : s = 0
  · have ev : pa_cut v s = v.toInt32.toInt8.toInt32.toInt64 := by unfold pa_cut; rw [if_pos c0]
    rw [ev]
    exact pz_t c0 (pz_wrL (k := j) rfl hj (by decide) (fun τ e => pz_done e))
  · refine pz_e c0 ?_
    by_cases c1 : s = 1
    · have ev : pa_cut v s = v.toInt32.toInt16.toInt32.toInt64 := by unfold pa_cut; rw [if_neg c0, if_pos c1]
      rw [ev]
      exact pz_t c1 (pz_wrL (k := j) rfl hj (by decide) (fun τ e => pz_done e))
    · refine pz_e c1 ?_
      by_cases c2 : s = 2
      · have ev : pa_cut v s = v.toInt32.toInt64 := by unfold pa_cut; rw [if_neg c0, if_neg c1, if_pos c2]
        rw [ev]
        exact pz_t c2 (pz_wrL (k := j) rfl hj (by decide) (fun τ e => pz_done e))
      · have ev : pa_cut v s = v := by unfold pa_cut; rw [if_neg c0, if_neg c1, if_neg c2]
        rw [ev]
        exact pz_e c2 (pz_wrL (k := j) rfl hj (by decide) (fun τ e => pz_done e))
theorem pg_cut (v : Int64) (s : Int32) (σ : ps_S) : qX9_cut v s σ = some (pa_cut v s, σ) := by
  unfold qX9_cut pa_cut
  by_cases c0 : s = 0
  · rw [if_pos c0, if_pos c0]
  · rw [if_neg c0, if_neg c0]
    by_cases c1 : s = 1
    · rw [if_pos c1, if_pos c1]
    · rw [if_neg c1, if_neg c1]
      by_cases c2 : s = 2
      · rw [if_pos c2, if_pos c2]
      · rw [if_neg c2, if_neg c2]
theorem nI_40 (i j : Nat) : (40 : Int32) * nI i + nI j = nI (40 * i + j) := by
  rw [show (40 : Int32) * nI i = nI (40 * i) from nI_mul 40 i, nI_add]
def pa_vu (z : Int32 × Nat × (Nat → Int64)) (j : Nat) (v : Int64) : Int32 × Nat × (Nat → Int64) := (z.1, z.2.1, vp_updL z.2.2 j v)
/-- a place of a tray written, by the class -/
theorem pc_Wput {i j : Nat} {v : Int64} {z : Int32 × Nat × (Nat → Int64)} (hi : i < 4) (hz : tr i = some z) (w : pc_W H x n P im tr tp fl σ) (e : τ = ps_rL σ (265 + 2 * i + 1) (vp_updL (σ.2.1 (265 + 2 * i + 1)) j v)) : pc_W H x n P im (pa_trs tr i (pa_vu z j v)) tp fl τ ∧ pw_r σ τ := by
  obtain ⟨a1, a2, a3, a4⟩ := (w.2.2.2.1 i hi).2 z hz
  subst e
  refine ⟨w.setTr (fun k hk => ⟨rfl, rfl⟩) (w.2.2.2.1.set hi (fun k k1 k2 k3 k4 => ⟨rfl, ps_rL_ne _ _ (by omega)⟩) a1 a2 a3 (fun k hk => ?_)), fun k hk => ⟨rfl, ps_rL_ne _ _ (by omega), rfl⟩⟩
  rw [show 266 + 2 * i = 265 + 2 * i + 1 by omega, ps_rL_at]
  show _ = vp_updL z.2.2 j v k
  by_cases c : k = j
  · rw [c, vl_self, vl_self]
  · rw [vl_ne _ _ c, vl_ne _ _ c, show 265 + 2 * i + 1 = 266 + 2 * i by omega]
    exact a4 k hk
theorem pg_Wput {i j : Nat} {v : Int64} {z : Int32 × Nat × (Nat → Int64)} (hT : ∀ i, i < 4 → ∀ y, tr i = some y → y.2.1 ≤ 40) (hi : i < 4) (hj : j < 40) (hz : tr i = some z) (w : pg_W H x n P im tr tp fl σ) (e : τ = ps_rL σ 344 (vp_updL (σ.2.1 344) (40 * i + j) v)) : pg_W H x n P im (pa_trs tr i (pa_vu z j v)) tp fl τ ∧ pw_c σ τ := by
  obtain ⟨a1, a2, a3⟩ := (w.2.2.2.1 i hi).2 z hz
  subst e
  refine ⟨w.setTr (fun k hk => rfl) rfl (fun j _ => rfl) (w.2.2.2.1.set hT (hT i hi z hz) hi (fun j _ => ⟨rfl, rfl⟩) (fun k hk => ?_) a1 a2 (fun k hk => ?_)), fun k hk => ⟨rfl, ps_rL_ne _ _ (by omega), rfl⟩⟩
  · rw [ps_rL_at, vl_ne _ _ (by omega)]
  · rw [ps_rL_at]
    show _ = vp_updL z.2.2 j v k
    by_cases c : k = j
    · rw [c, vl_self, vl_self]
    · rw [vl_ne _ _ c, vl_ne _ _ (by omega)]
      exact a3 k hk
end WRT
theorem pw_write {T : Nat} {σ : ps_S} {p1 p2 : Int32} {p3 : Int64} (w : pw_W T σ) : pw_call T (qX8_write p1 p2 p3) (qX9_write p1 p2 p3) σ := by
  obtain ⟨H, x, n, P, im, tr, tp, fl, hW, hc, hg⟩ := w
  have hT40 : ∀ i, i < 4 → ∀ y, tr i = some y → y.2.1 ≤ 40 := fun i hi y hy => (hW.2.2.2.2.1 i hi y hy).2
  by_cases c1 : p1 < 0 ∨ 4 ≤ p1
  · refine pw_query (a := -2) hW hc hg ?_ (fun τ hg => ?_)
    · unfold qX8_write
      refine pz_bd' (pc_tf c1) ?_
      exact pz_t rfl (pz_done ⟨rfl, pc_kp.rf _, hc.1.2.2⟩)
    · unfold qX9_write
      refine pg_th hg (fun τ1 hg1 k1 => ?_)
      refine pz_bd' (pg_noT0 c1) ?_
      exact pz_e (by decide) (pz_done ⟨by decide, k1⟩)
  obtain ⟨i, hi, rfl⟩ := pa_idx (n := 4) (by decide) c1
  cases hz : tr i with
  | none =>
    refine pw_query (a := -6) hW hc hg ?_ (fun τ hg => ?_)
    · unfold qX8_write
      refine pz_bd' (pc_tt c1) ?_
      refine pz_e (by decide) ?_
      refine pz_rdN (k := i) (f := fun k => 265 + 2 * k) rfl hi (by decide) ?_
      refine pz_l ((hc.2.2.2.1 i hi).1 hz) ?_
      exact pz_e (by decide) (pz_done ⟨rfl, pc_kp.rf _, hc.1.2.2⟩)
    · unfold qX9_write
      refine pg_th hg (fun τ1 hg1 k1 => ?_)
      refine pz_bd' (pg_noT1 hi hg1.2.2.2.1 hz) ?_
      exact pz_e (by decide) (pz_done ⟨by decide, k1⟩)
  | some z =>
    obtain ⟨hs, hm⟩ := hW.2.2.2.2.1 i hi z hz
    obtain ⟨a1, a2, a3, a4⟩ := (hc.2.2.2.1 i hi).2 z hz
    by_cases c2 : p2 < 0 ∨ nI z.2.1 - 1 < p2
    · refine pw_query (a := -7) hW hc hg ?_ (fun τ hg => ?_)
      · unfold qX8_write
        refine pz_bd' (pc_tt c1) ?_
        refine pz_e (by decide) ?_
        refine pz_rdN (k := i) (f := fun k => 265 + 2 * k) rfl hi (by decide) ?_
        refine pz_l a1 ?_
        refine pz_t rfl ?_
        refine pz_rdN (k := i) (f := fun k => 265 + 2 * k) rfl hi (by decide) ?_
        refine pz_l a3 ?_
        refine pz_bd' (pc_i0 c2) ?_
        exact pz_t rfl (pz_done ⟨rfl, pc_kp.rf _, hc.1.2.2⟩)
      · unfold qX9_write
        refine pg_th hg (fun τ1 hg1 k1 => ?_)
        refine pz_bd' (pg_noT2 hi hg1.2.2.2.1 hz hs) ?_
        refine pz_t rfl ?_
        refine pz_rd (k := i) rfl hi (by decide) ((hg1.2.2.2.1 i hi).2 z hz).2.1 ?_
        refine pz_bd' (pg_i0 (lo := 0) (hi := nI z.2.1 - 1) (by decide) rfl c2) ?_
        exact pz_t rfl (pz_done ⟨rfl, k1⟩)
    · obtain ⟨j, hj, rfl⟩ := pa_idx (n := z.2.1) (by omega) (fun h => c2 (h.imp id (fun hh => (nI_dm1 (by omega)).mpr hh)))
      refine pw_change (a := pa_cut p3 z.1) (fl' := fl) (hW.setTr (i := i) (y := pa_vu z j (pa_cut p3 z.1)) hs hm) hg ?_ (fun τ hg => ?_)
      · unfold qX8_write
        refine pz_bd' (pc_tt c1) ?_
        refine pz_e (by decide) ?_
        refine pz_rdN (k := i) (f := fun k => 265 + 2 * k) rfl hi (by decide) ?_
        refine pz_l a1 ?_
        refine pz_t rfl ?_
        refine pz_rdN (k := i) (f := fun k => 265 + 2 * k) rfl hi (by decide) ?_
        refine pz_l a3 ?_
        refine pz_bd' (pc_i1 (fun hh => c2 (Or.inl hh)) (fun hh => c2 (Or.inr hh))) ?_
        refine pz_e (by decide) ?_
        refine pz_rdN (k := i) (f := fun k => 265 + 2 * k) rfl hi (by decide) ?_
        refine pz_bd (pc_put (j := j) (by omega) a2) (fun _ τ e => ?_)
        refine pz_rdN (k := i) (f := fun k => 265 + 2 * k) rfl hi (by decide) ?_
        refine pz_rdL (k := j) rfl (by omega) (by decide) (w := pa_cut p3 z.1) (by rw [e, ps_rL_at, vl_self]) ?_
        exact pz_done ⟨rfl, pc_Wput hi hz hc e⟩
      · unfold qX9_write
        refine pg_th hg (fun τ1 hg1 k1 => ?_)
        refine pz_bd' (pg_noT2 hi hg1.2.2.2.1 hz hs) ?_
        refine pz_t rfl ?_
        refine pz_rd (k := i) rfl hi (by decide) ((hg1.2.2.2.1 i hi).2 z hz).2.1 ?_
        refine pz_bd' (pg_i1 (lo := 0) (hi := nI z.2.1 - 1) (by decide) rfl (fun hh => c2 (Or.inl hh)) (fun hh => c2 (Or.inr hh))) ?_
        refine pz_e (by decide) ?_
        refine pz_rd (k := i) rfl hi (by decide) ((hg1.2.2.2.1 i hi).2 z hz).1 ?_
        refine pz_bd' (pg_cut p3 z.1 τ1) ?_
        refine pz_wrL (k := 40 * i + j) (nI_40 i j) (by omega) (by decide) (fun τ2 e => ?_)
        refine pz_rdL (k := 40 * i + j) (nI_40 i j) (by omega) (by decide) (w := pa_cut p3 z.1) (by rw [e, ps_rL_at, vl_self]) ?_
        obtain ⟨b1, b2⟩ := pg_Wput hT40 hi (show j < 40 by omega) hz hg1 e
        exact pz_done ⟨rfl, b1, pw_c.tr k1.1 b2⟩
