/-! chance, mean -/
theorem pg_begL {σ : ps_S} : ps_ok (qX9_begins σ) (fun _ τ => τ.2.1 = σ.2.1) := by
  have l1 : qX9_begins_2 ps_N 0 σ = some (nI 83, ps_rI σ 335 (pz_cp (σ.1 328) (σ.1 335) 35 0 0 83)) := pz_cpI (F := qX9_begins_2) (a := fun _ x => 35 + x) (b := fun _ x => x) (fun _ => True) (fun n x σ => rfl) rfl (by decide) (fun σ k _ _ => nI_add 35 k) (fun σ k _ _ => by rw [Nat.zero_add]) (by decide) (by decide) (by decide) (by decide) (Or.inl (by decide)) (fun _ _ _ _ _ => trivial) 83 0 ps_N σ (by decide) (by unfold ps_N; decide) trivial
  unfold qX9_begins
  refine pz_bd' l1 ?_
  have e : (ps_rI σ 335 (pz_cp (σ.1 328) (σ.1 335) 35 0 0 83)).2.1 = σ.2.1 := rfl
  generalize ps_rI σ 335 (pz_cp (σ.1 328) (σ.1 335) 35 0 0 83) = σ7 at e ⊢
  have l2 : qX9_begins_31 ps_N 0 σ7 = some (nI 4, ps_rD σ7 336 (pz_cp (σ7.2.2 329) (σ7.2.2 336) 0 0 0 4)) := pz_cpD (F := qX9_begins_31) (a := fun _ x => x) (b := fun _ x => x) (fun _ => True) (fun n x σ => rfl) rfl (by decide) (fun σ k _ _ => by rw [Nat.zero_add]) (fun σ k _ _ => by rw [Nat.zero_add]) (by decide) (by decide) (by decide) (by decide) (Or.inl (by decide)) (fun _ _ _ _ _ => trivial) 4 0 ps_N σ7 (by decide) (by unfold ps_N; decide) trivial
  refine pz_bd' l2 ?_
  rw [pz_lt, pz_lt, pz_lt, pz_lt, pz_lt]
  exact pz_done e
section CHANCE
variable {H : pa_H} {x : pa_X} {n : Nat} {P : Nat → pa_X} {im : pa_Im} {tr : pa_Tr} {tp : pa_Tp} {fl : Int32 × Int32} {σ : ps_S} {t : Nat}
theorem pg_lays {k q : Nat} (hI : pa_WH H) (hq : q ≤ 3) (iv : pa_V H t x) (ht : t + 30 ≤ 3000000) (w : pg_W H x n P im tr tp fl σ) : ps_ok (qX9_laysLots (nI k) (nI q) σ) (fun _ τ => pg_kp σ τ ∧ τ.2.1 327 33 = lN (sp_L H (pa_fk k) q x) ∧ τ.2.1 327 34 = lN (sp_L H pa_fa q x)) := by
  unfold qX9_laysLots
  rw [pz_lt, pz_lt]
  have k1 : pg_kp σ (ps_rL (ps_rL σ 327 (vp_updL (σ.2.1 327) 33 0)) 327 (vp_updL ((ps_rL σ 327 (vp_updL (σ.2.1 327) 33 0)).2.1 327) 34 0)) := (pg_kp.L _ _).tr (pg_kp.L _ _)
  have z1 : (ps_rL (ps_rL σ 327 (vp_updL (σ.2.1 327) 33 0)) 327 (vp_updL ((ps_rL σ 327 (vp_updL (σ.2.1 327) 33 0)).2.1 327) 34 0)).2.1 327 33 = 0 := by rw [ps_rL_at, vl_ne _ _ (by decide), ps_rL_at, vl_self]
  have z2 : (ps_rL (ps_rL σ 327 (vp_updL (σ.2.1 327) 33 0)) 327 (vp_updL ((ps_rL σ 327 (vp_updL (σ.2.1 327) 33 0)).2.1 327) 34 0)).2.1 327 34 = 0 := by rw [ps_rL_at, vl_self]
  generalize ps_rL (ps_rL σ 327 (vp_updL (σ.2.1 327) 33 0)) 327 (vp_updL ((ps_rL σ 327 (vp_updL (σ.2.1 327) 33 0)).2.1 327) 34 0) = σ2 at k1 z1 z2 ⊢
  refine pz_bd (pz_and ((k1.W w).go hI) pg_begL) (fun _ σ4 g => ?_)
  obtain ⟨g, e⟩ := g
  refine pz_bd (pg_lots (k := k) hI q 5 t 1 (pa_p0 H.1) σ4 x (by omega) hq ⟨rfl, rfl⟩ iv (by omega) g) (fun _ σ6 h => ?_)
  obtain ⟨o1, o2, o3, o4, o5, o6, o7⟩ := h
  refine pz_done ⟨k1.tr o1, ?_, ?_⟩
  · rw [o6, e, z1, Int64.zero_add, Nat.one_mul]
  · rw [o7, e, z2, Int64.zero_add, Nat.one_mul]
theorem pg_part {a b : Nat} {w : Int32} (ha : a < 2 ^ 62) (hb : b < 2 ^ 49) (h0 : 0 < b) : ps_ok (qX9_part (lN a) (lN b) w σ) (fun v τ => v = (if w = 0 then lN a / lN (Nat.gcd a b) else lN b / lN (Nat.gcd a b)).toInt32 ∧ τ = σ) := by
  have gz := gcd_nz (a := a) h0 hb
  unfold qX9_part
  by_cases c : w = 0
  · refine pz_t c ?_
    refine pz_bd' (pg_common ha hb) ?_
    exact pz_nz gz (pz_done ⟨by rw [if_pos c], rfl⟩)
  · refine pz_e c ?_
    refine pz_bd' (pg_common ha hb) ?_
    exact pz_nz gz (pz_done ⟨by rw [if_neg c], rfl⟩)
end CHANCE
theorem pw_chance {T : Nat} {σ : ps_S} {p1 p2 p3 : Int32} (w : pw_W T σ) (hT : T ≤ 2990000) : pw_call T (qX8_chance p1 p2 p3) (qX9_chance p1 p2 p3) σ := by
  obtain ⟨H, x, n, P, im, tr, tp, fl, hW, hc, hg⟩ := w
  obtain ⟨t, t1, iv⟩ := hW.2.1
  have hD := hW.1.1.1.2
  have hDe := hW.1.1.1.1
  by_cases c3 : p3 < 0 ∨ 1 < p3
  · refine pw_query (a := -2) hW hc hg ?_ (fun τ hg => ?_)
    · unfold qX8_chance
      refine pz_bd' (pc_i0 c3) ?_
      exact pz_t rfl (pz_done ⟨rfl, pc_kp.rf _, hc.1.2.2⟩)
    · unfold qX9_chance
      refine pg_th hg (fun τ1 hg1 k1 => ?_)
      refine pz_bd' (pg_i0 (lo := 0) (hi := 1) (by decide) (by decide) c3) ?_
      exact pz_t rfl (pz_done ⟨rfl, k1⟩)
  by_cases c1 : p1 < 1 ∨ 1000 < p1
  · refine pw_query (a := -3) hW hc hg ?_ (fun τ hg => ?_)
    · unfold qX8_chance
      refine pz_bd' (pc_i1 (fun hh => c3 (Or.inl hh)) (fun hh => c3 (Or.inr hh))) ?_
      refine pz_e (by decide) ?_
      refine pz_bd' (pc_i0 c1) ?_
      exact pz_t rfl (pz_done ⟨rfl, pc_kp.rf _, hc.1.2.2⟩)
    · unfold qX9_chance
      refine pg_th hg (fun τ1 hg1 k1 => ?_)
      refine pz_bd' (pg_i1 (lo := 0) (hi := 1) (by decide) (by decide) (fun hh => c3 (Or.inl hh)) (fun hh => c3 (Or.inr hh))) ?_
      refine pz_e (by decide) ?_
      refine pz_bd' (pg_i0 (lo := 1) (hi := 1000) (by decide) (by decide) c1) ?_
      exact pz_t rfl (pz_done ⟨rfl, k1⟩)
  by_cases c2 : p2 < 1 ∨ 3 < p2
  · refine pw_query (a := -3) hW hc hg ?_ (fun τ hg => ?_)
    · unfold qX8_chance
      refine pz_bd' (pc_i1 (fun hh => c3 (Or.inl hh)) (fun hh => c3 (Or.inr hh))) ?_
      refine pz_e (by decide) ?_
      refine pz_bd' (pc_i1 (fun hh => c1 (Or.inl hh)) (fun hh => c1 (Or.inr hh))) ?_
      refine pz_e (by decide) ?_
      refine pz_bd' (pc_i0 c2) ?_
      exact pz_t rfl (pz_done ⟨rfl, pc_kp.rf _, hc.1.2.2⟩)
    · unfold qX9_chance
      refine pg_th hg (fun τ1 hg1 k1 => ?_)
      refine pz_bd' (pg_i1 (lo := 0) (hi := 1) (by decide) (by decide) (fun hh => c3 (Or.inl hh)) (fun hh => c3 (Or.inr hh))) ?_
      refine pz_e (by decide) ?_
      refine pz_bd' (pg_i1 (lo := 1) (hi := 1000) (by decide) (by decide) (fun hh => c1 (Or.inl hh)) (fun hh => c1 (Or.inr hh))) ?_
      refine pz_e (by decide) ?_
      refine pz_bd' (pg_i0 (lo := 1) (hi := 3) (by decide) (by decide) c2) ?_
      exact pz_t rfl (pz_done ⟨rfl, k1⟩)
  obtain ⟨k, k1', k2', rfl⟩ := pa_num 1 1000 (by decide) (by decide) c1
  obtain ⟨q, q1, q2, rfl⟩ := pa_num 1 3 (by decide) (by decide) c2
  have hf1 : ∀ y, pa_fk k y ≤ 1 := fun y => by
    unfold pa_fk
    by_cases c : nI k ≤ pa_all y.1
    · rw [if_pos c]; omega
    · rw [if_neg c]; omega
  have bL := sp_L_le (f := pa_fk k) hD hf1 q x
  have hpw : 10 ^ q ≤ 10 ^ 3 := Nat.pow_le_pow_right (by decide) q2
  have hpp : 0 < 10 ^ q := Nat.pow_pos (by decide)
  have hbs : (H.2.1 + 1) ^ q ≤ 5 ^ 3 := Nat.le_trans (Nat.pow_le_pow_left (by omega) q) (Nat.pow_le_pow_right (by decide) q2)
  have e125 : (5 : Nat) ^ 3 = 125 := by decide
  have e1000 : (10 : Nat) ^ 3 = 1000 := by decide
  have bL' : sp_L H (pa_fk k) q x ≤ 1000 := by omega
  refine pw_query (a := (if p3 = 0 then lN (sp_L H (pa_fk k) q x) / lN (Nat.gcd (sp_L H (pa_fk k) q x) (10 ^ q)) else lN (10 ^ q) / lN (Nat.gcd (sp_L H (pa_fk k) q x) (10 ^ q))).toInt32) hW hc hg ?_ (fun τ hg => ?_)
  · unfold qX8_chance
    refine pz_bd' (pc_i1 (fun hh => c3 (Or.inl hh)) (fun hh => c3 (Or.inr hh))) ?_
    refine pz_e (by decide) ?_
    refine pz_bd' (pc_i1 (fun hh => c1 (Or.inl hh)) (fun hh => c1 (Or.inr hh))) ?_
    refine pz_e (by decide) ?_
    refine pz_bd' (pc_i1 (fun hh => c2 (Or.inl hh)) (fun hh => c2 (Or.inr hh))) ?_
    refine pz_e (by decide) ?_
    refine pz_l (hc.hH.1.2.2.2.2.2.2.2.1.trans hDe) ?_
    rw [nI_1]
    refine pz_bd (pc_power (show q < 100 by omega)) (fun v τ ev => ?_)
    obtain ⟨rfl, rfl⟩ := ev
    refine pz_bd (pc_chL (k := k) hW.1 q2 (show (H.2.1 + 1) ^ q < 2 ^ 31 by omega) iv (by omega) ((H.2.1 + 1) ^ q) 0 ps_N τ (by omega) (by unfold ps_N; omega) (pc_kp.rf _) hc) (fun z υ hz => ?_)
    obtain ⟨z1, z2⟩ := z
    obtain ⟨e1, kp, w2⟩ := hz
    rw [sp_LV] at e1
    have e1' : z1 = nI (sp_L H (pa_fk k) q x) := e1
    subst e1'
    refine pz_bd (pc_power (b := 10) (k := q) (show q < 100 by omega)) (fun v υ' ev => ?_)
    obtain ⟨rfl, rfl⟩ := ev
    rw [nI_l (by omega), nI_l (by omega)]
    refine pz_bd (pc_low (by omega) (by omega) hpp) (fun v υ2 ev => ?_)
    obtain ⟨rfl, rfl⟩ := ev
    exact pz_done ⟨rfl, kp, w2.1.2.2⟩
  · unfold qX9_chance
    refine pg_th hg (fun τ1 hg1 k1 => ?_)
    refine pz_bd' (pg_i1 (lo := 0) (hi := 1) (by decide) (by decide) (fun hh => c3 (Or.inl hh)) (fun hh => c3 (Or.inr hh))) ?_
    refine pz_e (by decide) ?_
    refine pz_bd' (pg_i1 (lo := 1) (hi := 1000) (by decide) (by decide) (fun hh => c1 (Or.inl hh)) (fun hh => c1 (Or.inr hh))) ?_
    refine pz_e (by decide) ?_
    refine pz_bd' (pg_i1 (lo := 1) (hi := 3) (by decide) (by decide) (fun hh => c2 (Or.inl hh)) (fun hh => c2 (Or.inr hh))) ?_
    refine pz_e (by decide) ?_
    refine pz_bd (pg_lays (k := k) hW.1 q2 iv (by omega) hg1) (fun _ τ2 h2 => ?_)
    obtain ⟨k2, s1, s2⟩ := h2
    refine pz_l s1 ?_
    refine pz_bd (pg_power (show q < 100 by omega)) (fun v τ3 ev => ?_)
    obtain ⟨rfl, rfl⟩ := ev
    refine pz_bd (pg_part (by omega) (by omega) hpp) (fun v τ4 ev => ?_)
    obtain ⟨rfl, rfl⟩ := ev
    exact pz_done ⟨rfl, k1.tr k2⟩
theorem sp_L_leV {H : pa_H} (hI : pa_WH H) : ∀ (q t : Nat) (y : pa_X), pa_V H t y → t + 10 * q ≤ 3000000 → sp_L H pa_fa q y ≤ 10 ^ q * 999
  | 0, t, y, iv, _ => by rw [Nat.pow_zero, Nat.one_mul]; exact (pa_faE iv).2
  | q + 1, t, y, iv, ht => by
    have hD := hI.1.1.2
    have ih := fun l => sp_L_leV hI q (t + 10) (pa_sl H l y) (iv.tks hI (pa_psI hI l) (by omega)) (by omega)
    have h1 : ∀ m, sp_su (fun l => pa_om H.2.1 l * sp_L H pa_fa q (pa_sl H l y)) m ≤ sp_su (pa_om H.2.1) m * (10 ^ q * 999) := by
      intro m
      induction m with
      | zero => exact Nat.zero_le _
      | succ m ihm =>
        rw [sp_su, sp_su, Nat.add_mul]
        exact Nat.add_le_add ihm (Nat.mul_le_mul_left _ (ih _))
    have := h1 (H.2.1 + 1)
    rw [pa_om_sum (by omega)] at this
    rw [sp_L, Nat.pow_succ, Nat.mul_comm (10 ^ q) 10, Nat.mul_assoc]
    exact this
theorem pw_mean {T : Nat} {σ : ps_S} {p1 p2 : Int32} (w : pw_W T σ) (hT : T ≤ 2990000) : pw_call T (qX8_mean p1 p2) (qX9_mean p1 p2) σ := by
  obtain ⟨H, x, n, P, im, tr, tp, fl, hW, hc, hg⟩ := w
  obtain ⟨t, t1, iv⟩ := hW.2.1
  have hD := hW.1.1.1.2
  have hDe := hW.1.1.1.1
  by_cases c3 : p2 < 0 ∨ 1 < p2
  · refine pw_query (a := -2) hW hc hg ?_ (fun τ hg => ?_)
    · unfold qX8_mean
      refine pz_bd' (pc_i0 c3) ?_
      exact pz_t rfl (pz_done ⟨rfl, pc_kp.rf _, hc.1.2.2⟩)
    · unfold qX9_mean
      refine pg_th hg (fun τ1 hg1 k1 => ?_)
      refine pz_bd' (pg_i0 (lo := 0) (hi := 1) (by decide) (by decide) c3) ?_
      exact pz_t rfl (pz_done ⟨rfl, k1⟩)
  by_cases c2 : p1 < 1 ∨ 3 < p1
  · refine pw_query (a := -3) hW hc hg ?_ (fun τ hg => ?_)
    · unfold qX8_mean
      refine pz_bd' (pc_i1 (fun hh => c3 (Or.inl hh)) (fun hh => c3 (Or.inr hh))) ?_
      refine pz_e (by decide) ?_
      refine pz_bd' (pc_i0 c2) ?_
      exact pz_t rfl (pz_done ⟨rfl, pc_kp.rf _, hc.1.2.2⟩)
    · unfold qX9_mean
      refine pg_th hg (fun τ1 hg1 k1 => ?_)
      refine pz_bd' (pg_i1 (lo := 0) (hi := 1) (by decide) (by decide) (fun hh => c3 (Or.inl hh)) (fun hh => c3 (Or.inr hh))) ?_
      refine pz_e (by decide) ?_
      refine pz_bd' (pg_i0 (lo := 1) (hi := 3) (by decide) (by decide) c2) ?_
      exact pz_t rfl (pz_done ⟨rfl, k1⟩)
  obtain ⟨q, q1, q2, rfl⟩ := pa_num 1 3 (by decide) (by decide) c2
  have bL := sp_L_leV hW.1 q t x iv (by omega)
  have hpw : 10 ^ q ≤ 10 ^ 3 := Nat.pow_le_pow_right (by decide) q2
  have hpp : 0 < 10 ^ q := Nat.pow_pos (by decide)
  have hbs : (H.2.1 + 1) ^ q ≤ 5 ^ 3 := Nat.le_trans (Nat.pow_le_pow_left (by omega) q) (Nat.pow_le_pow_right (by decide) q2)
  have e125 : (5 : Nat) ^ 3 = 125 := by decide
  have e1000 : (10 : Nat) ^ 3 = 1000 := by decide
  have bL' : sp_L H pa_fa q x ≤ 999000 := by omega
  refine pw_query (a := (if p2 = 0 then lN (sp_L H pa_fa q x) / lN (Nat.gcd (sp_L H pa_fa q x) (10 ^ q)) else lN (10 ^ q) / lN (Nat.gcd (sp_L H pa_fa q x) (10 ^ q))).toInt32) hW hc hg ?_ (fun τ hg => ?_)
  · unfold qX8_mean
    refine pz_bd' (pc_i1 (fun hh => c3 (Or.inl hh)) (fun hh => c3 (Or.inr hh))) ?_
    refine pz_e (by decide) ?_
    refine pz_bd' (pc_i1 (fun hh => c2 (Or.inl hh)) (fun hh => c2 (Or.inr hh))) ?_
    refine pz_e (by decide) ?_
    refine pz_l (hc.hH.1.2.2.2.2.2.2.2.1.trans hDe) ?_
    rw [nI_1]
    refine pz_bd (pc_power (show q < 100 by omega)) (fun v τ ev => ?_)
    obtain ⟨rfl, rfl⟩ := ev
    refine pz_bd (pc_meL hW.1 q2 (show (H.2.1 + 1) ^ q < 2 ^ 31 by omega) iv (by omega) ((H.2.1 + 1) ^ q) 0 ps_N τ (by omega) (by unfold ps_N; omega) (pc_kp.rf _) hc) (fun z υ hz => ?_)
    obtain ⟨z1, z2⟩ := z
    obtain ⟨e1, kp, w2⟩ := hz
    rw [sp_LV] at e1
    have e1' : z1 = nI (sp_L H pa_fa q x) := e1
    subst e1'
    refine pz_bd (pc_power (b := 10) (k := q) (show q < 100 by omega)) (fun v υ' ev => ?_)
    obtain ⟨rfl, rfl⟩ := ev
    rw [nI_l (by omega), nI_l (by omega)]
    refine pz_bd (pc_low (by omega) (by omega) hpp) (fun v υ2 ev => ?_)
    obtain ⟨rfl, rfl⟩ := ev
    exact pz_done ⟨rfl, kp, w2.1.2.2⟩
  · unfold qX9_mean
    refine pg_th hg (fun τ1 hg1 k1 => ?_)
    refine pz_bd' (pg_i1 (lo := 0) (hi := 1) (by decide) (by decide) (fun hh => c3 (Or.inl hh)) (fun hh => c3 (Or.inr hh))) ?_
    refine pz_e (by decide) ?_
    refine pz_bd' (pg_i1 (lo := 1) (hi := 3) (by decide) (by decide) (fun hh => c2 (Or.inl hh)) (fun hh => c2 (Or.inr hh))) ?_
    refine pz_e (by decide) ?_
    refine pz_bd (pg_lays (k := 0) hW.1 q2 iv (by omega) hg1) (fun _ τ2 h2 => ?_)
    obtain ⟨k2, s1, s2⟩ := h2
    refine pz_l s2 ?_
    refine pz_bd (pg_power (show q < 100 by omega)) (fun v τ3 ev => ?_)
    obtain ⟨rfl, rfl⟩ := ev
    refine pz_bd (pg_part (by omega) (by omega) hpp) (fun v τ4 ev => ?_)
    obtain ⟨rfl, rfl⟩ := ev
    exact pz_done ⟨rfl, k1.tr k2⟩
