/-! deeds: ticks, speed, wants, undo -/
section Q5
variable {H : pa_H} {x : pa_X} {n : Nat} {P : Nat → pa_X} {im : pa_Im} {tr : pa_Tr} {tp : pa_Tp} {fl : Int32 × Int32} {σ0 σ τ : ps_S} {y : pa_X} {t T : Nat}
theorem pc_W.G (w : pc_W H x n P im tr tp fl σ) : pc_G H.1 H.2.1 H.2.2.1 H.2.2.2 26 (pa_p0 H.1) σ x := ⟨w.1.1, w.1.2.1.1, w.1.2.1.2, w.1.2.2⟩
/-- ticks of now, by the class -/
theorem pc_nowRun {k : Nat} (hI : pa_WH H) (iv : pa_V H t x) (ht : t + k ≤ 3000000) (hk : k ≤ 999) (w : pc_W H x n P im tr tp fl σ) : ps_ok (qX0_run 26 (nI k) σ) (fun _ τ => pc_W H (pa_tks H (pa_p0 H.1) k x) n P im tr tp fl τ ∧ pw_r σ τ ∧ pc_fr 26 σ τ) := by
  obtain ⟨hp, -⟩ := pa_p0I hI
  refine pz_im (pc_run (by decide) hI.1 hI.2 hp hk iv ht w.G) (fun _ τ hτ => ?_)
  obtain ⟨a, b⟩ := w.setX hτ.2 hτ.1.1 hτ.1.2.2.2
  exact ⟨a, b, hτ.2⟩
theorem pc_nowSet2 {d : Nat} {v q : Int32} {β : Type} {Q : β → ps_S → Prop} {f : ps_S → Option (β × ps_S)} {inst : Decidable (ps_in q 4 = true)} (hI : pa_WH H) (hd : d < H.2.1) (hq : q = nI d) (w : pc_W H x n P im tr tp fl σ) (hh : ∀ τ, pc_W H (upd x.1 (25 + d) v, x.2) n P im tr tp fl τ → pw_r σ τ → pc_fr 26 σ τ → ps_ok (f τ) Q) : ps_ok (@ite _ (ps_in q 4 = true) inst (ps_let (ps_rI σ (26 + 2) (upd (σ.1 (26 + 2)) q.toNatClampNeg v)) f) none) Q := by
  have hD := hI.1.1.2
  refine pc_w2 w.T hD hd hq (fun τ g => ?_)
  have hS : pc_Ws H 26 τ (upd x.1 (25 + d) v, x.2) := g.1.S (pa_all_congr (fun k hk => (upd_ne _ _ (by omega)).symm)) (fun d hd => pa_don_congr hI.1.2.1.2 (fun k hk => (upd_ne _ _ (by omega)).symm))
  obtain ⟨a, b⟩ := w.setX g.2.fr hS (g.2.O (by decide) w.1.2.2)
  exact hh τ a b g.2.fr
theorem pc_nowSet13 {d : Nat} {v q : Int32} {β : Type} {Q : β → ps_S → Prop} {f : ps_S → Option (β × ps_S)} {inst : Decidable (ps_in q 6 = true)} (hI : pa_WH H) (hd : d < H.2.2.2) (hq : q = nI d) (w : pc_W H x n P im tr tp fl σ) (hh : ∀ τ, pc_W H (upd x.1 (53 + d) v, x.2) n P im tr tp fl τ → pw_r σ τ → pc_fr 26 σ τ → ps_ok (f τ) Q) : ps_ok (@ite _ (ps_in q 6 = true) inst (ps_let (ps_rI σ (26 + 13) (upd (σ.1 (26 + 13)) q.toNatClampNeg v)) f) none) Q := by
  have hW := hI.1.2.2.1.2
  refine pc_w13 w.T hW hd hq (fun τ g => ?_)
  have hS : pc_Ws H 26 τ (upd x.1 (53 + d) v, x.2) := g.1.S (pa_all_congr (fun k hk => (upd_ne _ _ (by omega)).symm)) (fun d hd => pa_don_congr hI.1.2.1.2 (fun k hk => (upd_ne _ _ (by omega)).symm))
  obtain ⟨a, b⟩ := w.setX g.2.fr hS (g.2.O (by decide) w.1.2.2)
  exact hh τ a b g.2.fr
theorem pg_setk {k : Nat} {v q : Int32} {β : Type} {Q : β → ps_S → Prop} {f : ps_S → Option (β × ps_S)} {inst : Decidable (ps_in q 5550 = true)} (hW : pa_W T H x n P im tr tp) (hk : pa_live H.2.1 H.2.2.2 k) (hq : q = nI (35 + k)) (w : pg_W H x n P im tr tp fl σ) (hh : ∀ τ, pg_W H (upd x.1 k v, x.2) n P im tr tp fl τ → pw_c σ τ → (∀ c, c ≠ 328 → τ.1 c = σ.1 c) → τ.2 = σ.2 → ps_ok (f τ) Q) : ps_ok (@ite _ (ps_in q 5550 = true) inst (ps_let (ps_rI σ 328 (upd (σ.1 328) q.toNatClampNeg v)) f) none) Q := by
  have h83 := hk.1
  refine pz_wr (k := 35 + k) hq (by omega) (by decide) (fun τ e => ?_)
  have o : ∀ c, c ≠ 328 → τ.1 c = σ.1 c := fun c hc => by rw [e, ps_rI_ne _ _ hc]
  have e2 : τ.2 = σ.2 := by rw [e]; rfl
  have e8 : τ.1 328 = upd (σ.1 328) (35 + k) v := by rw [e, ps_rI_at]
  refine hh τ (w.setX hW (fun j hj => by rw [e8, upd_ne _ _ (by omega)]) (fun j _ => by rw [e2]) (fun c hc => o c (by omega)) (by rw [e2]) (fun j _ => by rw [o 327 (by decide)]) ⟨?_, ?_⟩) (fun c hc => ⟨o c (by omega), by rw [e2], by rw [e2]⟩) o e2
  · show pg_nr _ _ _ _ = upd x.1 k v
    rw [← w.1.2.1]
    unfold pg_nr
    rw [← pa_can_upd hk]
    refine pa_can_ext (fun j hj => ?_)
    rw [e8]
    by_cases c : j = k
    · rw [c, upd_self, upd_self]
    · rw [upd_ne _ _ c, upd_ne _ _ (by omega)]
  · show pg_ne _ _ _ = x.2
    rw [← w.1.2.2]
    unfold pg_ne
    rw [e2]
end Q5
theorem pw_ticks {T : Nat} {σ : ps_S} {p1 : Int32} (w : pw_W T σ) (hT : T ≤ 2990000) : pw_call (T + 4000) (qX8_ticks p1) (qX9_ticks p1) σ := by
  obtain ⟨H, x, n, P, im, tr, tp, fl, hW, hc, hg⟩ := w
  obtain ⟨t, t1, iv⟩ := hW.2.1
  have hW' := hW.mono (show T ≤ T + 4000 by omega)
  by_cases c : p1 < 1 ∨ 999 < p1
  · refine pw_query (a := -3) hW' hc hg ?_ (fun τ hg => ?_)
    · unfold qX8_ticks
      refine pz_bd' (pc_i0 c) ?_
      exact pz_t rfl (pz_done ⟨rfl, pc_kp.rf _, hc.1.2.2⟩)
    · unfold qX9_ticks
      refine pg_th hg (fun τ1 hg1 k1 => ?_)
      refine pz_bd' (pg_i0 (lo := 1) (hi := 999) (by decide) (by decide) c) ?_
      exact pz_t rfl (pz_done ⟨rfl, k1⟩)
  obtain ⟨k, m1, m2, rfl⟩ := pa_num 1 999 (by decide) (by decide) c
  obtain ⟨hp, -⟩ := pa_p0I hW.1
  have hx1 : pa_W1 (T + 4000) H (pa_tks H (pa_p0 H.1) k x) := ⟨t + k, by omega, pa_V.tks iv hW.1 hp (by omega)⟩
  refine pw_change (a := pa_sum (pa_tks H (pa_p0 H.1) k x).1 45 4 - pa_sum x.1 45 4) (fl' := fl) ((hW'.setX hx1).push (hW'.2.1)) hg ?_ (fun τ hg => ?_)
  · unfold qX8_ticks
    refine pz_bd' (pc_i1 (fun hh => c (Or.inl hh)) (fun hh => c (Or.inr hh))) ?_
    refine pz_e (by decide) ?_
    refine pz_bd (pc_before hc hW.1) (fun _ σ1 h1 => ?_)
    obtain ⟨b1, k1, w1, -⟩ := h1
    refine pz_bd (pc_nowRun hW.1 iv (by omega) m2 w1) (fun _ σ2 h2 => ?_)
    obtain ⟨w2, r2, fr2⟩ := h2
    have b2 : pc_Ws H 62 σ2 x := pc_S.congr b1 (fun o ho => fr2.1 _ (by omega) (by omega)) (fr2.2.2 _ (by omega))
    refine pz_bd (w2.push hW.1 hW.2.2.1.1 b2) (fun _ σ3 h3 => ?_)
    obtain ⟨w3, r3, b3⟩ := h3
    refine pz_bd (pc_wroteAll w3.1.1) (fun v σ4 ev => ?_)
    obtain ⟨rfl, rfl⟩ := ev
    refine pz_bd (pc_wroteAll b3) (fun v σ5 ev => ?_)
    obtain ⟨rfl, rfl⟩ := ev
    exact pz_done ⟨rfl, w3, (k1.2.tr r2).tr r3⟩
  · unfold qX9_ticks
    refine pg_th hg (fun τ1 hg1 k1 => ?_)
    refine pz_bd' (pg_i1 (lo := 1) (hi := 999) (by decide) (by decide) (fun hh => c (Or.inl hh)) (fun hh => c (Or.inr hh))) ?_
    refine pz_e (by decide) ?_
    refine pz_bd (pg_stores hW.1 hg1) (fun _ τ2 h2 => ?_)
    obtain ⟨z2, k2, w2, -⟩ := h2
    refine pz_bd (pg_goesTicks hW iv (by omega) m2 w2) (fun v τ3 h3 => ?_)
    obtain ⟨rfl, w3, c3, e337, e338, -⟩ := h3
    have z3 : pg_was H x τ3 := by unfold pg_was; rw [e337, e338]; exact z2
    refine pz_bd (w3.push (hW'.setX hx1) z3) (fun _ τ4 h4 => ?_)
    exact pz_done ⟨rfl, h4.1, pw_c.tr (pw_c.tr (pw_c.tr k1.1 k2.1) c3) h4.2.1⟩
theorem pw_speed {T : Nat} {σ : ps_S} {p1 p2 : Int32} (w : pw_W T σ) : pw_call T (qX8_speed p1 p2) (qX9_speed p1 p2) σ := by
  obtain ⟨H, x, n, P, im, tr, tp, fl, hW, hc, hg⟩ := w
  obtain ⟨t, t1, iv⟩ := hW.2.1
  have hD := hW.1.1.1.2
  by_cases c : p1 < 0 ∨ nI H.2.1 ≤ p1
  · refine pw_query (a := -11) hW hc hg ?_ (fun τ hg => ?_)
    · unfold qX8_speed qX8_canTellSpeed
      refine pz_bd (Q := fun v τ => v = 0 ∧ τ = σ) ?_ (fun v τ ev => ?_)
      · refine pz_bd' (pc_dev0 hW.1 hc.hH c) ?_
        exact pz_t rfl (pz_done ⟨rfl, rfl⟩)
      · obtain ⟨rfl, rfl⟩ := ev
        exact pz_t rfl (pz_done ⟨rfl, pc_kp.rf _, hc.1.2.2⟩)
    · unfold qX9_speed
      refine pg_th hg (fun τ1 hg1 k1 => ?_)
      refine pz_bd' (pg_dev0 hW.1 hg1 c) ?_
      exact pz_t rfl (pz_done ⟨rfl, k1⟩)
  obtain ⟨d, hd, rfl⟩ := pa_idx (n := H.2.1) (by omega) c
  by_cases c2 : p2 < 0 ∨ 999 < p2
  · refine pw_query (a := -11) hW hc hg ?_ (fun τ hg => ?_)
    · unfold qX8_speed qX8_canTellSpeed
      refine pz_bd (Q := fun v τ => v = 0 ∧ τ = σ) ?_ (fun v τ ev => ?_)
      · refine pz_bd' (pc_dev1 hW.1 hc.hH c) ?_
        refine pz_e (by decide) ?_
        refine pz_bd' (pc_i0 c2) ?_
        exact pz_t rfl (pz_done ⟨rfl, rfl⟩)
      · obtain ⟨rfl, rfl⟩ := ev
        exact pz_t rfl (pz_done ⟨rfl, pc_kp.rf _, hc.1.2.2⟩)
    · unfold qX9_speed
      refine pg_th hg (fun τ1 hg1 k1 => ?_)
      refine pz_bd' (pg_dev1 hW.1 hg1 c) ?_
      refine pz_e (by decide) ?_
      refine pz_bd' (pg_i0 (lo := 0) (hi := 999) (by decide) (by decide) c2) ?_
      exact pz_t rfl (pz_done ⟨rfl, k1⟩)
  obtain ⟨v, -, hv, rfl⟩ := pa_num 0 999 (by decide) (by decide) c2
  have hx1 : pa_W1 T H (upd x.1 (25 + d) (nI v), x.2) := ⟨t, t1, pa_xsV hW.1 iv hd hv⟩
  refine pw_change (a := x.1 (25 + d)) (fl' := fl) ((hW.setX hx1).push (hW.2.1)) hg ?_ (fun τ hg => ?_)
  · unfold qX8_speed qX8_canTellSpeed
    refine pz_bd (Q := fun v τ => v = 1 ∧ τ = σ) ?_ (fun v τ ev => ?_)
    · refine pz_bd' (pc_dev1 hW.1 hc.hH c) ?_
      refine pz_e (by decide) ?_
      refine pz_bd' (pc_i1 (fun hh => c2 (Or.inl hh)) (fun hh => c2 (Or.inr hh))) ?_
      exact pz_e (by decide) (pz_done ⟨rfl, rfl⟩)
    obtain ⟨rfl, rfl⟩ := ev
    refine pz_e (by decide) ?_
    refine pz_bd (pc_before hc hW.1) (fun _ σ1 h1 => ?_)
    obtain ⟨b1, k1, w1, -⟩ := h1
    refine pc_nowSet2 hW.1 hd rfl w1 (fun σ2 w2 r2 fr2 => ?_)
    have b2 : pc_Ws H 62 σ2 x := pc_S.congr b1 (fun o ho => fr2.1 _ (by omega) (by omega)) (fr2.2.2 _ (by omega))
    refine pz_bd (w2.push hW.1 hW.2.2.1.1 b2) (fun _ σ3 h3 => ?_)
    obtain ⟨w3, r3, b3⟩ := h3
    refine pc_l2 (pc_T.of b3.Q) hD hd rfl ?_
    exact pz_done ⟨rfl, w3, (k1.2.tr r2).tr r3⟩
  · unfold qX9_speed
    refine pg_th hg (fun τ1 hg1 k1 => ?_)
    refine pz_bd' (pg_dev1 hW.1 hg1 c) ?_
    refine pz_e (by decide) ?_
    refine pz_bd' (pg_i1 (lo := 0) (hi := 999) (by decide) (by decide) (fun hh => c2 (Or.inl hh)) (fun hh => c2 (Or.inr hh))) ?_
    refine pz_e (by decide) ?_
    refine pz_bd (pg_stores hW.1 hg1) (fun _ τ2 h2 => ?_)
    obtain ⟨z2, k2, w2, -⟩ := h2
    refine pg_setk hW (k := 25 + d) ⟨by omega, by omega, by omega⟩ (by
      show (60 : Int32) + nI d = nI (35 + (25 + d))
      rw [show (60 : Int32) + nI d = nI (60 + d) from nI_add 60 d]
      congr 1
      omega) w2 (fun τ3 w3 c3 o3 e3 => ?_)
    have z3 : pg_was H x τ3 := by unfold pg_was; rw [o3 337 (by decide), e3]; exact z2
    refine pz_bd (w3.push (hW.setX hx1) z3) (fun _ τ4 h4 => ?_)
    have e25 : τ4.1 337 (25 + d) = x.1 (25 + d) := by
      rw [h4.2.2, ← z3.1, pa_can_at ⟨by omega, by omega, by omega⟩]
    refine pz_rd (k := 25 + d) (pz_a25 d) (by omega) (by decide) e25 ?_
    exact pz_done ⟨rfl, h4.1, pw_c.tr (pw_c.tr (pw_c.tr k1.1 k2.1) c3) h4.2.1⟩
theorem pw_wants {T : Nat} {σ : ps_S} {p1 p2 : Int32} (w : pw_W T σ) : pw_call T (qX8_wants p1 p2) (qX9_wants p1 p2) σ := by
  obtain ⟨H, x, n, P, im, tr, tp, fl, hW, hc, hg⟩ := w
  obtain ⟨t, t1, iv⟩ := hW.2.1
  have hWl := hW.1.1.2.2.1.2
  by_cases c : p1 < 0 ∨ nI H.2.2.2 ≤ p1
  · refine pw_query (a := -11) hW hc hg ?_ (fun τ hg => ?_)
    · unfold qX8_wants qX8_canTellWants
      refine pz_bd (Q := fun v τ => v = 0 ∧ τ = σ) ?_ (fun v τ ev => ?_)
      · refine pz_bd' (pc_wri0 hW.1 hc.hH c) ?_
        exact pz_t rfl (pz_done ⟨rfl, rfl⟩)
      · obtain ⟨rfl, rfl⟩ := ev
        exact pz_t rfl (pz_done ⟨rfl, pc_kp.rf _, hc.1.2.2⟩)
    · unfold qX9_wants
      refine pg_th hg (fun τ1 hg1 k1 => ?_)
      refine pz_bd' (pg_wri0 hW.1 hg1 c) ?_
      exact pz_t rfl (pz_done ⟨rfl, k1⟩)
  obtain ⟨d, hd, rfl⟩ := pa_idx (n := H.2.2.2) (by omega) c
  by_cases c2 : p2 < 0 ∨ 99 < p2
  · refine pw_query (a := -11) hW hc hg ?_ (fun τ hg => ?_)
    · unfold qX8_wants qX8_canTellWants
      refine pz_bd (Q := fun v τ => v = 0 ∧ τ = σ) ?_ (fun v τ ev => ?_)
      · refine pz_bd' (pc_wri1 hW.1 hc.hH c) ?_
        refine pz_e (by decide) ?_
        refine pz_bd' (pc_i0 c2) ?_
        exact pz_t rfl (pz_done ⟨rfl, rfl⟩)
      · obtain ⟨rfl, rfl⟩ := ev
        exact pz_t rfl (pz_done ⟨rfl, pc_kp.rf _, hc.1.2.2⟩)
    · unfold qX9_wants
      refine pg_th hg (fun τ1 hg1 k1 => ?_)
      refine pz_bd' (pg_wri1 hW.1 hg1 c) ?_
      refine pz_e (by decide) ?_
      refine pz_bd' (pg_i0 (lo := 0) (hi := 99) (by decide) (by decide) c2) ?_
      exact pz_t rfl (pz_done ⟨rfl, k1⟩)
  obtain ⟨v, -, hv, rfl⟩ := pa_num 0 99 (by decide) (by decide) c2
  have hx1 : pa_W1 T H (upd x.1 (53 + d) (nI v), x.2) := ⟨t, t1, pa_xwV hW.1 iv hd hv⟩
  refine pw_change (a := x.1 (53 + d)) (fl' := fl) ((hW.setX hx1).push (hW.2.1)) hg ?_ (fun τ hg => ?_)
  · unfold qX8_wants qX8_canTellWants
    refine pz_bd (Q := fun v τ => v = 1 ∧ τ = σ) ?_ (fun v τ ev => ?_)
    · refine pz_bd' (pc_wri1 hW.1 hc.hH c) ?_
      refine pz_e (by decide) ?_
      refine pz_bd' (pc_i1 (fun hh => c2 (Or.inl hh)) (fun hh => c2 (Or.inr hh))) ?_
      exact pz_e (by decide) (pz_done ⟨rfl, rfl⟩)
    obtain ⟨rfl, rfl⟩ := ev
    refine pz_e (by decide) ?_
    refine pz_bd (pc_before hc hW.1) (fun _ σ1 h1 => ?_)
    obtain ⟨b1, k1, w1, -⟩ := h1
    refine pc_nowSet13 hW.1 hd rfl w1 (fun σ2 w2 r2 fr2 => ?_)
    have b2 : pc_Ws H 62 σ2 x := pc_S.congr b1 (fun o ho => fr2.1 _ (by omega) (by omega)) (fr2.2.2 _ (by omega))
    refine pz_bd (w2.push hW.1 hW.2.2.1.1 b2) (fun _ σ3 h3 => ?_)
    obtain ⟨w3, r3, b3⟩ := h3
    refine pc_l13 (pc_T.of b3.Q) hWl hd rfl ?_
    exact pz_done ⟨rfl, w3, (k1.2.tr r2).tr r3⟩
  · unfold qX9_wants
    refine pg_th hg (fun τ1 hg1 k1 => ?_)
    refine pz_bd' (pg_wri1 hW.1 hg1 c) ?_
    refine pz_e (by decide) ?_
    refine pz_bd' (pg_i1 (lo := 0) (hi := 99) (by decide) (by decide) (fun hh => c2 (Or.inl hh)) (fun hh => c2 (Or.inr hh))) ?_
    refine pz_e (by decide) ?_
    refine pz_bd (pg_stores hW.1 hg1) (fun _ τ2 h2 => ?_)
    obtain ⟨z2, k2, w2, -⟩ := h2
    refine pg_setk hW (k := 53 + d) ⟨by omega, by omega, by omega⟩ (by
      show (88 : Int32) + nI d = nI (35 + (53 + d))
      rw [show (88 : Int32) + nI d = nI (88 + d) from nI_add 88 d]
      congr 1
      omega) w2 (fun τ3 w3 c3 o3 e3 => ?_)
    have z3 : pg_was H x τ3 := by unfold pg_was; rw [o3 337 (by decide), e3]; exact z2
    refine pz_bd (w3.push (hW.setX hx1) z3) (fun _ τ4 h4 => ?_)
    have e53 : τ4.1 337 (53 + d) = x.1 (53 + d) := by
      rw [h4.2.2, ← z3.1, pa_can_at ⟨by omega, by omega, by omega⟩]
    refine pz_rd (k := 53 + d) (pz_a53 d) (by omega) (by decide) e53 ?_
    exact pz_done ⟨rfl, h4.1, pw_c.tr (pw_c.tr (pw_c.tr k1.1 k2.1) c3) h4.2.1⟩
theorem pw_undo {T : Nat} {σ : ps_S} {p1 : Int32} (w : pw_W T σ) : pw_call T (qX8_undo p1) (qX9_undo p1) σ := by
  obtain ⟨H, x, n, P, im, tr, tp, fl, hW, hc, hg⟩ := w
  have hD := hW.1.1.1.2
  have hn := hW.2.2.1.1
  by_cases c : p1 < 1 ∨ 10 < p1
  · refine pw_query (a := -3) hW hc hg ?_ (fun τ hg => ?_)
    · unfold qX8_undo
      refine pz_bd' (pc_i0 c) ?_
      exact pz_t rfl (pz_done ⟨rfl, pc_kp.rf _, hc.1.2.2⟩)
    · unfold qX9_undo
      refine pg_th hg (fun τ1 hg1 k1 => ?_)
      refine pz_bd' (pg_i0 (lo := 1) (hi := 10) (by decide) (by decide) c) ?_
      exact pz_t rfl (pz_done ⟨rfl, k1⟩)
  obtain ⟨k, m1, m2, rfl⟩ := pa_num 1 10 (by decide) (by decide) c
  by_cases c2 : k ≤ n
  · have hm : n - k < n := by omega
    have hW2 : pa_W T H (P (n - k)) (n - k) P im tr tp := ⟨hW.1, hW.2.2.1.2 (n - k) hm, ⟨by omega, fun i hi => hW.2.2.1.2 i (by omega)⟩, hW.2.2.2⟩
    refine pw_change (a := nI (n - k)) (fl' := fl) hW2 hg ?_ (fun τ hg => ?_)
    · obtain ⟨w1, ⟨f, f1, f2, f3, f4⟩, w4, w5, w6, w7⟩ := hc
      unfold qX8_undo
      refine pz_bd' (pc_i1 (fun hh => c (Or.inl hh)) (fun hh => c (Or.inr hh))) ?_
      refine pz_e (by decide) ?_
      refine pz_l f3 ?_
      refine pz_t (nI_le c2 (by omega)) ?_
      refine pz_l f3 ?_
      rw [nI_sub c2, pz_lt]
      have a1 : ∀ j, j ≠ 0 → (ps_rI σ 0 (upd (σ.1 0) 11 (nI (n - k)))).1 j = σ.1 j := fun j hj => ps_rI_ne _ _ hj
      have a2 : (ps_rI σ 0 (upd (σ.1 0) 11 (nI (n - k)))).2 = σ.2 := rfl
      have a3 : ∀ j, j ≠ 11 → (ps_rI σ 0 (upd (σ.1 0) 11 (nI (n - k)))).1 0 j = σ.1 0 j := fun j hj => by rw [ps_rI_at, upd_ne _ _ hj]
      have a4 : (ps_rI σ 0 (upd (σ.1 0) 11 (nI (n - k)))).1 0 11 = nI (n - k) := by rw [ps_rI_at, upd_self]
      generalize ps_rI σ 0 (upd (σ.1 0) 11 (nI (n - k))) = σ1 at a1 a2 a3 a4 ⊢
      refine pz_l ((a3 10 (by decide)).trans f2) ?_
      refine pz_l a4 ?_
      have e10n : (10 : Int32) = nI 10 := rfl
      rw [nI_add, e10n, nI_rem (by omega) (by omega) (by omega)]
      have hml := Nat.mod_lt (f + (n - k)) (show 0 < 10 by decide)
      refine pz_rdN (k := (f + (n - k)) % 10) (f := fun k => 85 + 18 * k) rfl (by omega) (by decide) ?_
      have hS : pc_Ws H (85 + 18 * ((f + (n - k)) % 10)) σ1 (P (n - k)) := pc_S.congr (f4 (n - k) hm) (fun o ho => a1 _ (by omega)) (by rw [a2])
      refine pz_bd (pc_copy (B := 26) (by omega) hD hS (Or.inl rfl)) (fun _ σ2 h2 => ?_)
      obtain ⟨s2, fb⟩ := h2
      have b0 : σ2.1 0 = σ1.1 0 := fb.1 0 (by omega)
      have b1 : ∀ j, j ≠ 0 → j < 26 ∨ 44 ≤ j → σ2.1 j = σ.1 j := fun j h0 hj => (fb.1 j (by omega)).trans (a1 j h0)
      have b2 : ∀ j, j < 26 ∨ 44 ≤ j → σ2.2.2 j = σ.2.2 j := fun j hj => (fb.2.2 j (by omega)).trans (by rw [a2])
      have b3 : σ2.2.1 = σ.2.1 := fb.2.1.trans (by rw [a2])
      refine pz_l (show σ2.1 0 11 = nI (n - k) by rw [b0]; exact a4) ?_
      refine pz_done ⟨rfl, ⟨⟨s2, w1.2.1.congr (fun o ho => b1 _ (by omega) (by omega)), ?_⟩, ⟨f, f1, by rw [b0, a3 10 (by decide)]; exact f2, by rw [b0]; exact a4, fun i hi => ?_⟩, w4.congr (fun j hj => ⟨b1 j (by omega) (by omega), b2 j (by omega)⟩), w5.congr (fun j hj => ⟨b1 j (by omega) (by omega), by rw [b3]⟩), w6.congr (b1 1 (by decide) (by omega)) (by rw [b0, a3 1 (by decide)]), by rw [b1 11 (by decide) (by omega)]; exact w7⟩, fun j hj => ⟨b1 j (by omega) (by omega), by rw [b3], b2 j (by omega)⟩⟩
      · have := w1.2.2
        unfold pc_O at this ⊢
        rw [b1 23 (by decide) (by omega), b1 24 (by decide) (by omega)]
        exact this
      · have hml2 := Nat.mod_lt (f + i) (show 0 < 10 by decide)
        exact pc_S.congr (f4 i (by omega)) (fun o ho => b1 _ (by omega) (by omega)) (b2 _ (by omega))
    · unfold qX9_undo
      refine pg_th hg (fun τ1 hg1 k1 => ?_)
      refine pz_bd' (pg_i1 (lo := 1) (hi := 10) (by decide) (by decide) (fun hh => c (Or.inl hh)) (fun hh => c (Or.inr hh))) ?_
      refine pz_e (by decide) ?_
      obtain ⟨w1, ⟨w3a, w3b⟩, w4, w5, w6, w7⟩ := hg1
      refine pz_l w3a ?_
      refine pz_t (nI_le c2 (by omega)) ?_
      refine pz_l w3a ?_
      rw [nI_sub c2, pz_lt]
      have a1 : ∀ j, j ≠ 118 → (ps_rI τ1 328 (upd (τ1.1 328) 118 (nI (n - k)))).1 328 j = τ1.1 328 j := fun j hj => by rw [ps_rI_at, upd_ne _ _ hj]
      have a2 : (ps_rI τ1 328 (upd (τ1.1 328) 118 (nI (n - k)))).1 328 118 = nI (n - k) := by rw [ps_rI_at, upd_self]
      have a3 : ∀ j, j ≠ 328 → (ps_rI τ1 328 (upd (τ1.1 328) 118 (nI (n - k)))).1 j = τ1.1 j := fun j hj => ps_rI_ne _ _ hj
      have a4 : (ps_rI τ1 328 (upd (τ1.1 328) 118 (nI (n - k)))).2 = τ1.2 := rfl
      generalize ps_rI τ1 328 (upd (τ1.1 328) 118 (nI (n - k))) = τ2 at a1 a2 a3 a4 ⊢
      have i1 : ∀ j, (119 : Int32) + 83 * nI (n - k) + nI j = nI (119 + 83 * (n - k) + j) := fun j => by
        rw [show (83 : Int32) * nI (n - k) = nI (83 * (n - k)) from nI_mul 83 (n - k), show (119 : Int32) + nI (83 * (n - k)) = nI (119 + 83 * (n - k)) from nI_add 119 (83 * (n - k)), nI_add]
      have i2 : ∀ j, (4 : Int32) + 4 * nI (n - k) + nI j = nI (4 + 4 * (n - k) + j) := fun j => by
        rw [show (4 : Int32) * nI (n - k) = nI (4 * (n - k)) from nI_mul 4 (n - k), show (4 : Int32) + nI (4 * (n - k)) = nI (4 + 4 * (n - k)) from nI_add 4 (4 * (n - k)), nI_add]
      have l1 : qX9_undo_44 (nI k) ps_N 0 τ2 = some (nI 83, ps_rI τ2 328 (pz_cp (τ2.1 328) (τ2.1 328) (119 + 83 * (n - k)) 35 0 83)) := pz_cpI (F := qX9_undo_44 (nI k)) (a := fun σ x => 119 + 83 * σ.1 328 118 + x) (b := fun _ x => 35 + x) (fun σ => σ.1 328 118 = nI (n - k)) (fun n x σ => rfl) rfl (by decide) (fun σ j hi _ => by
          show (119 : Int32) + 83 * σ.1 328 118 + nI j = _
          rw [hi]; exact i1 j) (fun σ j _ _ => nI_add 35 j) (show 119 + 83 * (n - k) + 83 ≤ 5550 by omega) (by decide) (by decide) (by decide) (Or.inr (fun a b _ _ => by omega)) (fun σ j v hi hj => by
          have hj' : j < 83 := hj
          show (ps_rI σ 328 _).1 328 118 = _
          rw [ps_rI_at, upd_ne _ _ (by omega)]; exact hi) 83 0 ps_N τ2 (by decide) (by unfold ps_N; decide) a2
      refine pz_bd' l1 ?_
      have c1 : ∀ j, j < 35 ∨ 118 ≤ j → (ps_rI τ2 328 (pz_cp (τ2.1 328) (τ2.1 328) (119 + 83 * (n - k)) 35 0 83)).1 328 j = τ2.1 328 j := fun j hj => by rw [ps_rI_at, pz_cp_out (by omega)]
      have c2' : ∀ j, j < 83 → (ps_rI τ2 328 (pz_cp (τ2.1 328) (τ2.1 328) (119 + 83 * (n - k)) 35 0 83)).1 328 (35 + j) = τ2.1 328 (119 + 83 * (n - k) + j) := fun j hj => by rw [ps_rI_at, pz_cp_in (by omega) hj]
      have c3 : ∀ j, j ≠ 328 → (ps_rI τ2 328 (pz_cp (τ2.1 328) (τ2.1 328) (119 + 83 * (n - k)) 35 0 83)).1 j = τ2.1 j := fun j hj => ps_rI_ne _ _ hj
      have c4 : (ps_rI τ2 328 (pz_cp (τ2.1 328) (τ2.1 328) (119 + 83 * (n - k)) 35 0 83)).2 = τ2.2 := rfl
      generalize ps_rI τ2 328 (pz_cp (τ2.1 328) (τ2.1 328) (119 + 83 * (n - k)) 35 0 83) = τ3 at c1 c2' c3 c4 ⊢
      have h118 : τ3.1 328 118 = nI (n - k) := (c1 118 (by omega)).trans a2
      have l2 : qX9_undo_87 (nI k) ps_N 0 τ3 = some (nI 4, ps_rD τ3 329 (pz_cp (τ3.2.2 329) (τ3.2.2 329) (4 + 4 * (n - k)) 0 0 4)) := pz_cpD (F := qX9_undo_87 (nI k)) (a := fun σ x => 4 + 4 * σ.1 328 118 + x) (b := fun _ x => x) (fun σ => σ.1 328 118 = nI (n - k)) (fun n x σ => rfl) rfl (by decide) (fun σ j hi _ => by
          show (4 : Int32) + 4 * σ.1 328 118 + nI j = _
          rw [hi]; exact i2 j) (fun σ j _ _ => by rw [Nat.zero_add]) (show 4 + 4 * (n - k) + 4 ≤ 132 by omega) (by decide) (by decide) (by decide) (Or.inr (fun a b _ _ => by omega)) (fun σ j v hi _ => hi) 4 0 ps_N τ3 (by decide) (by unfold ps_N; decide) h118
      refine pz_bd' l2 ?_
      refine pz_l (show _ = nI (n - k) from h118) ?_
      have d1 : ∀ j, 4 ≤ j → (ps_rD τ3 329 (pz_cp (τ3.2.2 329) (τ3.2.2 329) (4 + 4 * (n - k)) 0 0 4)).2.2 329 j = τ1.2.2 329 j := fun j hj => by rw [ps_rD_at, pz_cp_out (by omega), c4, a4]
      have d2 : ∀ j, j < 4 → (ps_rD τ3 329 (pz_cp (τ3.2.2 329) (τ3.2.2 329) (4 + 4 * (n - k)) 0 0 4)).2.2 329 j = τ1.2.2 329 (4 + 4 * (n - k) + j) := fun j hj => by
        have := pz_cp_in (s := τ3.2.2 329) (d := τ3.2.2 329) (A := 4 + 4 * (n - k)) (B := 0) (i := 0) (N := 4) (k := j) (by omega) hj
        rw [Nat.zero_add] at this
        rw [ps_rD_at, this, c4, a4]
      have d3 : (ps_rD τ3 329 (pz_cp (τ3.2.2 329) (τ3.2.2 329) (4 + 4 * (n - k)) 0 0 4)).1 = τ3.1 := rfl
      have d4 : ∀ j, j ≠ 329 → (ps_rD τ3 329 (pz_cp (τ3.2.2 329) (τ3.2.2 329) (4 + 4 * (n - k)) 0 0 4)).2.2 j = τ1.2.2 j := fun j hj => by rw [ps_rD_ne _ _ hj, c4, a4]
      have d5 : (ps_rD τ3 329 (pz_cp (τ3.2.2 329) (τ3.2.2 329) (4 + 4 * (n - k)) 0 0 4)).2.1 = τ1.2.1 := by rw [ps_rD_21, c4, a4]
      generalize ps_rD τ3 329 (pz_cp (τ3.2.2 329) (τ3.2.2 329) (4 + 4 * (n - k)) 0 0 4) = υ at d1 d2 d3 d4 d5 ⊢
      have e1 : ∀ j, j < 35 ∨ 119 ≤ j → υ.1 328 j = τ1.1 328 j := fun j hj => by rw [d3, c1 j (by omega), a1 j (by omega)]
      have e2 : ∀ j, j ≠ 328 → υ.1 j = τ1.1 j := fun j hj => by rw [d3, c3 j hj, a3 j hj]
      refine pz_done ⟨rfl, ⟨⟨?_, ?_, ?_⟩, ⟨by rw [d3]; exact h118, fun i hi => (w3b i (by omega)).congr hD (fun j hj => e1 j (by omega)) (fun j hj => d1 j (by omega))⟩, w4.congr (fun i hi y hy => (hW.2.2.2.1 i hi y hy).1.1.1.2) (e2 330 (by decide)) (fun j hj => e1 j (by omega)) (fun j hj => d1 j (by omega)), w5.congr (e2 342 (by decide)) (e2 343 (by decide)) (by rw [d5]), w6.congr (e2 331 (by decide)) (by rw [e2 327 (by decide)]), by rw [e2 327 (by decide)]; exact w7⟩, fun j hj => ?_⟩
      · rw [← w1.1]
        unfold pg_h
        funext j
        by_cases q : j < 35 ∨ (949 ≤ j ∧ j < 1850)
        · rw [if_pos q, if_pos q, e1 j (by omega)]
        · rw [if_neg q, if_neg q]
      · rw [← (w3b (n - k) hm).1]
        unfold pg_nr
        exact pa_can_ext (fun j hj => by rw [d3, c2' j hj, a1 _ (by omega)])
      · rw [← (w3b (n - k) hm).2]
        unfold pg_ne
        funext j
        by_cases q : j < H.2.1
        · rw [if_pos q, if_pos q, Nat.zero_add, d2 j (by omega)]
        · rw [if_neg q, if_neg q]
      · have := k1.1 j hj
        exact ⟨(e2 j (by omega)).trans this.1, by rw [d5]; exact this.2.1, (d4 j (by omega)).trans this.2.2⟩
  · refine pw_query (a := -3) hW hc hg ?_ (fun τ hg => ?_)
    · obtain ⟨f, f1, f2, f3, f4⟩ := hc.2.1
      unfold qX8_undo
      refine pz_bd' (pc_i1 (fun hh => c (Or.inl hh)) (fun hh => c (Or.inr hh))) ?_
      refine pz_e (by decide) ?_
      refine pz_l f3 ?_
      exact pz_e (nI_ge (by omega) (by omega)) (pz_done ⟨rfl, pc_kp.rf _, hc.1.2.2⟩)
    · unfold qX9_undo
      refine pg_th hg (fun τ1 hg1 k1 => ?_)
      refine pz_bd' (pg_i1 (lo := 1) (hi := 10) (by decide) (by decide) (fun hh => c (Or.inl hh)) (fun hh => c (Or.inr hh))) ?_
      refine pz_e (by decide) ?_
      refine pz_l hg1.2.1.1 ?_
      exact pz_e (nI_ge (by omega) (by omega)) (pz_done ⟨rfl, k1⟩)
