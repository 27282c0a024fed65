/-! image, restore -/
theorem pc_O.of {h : pa_R} {σ : ps_S} (g : ∀ j, j < 1000 → σ.1 23 j = -1) : pc_O h σ := fun row hr t ht => Or.inl (g _ (by omega))
theorem pc_O.congr {h : pa_R} {σ τ : ps_S} (g : pc_O h σ) (h1 : τ.1 23 = σ.1 23) (h2 : τ.1 24 = σ.1 24) : pc_O h τ := by
  unfold pc_O at g ⊢
  rw [h1, h2]
  exact g
theorem pc_forget {h : pa_R} {σ : ps_S} : ps_ok (qX0_forgetLaws σ) (fun _ τ => (∀ k, k ≠ 23 → τ.1 k = σ.1 k) ∧ τ.2 = σ.2 ∧ pc_O h τ) := by
  unfold qX0_forgetLaws qX4_forget
  rw [pz_fi (by decide), pz_bds, pz_bds]
  refine pz_done ⟨fun k hk => ps_rI_ne _ _ hk, rfl, pc_O.of (fun j hj => ?_)⟩
  rw [ps_rI_at]
  show (if j < 1000 then (-1 : Int32) else _) = -1
  rw [if_pos hj]
def pa_ims (im : pa_Im) (i : Nat) (y : pa_H × pa_X) : pa_Im := fun j => if j = i then some y else im j
theorem pa_ims_at {im : pa_Im} {i : Nat} {y : pa_H × pa_X} : pa_ims im i y i = some y := if_pos rfl
theorem pa_ims_ne {im : pa_Im} {i j : Nat} {y : pa_H × pa_X} (h : j ≠ i) : pa_ims im i y j = im j := if_neg h
section IMG
variable {T : Nat} {σ : ps_S} {p1 : Int32}
theorem pz_ci (i : Nat) (k : Nat) : (1850 : Int32) * (nI i + 1) + nI k = nI (1850 * (i + 1) + k) := by
  rw [nI_1, show (1850 : Int32) * nI (i + 1) = nI (1850 * (i + 1)) from nI_mul 1850 (i + 1), nI_add]
theorem pz_cd (i : Nat) (k : Nat) : (44 : Int32) * (nI i + 1) + nI k = nI (44 * (i + 1) + k) := by
  rw [nI_1, show (44 : Int32) * nI (i + 1) = nI (44 * (i + 1)) from nI_mul 44 (i + 1), nI_add]
theorem pw_image (w : pw_W T σ) : pw_call T (qX8_image p1) (qX9_image p1) σ := by
  obtain ⟨H, x, n, P, im, tr, tp, fl, hW, hc, hg⟩ := w
  have hD := hW.1.1.1.2
  have hn := hW.2.2.1.1
  by_cases c : p1 < 0 ∨ 1 < p1
  · refine pw_query (a := -2) hW hc hg ?_ (fun τ hg => ?_)
    · unfold qX8_image
      refine pz_bd' (pc_i0 c) ?_
      exact pz_t rfl (pz_done ⟨rfl, pc_kp.rf _, hc.1.2.2⟩)
    · unfold qX9_image
      refine pg_th hg (fun τ1 hg1 k1 => ?_)
      refine pz_bd' (pg_i0 (lo := 0) (hi := 1) (by decide) (by decide) c) ?_
      exact pz_t rfl (pz_done ⟨rfl, k1⟩)
  obtain ⟨i, m1, m2, rfl⟩ := pa_num 0 1 (by decide) (by decide) c
  have hW2 : pa_W T H x n P (pa_ims im i (H, x)) tr tp := by
    refine ⟨hW.1, hW.2.1, hW.2.2.1, fun j hj y hy => ?_, hW.2.2.2.2⟩
    by_cases cj : j = i
    · rw [cj, pa_ims_at] at hy
      cases hy
      exact ⟨hW.1, hW.2.1⟩
    · rw [pa_ims_ne cj] at hy
      exact hW.2.2.2.1 j hj y hy
  refine pw_change (a := 0) (fl' := fl) hW2 hg ?_ (fun τ hg => ?_)
  · obtain ⟨w1, w3, w4, w5, w6, w7⟩ := hc
    unfold qX8_image
    refine pz_bd' (pc_i1 (fun hh => c (Or.inl hh)) (fun hh => c (Or.inr hh))) ?_
    refine pz_e (by decide) ?_
    refine pz_rdN (k := i) (f := fun k => 273 + 27 * k) rfl (by omega) (by decide) ?_
    refine pz_bd (pc_hcopy hW.1 (B := 273 + 27 * i) (B1 := 12) (by omega) w1.2.1) (fun _ σ2 h2 => ?_)
    obtain ⟨u1, v1, v2⟩ := h2
    refine pz_rdN (k := i) (f := fun k => 282 + 27 * k) rfl (by omega) (by decide) ?_
    have hS : pc_Ws H 26 σ2 x := pc_S.congr w1.1 (fun o ho => v1 _ (by omega)) (by rw [v2])
    refine pz_bd (pc_copy (B := 282 + 27 * i) (by omega) hD hS (Or.inl rfl)) (fun _ σ3 h3 => ?_)
    obtain ⟨s3, fb⟩ := h3
    refine pz_wr (k := i) rfl (by omega) (by decide) (fun τ et => ?_)
    have b1 : ∀ j, j ≠ 84 → j < 273 + 27 * i ∨ 300 + 27 * i ≤ j → τ.1 j = σ.1 j := fun j h0 hj => by rw [et, ps_rI_ne _ _ h0, fb.1 j (by omega), v1 j (by omega)]
    have b2 : ∀ j, j < 282 + 27 * i ∨ 300 + 27 * i ≤ j → τ.2.2 j = σ.2.2 j := fun j hj => by rw [et, ps_rI_2, fb.2.2 j (by omega), v2]
    have b3 : τ.2.1 = σ.2.1 := by rw [et, ps_rI_2, fb.2.1, v2]
    have b4 : τ.1 84 = upd (σ.1 84) i 1 := by
      rw [et, ps_rI_at, fb.1 84 (by omega), v1 84 (by omega)]
      rfl
    refine pz_done ⟨rfl, ⟨⟨w1.1.congr (fun o ho => b1 _ (by omega) (by omega)) (b2 _ (by omega)), w1.2.1.congr (fun o ho => b1 _ (by omega) (by omega)), w1.2.2.congr (b1 23 (by decide) (by omega)) (b1 24 (by decide) (by omega))⟩, w3.congr (fun k hk => ⟨b1 k (by omega) (by omega), b2 k (by omega)⟩) (fun j hj => by rw [b1 0 (by decide) (by omega)]), ?_, w5.congr (fun k hk => ⟨b1 k (by omega) (by omega), by rw [b3]⟩), w6.congr (b1 1 (by decide) (by omega)) (by rw [b1 0 (by decide) (by omega)]), by rw [b1 11 (by decide) (by omega)]; exact w7⟩, fun j hj => ⟨b1 j (by omega) (by omega), by rw [b3], b2 j (by omega)⟩⟩
    intro j hj
    by_cases cj : j = i
    · subst cj
      rw [pa_ims_at, b4, upd_self]
      refine ⟨(fun hh => by cases hh), fun y hy => ?_⟩
      cases hy
      refine ⟨rfl, u1.congr (fun o ho => ?_), ?_⟩
      · rw [et, ps_rI_ne _ _ (by omega), fb.1 _ (by omega)]
      · exact pc_S.congr s3 (fun o ho => by rw [et, ps_rI_ne _ _ (by omega)]) (by rw [et, ps_rI_2])
    · rw [pa_ims_ne cj, b4, upd_ne _ _ cj]
      refine ⟨(w4 j hj).1, fun y hy => ?_⟩
      obtain ⟨a1, a2, a3⟩ := (w4 j hj).2 y hy
      exact ⟨a1, a2.congr (fun o ho => b1 _ (by omega) (by omega)), pc_S.congr a3 (fun o ho => b1 _ (by omega) (by omega)) (b2 _ (by omega))⟩
  · unfold qX9_image
    refine pg_th hg (fun τ1 hg1 k1 => ?_)
    refine pz_bd' (pg_i1 (lo := 0) (hi := 1) (by decide) (by decide) (fun hh => c (Or.inl hh)) (fun hh => c (Or.inr hh))) ?_
    refine pz_e (by decide) ?_
    obtain ⟨w1, w3, w4, w5, w6, w7⟩ := hg1
    have l1 : qX9_image_20 (nI i) ps_N 0 τ1 = some (nI 1850, ps_rI τ1 328 (pz_cp (τ1.1 328) (τ1.1 328) 0 (1850 * (i + 1)) 0 1850)) := pz_cpI (F := qX9_image_20 (nI i)) (a := fun _ x => x) (b := fun _ x => 1850 * (nI i + 1) + x) (fun _ => True) (fun n x σ => rfl) rfl (by decide) (fun σ k _ _ => by rw [Nat.zero_add]) (fun σ k _ _ => pz_ci i k) (by decide) (show 1850 * (i + 1) + 1850 ≤ 5550 by omega) (by decide) (by decide) (Or.inr (fun a b _ (ha : a < 1850) => by omega)) (fun _ _ _ _ _ => trivial) 1850 0 ps_N τ1 (by decide) (by unfold ps_N; decide) trivial
    refine pz_bd' l1 ?_
    have c1 : ∀ j, j < 1850 * (i + 1) ∨ 1850 * (i + 1) + 1850 ≤ j → (ps_rI τ1 328 (pz_cp (τ1.1 328) (τ1.1 328) 0 (1850 * (i + 1)) 0 1850)).1 328 j = τ1.1 328 j := fun j hj => by rw [ps_rI_at, pz_cp_out (by omega)]
    have c2 : ∀ j, j < 1850 → (ps_rI τ1 328 (pz_cp (τ1.1 328) (τ1.1 328) 0 (1850 * (i + 1)) 0 1850)).1 328 (1850 * (i + 1) + j) = τ1.1 328 j := fun j hj => by rw [ps_rI_at, pz_cp_in (by omega) hj, Nat.zero_add]
    have c3 : ∀ j, j ≠ 328 → (ps_rI τ1 328 (pz_cp (τ1.1 328) (τ1.1 328) 0 (1850 * (i + 1)) 0 1850)).1 j = τ1.1 j := fun j hj => ps_rI_ne _ _ hj
    have c4 : (ps_rI τ1 328 (pz_cp (τ1.1 328) (τ1.1 328) 0 (1850 * (i + 1)) 0 1850)).2 = τ1.2 := rfl
    generalize ps_rI τ1 328 (pz_cp (τ1.1 328) (τ1.1 328) 0 (1850 * (i + 1)) 0 1850) = τ2 at c1 c2 c3 c4 ⊢
    have l2 : qX9_image_55 (nI i) ps_N 0 τ2 = some (nI 44, ps_rD τ2 329 (pz_cp (τ2.2.2 329) (τ2.2.2 329) 0 (44 * (i + 1)) 0 44)) := pz_cpD (F := qX9_image_55 (nI i)) (a := fun _ x => x) (b := fun _ x => 44 * (nI i + 1) + x) (fun _ => True) (fun n x σ => rfl) rfl (by decide) (fun σ k _ _ => by rw [Nat.zero_add]) (fun σ k _ _ => pz_cd i k) (by decide) (show 44 * (i + 1) + 44 ≤ 132 by omega) (by decide) (by decide) (Or.inr (fun a b _ (ha : a < 44) => by omega)) (fun _ _ _ _ _ => trivial) 44 0 ps_N τ2 (by decide) (by unfold ps_N; decide) trivial
    refine pz_bd' l2 ?_
    have d1 : ∀ j, j < 44 * (i + 1) ∨ 44 * (i + 1) + 44 ≤ j → (ps_rD τ2 329 (pz_cp (τ2.2.2 329) (τ2.2.2 329) 0 (44 * (i + 1)) 0 44)).2.2 329 j = τ1.2.2 329 j := fun j hj => by rw [ps_rD_at, pz_cp_out (by omega), c4]
    have d2 : ∀ j, j < 44 → (ps_rD τ2 329 (pz_cp (τ2.2.2 329) (τ2.2.2 329) 0 (44 * (i + 1)) 0 44)).2.2 329 (44 * (i + 1) + j) = τ1.2.2 329 j := fun j hj => by rw [ps_rD_at, pz_cp_in (by omega) hj, c4, Nat.zero_add]
    have d3 : (ps_rD τ2 329 (pz_cp (τ2.2.2 329) (τ2.2.2 329) 0 (44 * (i + 1)) 0 44)).1 = τ2.1 := rfl
    have d4 : ∀ j, j ≠ 329 → (ps_rD τ2 329 (pz_cp (τ2.2.2 329) (τ2.2.2 329) 0 (44 * (i + 1)) 0 44)).2.2 j = τ1.2.2 j := fun j hj => by rw [ps_rD_ne _ _ hj, c4]
    have d5 : (ps_rD τ2 329 (pz_cp (τ2.2.2 329) (τ2.2.2 329) 0 (44 * (i + 1)) 0 44)).2.1 = τ1.2.1 := by rw [ps_rD_21, c4]
    generalize ps_rD τ2 329 (pz_cp (τ2.2.2 329) (τ2.2.2 329) 0 (44 * (i + 1)) 0 44) = τ3 at d1 d2 d3 d4 d5 ⊢
    refine pz_wr (k := i) rfl (by omega) (by decide) (fun υ eu => ?_)
    have e1 : ∀ j, j < 1850 * (i + 1) ∨ 1850 * (i + 1) + 1850 ≤ j → υ.1 328 j = τ1.1 328 j := fun j hj => by rw [eu, ps_rI_ne _ _ (by decide), d3, c1 j hj]
    have e2 : ∀ j, j < 1850 → υ.1 328 (1850 * (i + 1) + j) = τ1.1 328 j := fun j hj => by rw [eu, ps_rI_ne _ _ (by decide), d3, c2 j hj]
    have e3 : ∀ j, j ≠ 328 → j ≠ 330 → υ.1 j = τ1.1 j := fun j hj h3 => by rw [eu, ps_rI_ne _ _ h3, d3, c3 j hj]
    have e4 : υ.1 330 = upd (τ1.1 330) i 1 := by
      rw [eu, ps_rI_at, d3, c3 330 (by decide)]
      rfl
    have e5 : υ.2 = τ3.2 := by rw [eu]; rfl
    refine pz_done ⟨rfl, ⟨⟨?_, w1.2.congr hD (fun k hk => e1 k (by omega)) (fun k hk => by rw [e5]; exact d1 k (by omega))⟩, w3.congr hD hn (fun k hk => e1 k (by omega)) (fun k hk => by rw [e5]; exact d1 k (by omega)), ?_, w5.congr (e3 342 (by decide) (by decide)) (e3 343 (by decide) (by decide)) (by rw [e5, d5]), w6.congr (e3 331 (by decide) (by decide)) (by rw [e3 327 (by decide) (by decide)]), by rw [e3 327 (by decide) (by decide)]; exact w7⟩, fun j hj => ?_⟩
    · rw [← w1.1]
      unfold pg_h
      funext j
      by_cases q : j < 35 ∨ (949 ≤ j ∧ j < 1850)
      · rw [if_pos q, if_pos q, e1 j (by omega)]
      · rw [if_neg q, if_neg q]
    · intro j hj
      by_cases cj : j = i
      · subst cj
        rw [pa_ims_at, e4, upd_self]
        refine ⟨(fun hh => by cases hh), fun y hy => ?_⟩
        cases hy
        refine ⟨rfl, ?_, ?_, ?_⟩
        · show _ = H.1
          rw [← w1.1]
          unfold pg_h pg_hh
          funext k
          by_cases q : k < 35 ∨ (949 ≤ k ∧ k < 1850)
          · rw [if_pos q, if_pos q, e2 k (by omega)]
          · rw [if_neg q, if_neg q]
        · show _ = x.1
          rw [← w1.2.1]
          unfold pg_nr
          exact pa_can_ext (fun k hk => by rw [Nat.add_assoc, e2 (35 + k) (by omega)])
        · show _ = x.2
          rw [← w1.2.2]
          unfold pg_ne
          funext k
          show (if k < H.2.1 then _ else _) = if k < H.2.1 then _ else _
          by_cases q : k < H.2.1
          · rw [if_pos q, if_pos q, Nat.zero_add, e5, d2 k (by omega)]
          · rw [if_neg q, if_neg q]
      · rw [pa_ims_ne cj, e4, upd_ne _ _ cj]
        refine ⟨(w4 j hj).1, fun y hy => ?_⟩
        obtain ⟨a1, a2, a3⟩ := (w4 j hj).2 y hy
        have hy4 := (hW.2.2.2.1 j hj y hy).1.1.1.2
        exact ⟨a1, (pg_hh.congr (fun k hk => e1 k (by omega))).trans a2, a3.congr hy4 (fun k hk => e1 k (by omega)) (fun k hk => by rw [e5]; exact d1 k (by omega))⟩
    · have := k1.1 j hj
      exact ⟨(e3 j (by omega) (by omega)).trans this.1, by rw [e5, d5]; exact this.2.1, by rw [e5, d4 j (by omega)]; exact this.2.2⟩
theorem pw_restore (w : pw_W T σ) : pw_call T (qX8_restore p1) (qX9_restore p1) σ := by
  obtain ⟨H, x, n, P, im, tr, tp, fl, hW, hc, hg⟩ := w
  have hn := hW.2.2.1.1
  by_cases c : p1 < 0 ∨ 1 < p1
  · refine pw_query (a := -2) hW hc hg ?_ (fun τ hg => ?_)
    · unfold qX8_restore
      refine pz_bd' (pc_i0 c) ?_
      exact pz_t rfl (pz_done ⟨rfl, pc_kp.rf _, hc.1.2.2⟩)
    · unfold qX9_restore
      refine pg_th hg (fun τ1 hg1 k1 => ?_)
      refine pz_bd' (pg_i0 (lo := 0) (hi := 1) (by decide) (by decide) c) ?_
      exact pz_t rfl (pz_done ⟨rfl, k1⟩)
  obtain ⟨i, m1, m2, rfl⟩ := pa_num 0 1 (by decide) (by decide) c
  have hi : i < 2 := by omega
  cases hy : im i with
  | none =>
    refine pw_query (a := -5) hW hc hg ?_ (fun τ hg => ?_)
    · unfold qX8_restore
      refine pz_bd' (pc_i1 (fun hh => c (Or.inl hh)) (fun hh => c (Or.inr hh))) ?_
      refine pz_e (by decide) ?_
      refine pz_rd (k := i) rfl hi (by decide) ((hc.2.2.1 i hi).1 hy) ?_
      exact pz_t rfl (pz_done ⟨rfl, pc_kp.rf _, hc.1.2.2⟩)
    · unfold qX9_restore
      refine pg_th hg (fun τ1 hg1 k1 => ?_)
      refine pz_bd' (pg_i1 (lo := 0) (hi := 1) (by decide) (by decide) (fun hh => c (Or.inl hh)) (fun hh => c (Or.inr hh))) ?_
      refine pz_e (by decide) ?_
      refine pz_rd (k := i) rfl hi (by decide) ((hg1.2.2.1 i hi).1 hy) ?_
      exact pz_t rfl (pz_done ⟨rfl, k1⟩)
  | some y =>
    have hyI := hW.2.2.2.1 i hi y hy
    have hD := hyI.1.1.1.2
    have hW2 : pa_W T y.1 y.2 0 P im tr tp := ⟨hyI.1, hyI.2, ⟨by omega, fun j hj => absurd hj (by omega)⟩, hW.2.2.2⟩
    refine pw_change (a := 0) (fl' := fl) hW2 hg ?_ (fun τ hg => ?_)
    · obtain ⟨w1, ⟨f, f1, f2, f3, f4⟩, w4, w5, w6, w7⟩ := hc
      obtain ⟨a1, a2, a3⟩ := (w4 i hi).2 y hy
      unfold qX8_restore
      refine pz_bd' (pc_i1 (fun hh => c (Or.inl hh)) (fun hh => c (Or.inr hh))) ?_
      refine pz_e (by decide) ?_
      refine pz_rd (k := i) rfl hi (by decide) a1 ?_
      refine pz_e (by decide) ?_
      refine pz_rdN (k := i) (f := fun k => 273 + 27 * k) rfl hi (by decide) ?_
      refine pz_bd (pc_hcopy hyI.1 (B := 12) (B1 := 273 + 27 * i) (by omega) a2) (fun _ σ2 h2 => ?_)
      obtain ⟨u1, v1, v2⟩ := h2
      refine pz_bd (pc_forget (h := y.1.1)) (fun _ σ3 h3 => ?_)
      obtain ⟨x1, x2, x3⟩ := h3
      refine pz_rdN (k := i) (f := fun k => 282 + 27 * k) rfl hi (by decide) ?_
      have hS : pc_Ws y.1 (282 + 27 * i) σ3 y.2 := pc_S.congr a3 (fun o ho => by rw [x1 _ (by omega), v1 _ (by omega)]) (by rw [x2, v2])
      refine pz_bd (pc_copy (B := 26) (by omega) hD hS (Or.inl rfl)) (fun _ σ4 h4 => ?_)
      obtain ⟨s4, fb⟩ := h4
      rw [pz_lt]
      refine pz_done ⟨rfl, ?_⟩
      have b1 : ∀ j, j ≠ 0 → j < 12 ∨ j = 24 ∨ j = 25 ∨ 44 ≤ j ∨ j = 21 ∨ j = 22 → (ps_rI σ4 0 (upd (σ4.1 0) 11 0)).1 j = σ.1 j := fun j h0 hj => by rw [ps_rI_ne _ _ h0, fb.1 j (by omega), x1 j (by omega), v1 j (by omega)]
      have b2 : ∀ j, j < 26 ∨ 44 ≤ j → (ps_rI σ4 0 (upd (σ4.1 0) 11 0)).2.2 j = σ.2.2 j := fun j hj => by rw [ps_rI_2, fb.2.2 j hj, x2, v2]
      have b3 : (ps_rI σ4 0 (upd (σ4.1 0) 11 0)).2.1 = σ.2.1 := by rw [ps_rI_2, fb.2.1, x2, v2]
      have b4 : ∀ j, j ≠ 11 → (ps_rI σ4 0 (upd (σ4.1 0) 11 0)).1 0 j = σ.1 0 j := fun j hj => by rw [ps_rI_at, upd_ne _ _ hj, fb.1 0 (by omega), x1 0 (by decide), v1 0 (by omega)]
      have b5 : (ps_rI σ4 0 (upd (σ4.1 0) 11 0)).1 0 11 = 0 := by rw [ps_rI_at, upd_self]
      have b6 : ∀ o, o < 9 → (ps_rI σ4 0 (upd (σ4.1 0) 11 0)).1 (12 + o) = σ2.1 (12 + o) := fun o ho => by rw [ps_rI_ne _ _ (by omega), fb.1 _ (by omega), x1 _ (by omega)]
      have b7 : ∀ o, o < 18 → (ps_rI σ4 0 (upd (σ4.1 0) 11 0)).1 (26 + o) = σ4.1 (26 + o) := fun o ho => ps_rI_ne _ _ (by omega)
      have b8 : (ps_rI σ4 0 (upd (σ4.1 0) 11 0)).1 23 = σ3.1 23 := by rw [ps_rI_ne _ _ (by decide), fb.1 23 (by omega)]
      have b9 : (ps_rI σ4 0 (upd (σ4.1 0) 11 0)).1 24 = σ3.1 24 := by rw [ps_rI_ne _ _ (by decide), fb.1 24 (by omega)]
      have b10 : (ps_rI σ4 0 (upd (σ4.1 0) 11 0)).2.2 (26 + 6) = σ4.2.2 (26 + 6) := rfl
      generalize ps_rI σ4 0 (upd (σ4.1 0) 11 0) = τ at b1 b2 b3 b4 b5 b6 b7 b8 b9 b10 ⊢
      exact ⟨⟨⟨pc_S.congr s4 b7 b10, u1.congr b6, x3.congr b8 b9⟩, ⟨f, f1, by rw [b4 10 (by decide)]; exact f2, b5, fun j hj => absurd hj (by omega)⟩, w4.congr (fun k hk => ⟨b1 k (by omega) (by omega), b2 k (by omega)⟩), w5.congr (fun k hk => ⟨b1 k (by omega) (by omega), by rw [b3]⟩), w6.congr (b1 1 (by decide) (by omega)) (b4 1 (by decide)), by rw [b1 11 (by decide) (by omega)]; exact w7⟩, fun j hj => ⟨b1 j (by omega) (by omega), by rw [b3], b2 j (by omega)⟩⟩
    · unfold qX9_restore
      refine pg_th hg (fun τ1 hg1 k1 => ?_)
      refine pz_bd' (pg_i1 (lo := 0) (hi := 1) (by decide) (by decide) (fun hh => c (Or.inl hh)) (fun hh => c (Or.inr hh))) ?_
      refine pz_e (by decide) ?_
      obtain ⟨w1, w3, w4, w5, w6, w7⟩ := hg1
      obtain ⟨a1, a2, a3⟩ := (w4 i hi).2 y hy
      refine pz_rd (k := i) rfl hi (by decide) a1 ?_
      refine pz_e (by decide) ?_
      have l1 : qX9_restore_32 (nI i) ps_N 0 τ1 = some (nI 1850, ps_rI τ1 328 (pz_cp (τ1.1 328) (τ1.1 328) (1850 * (i + 1)) 0 0 1850)) := pz_cpI (F := qX9_restore_32 (nI i)) (a := fun _ x => 1850 * (nI i + 1) + x) (b := fun _ x => x) (fun _ => True) (fun n x σ => rfl) rfl (by decide) (fun σ k _ _ => pz_ci i k) (fun σ k _ _ => by rw [Nat.zero_add]) (show 1850 * (i + 1) + 1850 ≤ 5550 by omega) (by decide) (by decide) (by decide) (Or.inr (fun a b _ _ => by omega)) (fun _ _ _ _ _ => trivial) 1850 0 ps_N τ1 (by decide) (by unfold ps_N; decide) trivial
      refine pz_bd' l1 ?_
      have c1 : ∀ j, 1850 ≤ j → (ps_rI τ1 328 (pz_cp (τ1.1 328) (τ1.1 328) (1850 * (i + 1)) 0 0 1850)).1 328 j = τ1.1 328 j := fun j hj => by rw [ps_rI_at, pz_cp_out (by omega)]
      have c2 : ∀ j, j < 1850 → (ps_rI τ1 328 (pz_cp (τ1.1 328) (τ1.1 328) (1850 * (i + 1)) 0 0 1850)).1 328 j = τ1.1 328 (1850 * (i + 1) + j) := fun j hj => by
        have := pz_cp_in (s := τ1.1 328) (d := τ1.1 328) (A := 1850 * (i + 1)) (B := 0) (i := 0) (N := 1850) (k := j) (by omega) hj
        rw [Nat.zero_add] at this
        rw [ps_rI_at, this]
      have c3 : ∀ j, j ≠ 328 → (ps_rI τ1 328 (pz_cp (τ1.1 328) (τ1.1 328) (1850 * (i + 1)) 0 0 1850)).1 j = τ1.1 j := fun j hj => ps_rI_ne _ _ hj
      have c4 : (ps_rI τ1 328 (pz_cp (τ1.1 328) (τ1.1 328) (1850 * (i + 1)) 0 0 1850)).2 = τ1.2 := rfl
      generalize ps_rI τ1 328 (pz_cp (τ1.1 328) (τ1.1 328) (1850 * (i + 1)) 0 0 1850) = τ2 at c1 c2 c3 c4 ⊢
      have l2 : qX9_restore_67 (nI i) ps_N 0 τ2 = some (nI 44, ps_rD τ2 329 (pz_cp (τ2.2.2 329) (τ2.2.2 329) (44 * (i + 1)) 0 0 44)) := pz_cpD (F := qX9_restore_67 (nI i)) (a := fun _ x => 44 * (nI i + 1) + x) (b := fun _ x => x) (fun _ => True) (fun n x σ => rfl) rfl (by decide) (fun σ k _ _ => pz_cd i k) (fun σ k _ _ => by rw [Nat.zero_add]) (show 44 * (i + 1) + 44 ≤ 132 by omega) (by decide) (by decide) (by decide) (Or.inr (fun a b _ _ => by omega)) (fun _ _ _ _ _ => trivial) 44 0 ps_N τ2 (by decide) (by unfold ps_N; decide) trivial
      refine pz_bd' l2 ?_
      have d1 : ∀ j, 44 ≤ j → (ps_rD τ2 329 (pz_cp (τ2.2.2 329) (τ2.2.2 329) (44 * (i + 1)) 0 0 44)).2.2 329 j = τ1.2.2 329 j := fun j hj => by rw [ps_rD_at, pz_cp_out (by omega), c4]
      have d2 : ∀ j, j < 44 → (ps_rD τ2 329 (pz_cp (τ2.2.2 329) (τ2.2.2 329) (44 * (i + 1)) 0 0 44)).2.2 329 j = τ1.2.2 329 (44 * (i + 1) + j) := fun j hj => by
        have := pz_cp_in (s := τ2.2.2 329) (d := τ2.2.2 329) (A := 44 * (i + 1)) (B := 0) (i := 0) (N := 44) (k := j) (by omega) hj
        rw [Nat.zero_add] at this
        rw [ps_rD_at, this, c4]
      have d3 : (ps_rD τ2 329 (pz_cp (τ2.2.2 329) (τ2.2.2 329) (44 * (i + 1)) 0 0 44)).1 = τ2.1 := rfl
      have d4 : ∀ j, j ≠ 329 → (ps_rD τ2 329 (pz_cp (τ2.2.2 329) (τ2.2.2 329) (44 * (i + 1)) 0 0 44)).2.2 j = τ1.2.2 j := fun j hj => by rw [ps_rD_ne _ _ hj, c4]
      have d5 : (ps_rD τ2 329 (pz_cp (τ2.2.2 329) (τ2.2.2 329) (44 * (i + 1)) 0 0 44)).2.1 = τ1.2.1 := by rw [ps_rD_21, c4]
      generalize ps_rD τ2 329 (pz_cp (τ2.2.2 329) (τ2.2.2 329) (44 * (i + 1)) 0 0 44) = τ3 at d1 d2 d3 d4 d5 ⊢
      rw [pz_lt]
      refine pz_done ⟨rfl, ?_⟩
      have e1 : ∀ j, 1850 ≤ j → (ps_rI τ3 328 (upd (τ3.1 328) 118 0)).1 328 j = τ1.1 328 j := fun j hj => by rw [ps_rI_at, upd_ne _ _ (by omega), d3, c1 j hj]
      have e2 : ∀ j, j < 1850 → j ≠ 118 → (ps_rI τ3 328 (upd (τ3.1 328) 118 0)).1 328 j = τ1.1 328 (1850 * (i + 1) + j) := fun j hj h8 => by rw [ps_rI_at, upd_ne _ _ h8, d3, c2 j hj]
      have e3 : ∀ j, j ≠ 328 → (ps_rI τ3 328 (upd (τ3.1 328) 118 0)).1 j = τ1.1 j := fun j hj => by rw [ps_rI_ne _ _ hj, d3, c3 j hj]
      have e4 : (ps_rI τ3 328 (upd (τ3.1 328) 118 0)).1 328 118 = 0 := by rw [ps_rI_at, upd_self]
      have e5 : (ps_rI τ3 328 (upd (τ3.1 328) 118 0)).2 = τ3.2 := rfl
      generalize ps_rI τ3 328 (upd (τ3.1 328) 118 0) = υ at e1 e2 e3 e4 e5 ⊢
      refine ⟨⟨⟨?_, ?_, ?_⟩, ⟨e4, fun j hj => absurd hj (by omega)⟩, w4.congr (fun i hi y hy => (hW.2.2.2.1 i hi y hy).1.1.1.2) (e3 330 (by decide)) e1 (fun k hk => by rw [e5]; exact d1 k hk), w5.congr (e3 342 (by decide)) (e3 343 (by decide)) (by rw [e5, d5]), w6.congr (e3 331 (by decide)) (by rw [e3 327 (by decide)]), by rw [e3 327 (by decide)]; exact w7⟩, fun j hj => ?_⟩
      · rw [← a2]
        unfold pg_h pg_hh
        funext k
        by_cases q : k < 35 ∨ (949 ≤ k ∧ k < 1850)
        · rw [if_pos q, if_pos q, e2 k (by omega) (by omega)]
        · rw [if_neg q, if_neg q]
      · rw [← a3.1]
        unfold pg_nr
        exact pa_can_ext (fun k hk => by rw [e2 (35 + k) (by omega) (by omega), Nat.add_assoc])
      · rw [← a3.2]
        unfold pg_ne
        funext k
        by_cases q : k < y.1.2.1
        · rw [if_pos q, if_pos q, Nat.zero_add, e5, d2 k (by omega)]
        · rw [if_neg q, if_neg q]
      · have := k1.1 j hj
        exact ⟨(e3 j (by omega)).trans this.1, by rw [e5, d5]; exact this.2.1, by rw [e5, d4 j (by omega)]; exact this.2.2⟩
end IMG
