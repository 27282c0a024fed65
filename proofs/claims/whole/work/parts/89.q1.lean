/-! questions of what there is -/
theorem pa_sum_ext {r : pa_R} {a n : Nat} : ∀ m, (∀ i, n ≤ i → i < n + m → r (a + i) = 0) → pa_sum r a (n + m) = pa_sum r a n
  | 0, _ => rfl
  | m + 1, h => by
    rw [← Nat.add_assoc, pa_sum, pa_sum_ext m (fun i h1 h2 => h i h1 (by omega)), h (n + m) (by omega) (by omega)]
    exact Int32.add_zero _
theorem pa_don4 {h r : pa_R} {D F W : Nat} (hI : pa_HI h D F W) : ∀ n, n ≤ F → pa_sum (fun k => pa_don h r (nI k) n) 0 4 = pa_sum r 1 n
  | 0, _ => by
    show (0 + 0 + 0 + 0 + 0 : Int32) = 0
    decide
  | n + 1, hn => by
    have hD := hI.1.2
    obtain ⟨d, hd, ed⟩ := hI.2.2.2.1 n (by omega)
    have ih := pa_don4 (r := r) hI n (by omega)
    show _ = pa_sum r 1 n + r (1 + n)
    rw [← ih]
    show 0 + pa_don h r (nI 0) (n + 1) + pa_don h r (nI 1) (n + 1) + pa_don h r (nI 2) (n + 1) + pa_don h r (nI 3) (n + 1) = 0 + pa_don h r (nI 0) n + pa_don h r (nI 1) n + pa_don h r (nI 2) n + pa_don h r (nI 3) n + r (1 + n)
    rw [pa_don, pa_don, pa_don, pa_don, ed]
    have hd4 : d = 0 ∨ d = 1 ∨ d = 2 ∨ d = 3 := by omega
    generalize pa_don h r (nI 0) n = a0
    generalize pa_don h r (nI 1) n = a1
    generalize pa_don h r (nI 2) n = a2
    generalize pa_don h r (nI 3) n = a3
    generalize r (1 + n) = v
    rcases hd4 with rfl | rfl | rfl | rfl
    · rw [if_pos rfl, if_neg (by decide), if_neg (by decide), if_neg (by decide), Int32.add_zero, Int32.add_zero, Int32.add_zero]
      ac_rfl
    · rw [if_neg (by decide), if_pos rfl, if_neg (by decide), if_neg (by decide), Int32.add_zero, Int32.add_zero, Int32.add_zero]
      ac_rfl
    · rw [if_neg (by decide), if_neg (by decide), if_pos rfl, if_neg (by decide), Int32.add_zero, Int32.add_zero, Int32.add_zero]
      ac_rfl
    · rw [if_neg (by decide), if_neg (by decide), if_neg (by decide), if_pos rfl, Int32.add_zero, Int32.add_zero, Int32.add_zero]
      ac_rfl
theorem pa_don12 {h r : pa_R} {D F W : Nat} (hI : pa_HI h D F W) (hA : pa_IA r D F) : pa_sum (fun k => pa_don h r (nI k) F) 0 4 = pa_sum r 1 12 := by
  have hF := hI.2.1.2
  rw [pa_don4 hI F (Nat.le_refl _)]
  have := pa_sum_ext (r := r) (a := 1) (n := F) (12 - F) (fun i h1 h2 => hA.2.2.2.1 i h1 (by omega))
  rw [show F + (12 - F) = 12 by omega] at this
  exact this.symm
section Q1
variable {T : Nat} {σ : ps_S} {p1 p2 : Int32}
/-- sums of rows of a state of the class -/
theorem pc_dirtyAll {H : pa_H} {x : pa_X} {p : pa_P} {σ0 : ps_S} {B : Nat} (hI : pa_WH H) (hA : pa_IA x.1 H.2.1 H.2.2.1) (g : pc_S H.1 H.2.1 H.2.2.1 H.2.2.2 B σ x.1 x.2 p) : ps_ok (qX6_dirtyInAll B σ) (fun v τ => v = pa_sum x.1 1 12 ∧ τ = σ) := by
  unfold qX6_dirtyInAll
  refine pz_bd (pc_sum (r := fun k => pa_don H.1 x.1 (nI k) H.2.2.1) (a := 0) (by decide) (fun i hi => by rw [g.2.2.2.1 i hi, Nat.zero_add])) (fun v τ ev => ?_)
  obtain ⟨rfl, rfl⟩ := ev
  exact pz_done ⟨pa_don12 hI.1 hA, rfl⟩
theorem pc_wroteAll {h : pa_R} {D F W B : Nat} {r : pa_R} {e : pa_D} {p : pa_P} (g : pc_S h D F W B σ r e p) : ps_ok (qX6_writtenInAll B σ) (fun v τ => v = pa_sum r 45 4 ∧ τ = σ) := by
  unfold qX6_writtenInAll
  refine pz_bd (pc_sum (r := r) (a := 45) (by decide) (fun i hi => g.Q.rd8 hi)) (fun v τ ev => ?_)
  obtain ⟨rfl, rfl⟩ := ev
  exact pz_done ⟨rfl, rfl⟩
theorem pc_madeAll {h : pa_R} {D F W B : Nat} {r : pa_R} {e : pa_D} {p : pa_P} (g : pc_S h D F W B σ r e p) : ps_ok (qX6_madeInAll B σ) (fun v τ => v = pa_sum r 71 6 ∧ τ = σ) := by
  unfold qX6_madeInAll
  refine pz_bd (pc_sum (r := r) (a := 71) (by decide) (fun i hi => g.Q.rd16 hi)) (fun v τ ev => ?_)
  obtain ⟨rfl, rfl⟩ := ev
  exact pz_done ⟨rfl, rfl⟩
theorem pc_heldAll {h : pa_R} {D F W B : Nat} {r : pa_R} {e : pa_D} {p : pa_P} (g : pc_S h D F W B σ r e p) : ps_ok (qX6_heldInAll B σ) (fun v τ => v = pa_sum r 77 6 ∧ τ = σ) := by
  unfold qX6_heldInAll
  refine pz_bd (pc_sum (r := r) (a := 77) (by decide) (fun i hi => g.Q.rd17 hi)) (fun v τ ev => ?_)
  obtain ⟨rfl, rfl⟩ := ev
  exact pz_done ⟨rfl, rfl⟩
theorem pw_fault (w : pw_W T σ) : pw_call T (qX8_fault p1) (qX9_fault p1) σ := by
  obtain ⟨H, x, n, P, im, tr, tp, fl, hW, hc, hg⟩ := w
  refine pw_query (a := if p1 = 0 then fl.1 else if p1 = 1 then fl.2 else -1) hW hc hg ?_ (fun τ hg => ?_)
  · unfold qX8_fault
    refine pz_sw (fun _ => ?_) (fun _ => pz_sw (fun _ => ?_) (fun _ => ?_))
    · exact pz_l hc.2.2.2.2.2.1 (pz_done ⟨rfl, pc_kp.rf _, hc.1.2.2⟩)
    · exact pz_l hc.2.2.2.2.2.2 (pz_done ⟨rfl, pc_kp.rf _, hc.1.2.2⟩)
    · exact pz_done ⟨rfl, pc_kp.rf _, hc.1.2.2⟩
  · unfold qX9_fault
    refine pg_th hg (fun τ1 hg1 k1 => ?_)
    refine pz_sw (fun _ => ?_) (fun _ => pz_sw (fun _ => ?_) (fun _ => ?_))
    · exact pz_l hg1.2.2.2.2.2.1 (pz_done ⟨rfl, k1⟩)
    · exact pz_l hg1.2.2.2.2.2.2 (pz_done ⟨rfl, k1⟩)
    · exact pz_done ⟨rfl, k1⟩
theorem pw_set (w : pw_W T σ) : pw_call T (qX8_set p1) (qX9_set p1) σ := by
  obtain ⟨H, x, n, P, im, tr, tp, fl, hW, hc, hg⟩ := w
  obtain ⟨bg, b1, b2, b3⟩ := pa_bg hW.1.1
  obtain ⟨_, L, l1, l2, l3, l4⟩ := pa_p0I hW.1
  have l1' : H.1 10 = nI L := l1
  by_cases c : p1 < 0 ∨ 7 < p1
  · refine pw_query (a := -2) hW hc hg ?_ (fun τ hg => ?_)
    · unfold qX8_set
      have ne : ∀ q : Int32, (0 ≤ q ∧ q ≤ 7) → ¬ p1 = q := by
        intro q hq e
        subst e
        rcases c with c | c
        · exact absurd c (Int32.not_lt.mpr hq.1)
        · exact absurd c (Int32.not_lt.mpr hq.2)
      refine pz_e (ne 0 (by decide)) (pz_e (ne 1 (by decide)) (pz_e (ne 2 (by decide)) (pz_e (ne 3 (by decide)) (pz_e (ne 4 (by decide)) (pz_e (ne 5 (by decide)) (pz_e (ne 6 (by decide)) (pz_e (ne 7 (by decide)) ?_)))))))
      exact pz_done ⟨rfl, pc_kp.rf _, hc.1.2.2⟩
    · unfold qX9_set
      refine pg_th hg (fun τ1 hg1 k1 => ?_)
      refine pz_bd' (pg_i0 (lo := 0) (hi := 7) (by decide) (by decide) c) ?_
      exact pz_t rfl (pz_done ⟨rfl, k1⟩)
  · obtain ⟨m, -, hm, rfl⟩ := pa_num 0 7 (by decide) (by decide) c
    have hm8 : m = 0 ∨ m = 1 ∨ m = 2 ∨ m = 3 ∨ m = 4 ∨ m = 5 ∨ m = 6 ∨ m = 7 := by omega
    refine pw_query (a := if m = 7 then nI (pa_fr H.1 L) else H.1 (10 + m)) hW hc hg ?_ (fun τ hg => ?_)
    · unfold qX8_set
      rcases hm8 with rfl | rfl | rfl | rfl | rfl | rfl | rfl | rfl

      · exact pz_t (by decide) (pz_l hc.hH.1.1 (pz_done ⟨rfl, pc_kp.rf _, hc.1.2.2⟩))
      · exact pz_e (by decide) (pz_t (by decide) (pz_l hc.hH.1.2.1 (pz_done ⟨rfl, pc_kp.rf _, hc.1.2.2⟩)))
      · exact pz_e (by decide) (pz_e (by decide) (pz_t (by decide) (pz_l hc.hH.1.2.2.1 (pz_done ⟨rfl, pc_kp.rf _, hc.1.2.2⟩))))
      · exact pz_e (by decide) (pz_e (by decide) (pz_e (by decide) (pz_t (by decide) (pz_l hc.hH.1.2.2.2.1 (pz_done ⟨rfl, pc_kp.rf _, hc.1.2.2⟩)))))
      · exact pz_e (by decide) (pz_e (by decide) (pz_e (by decide) (pz_e (by decide) (pz_t (by decide) (pz_l hc.hH.1.2.2.2.2.1 (pz_done ⟨rfl, pc_kp.rf _, hc.1.2.2⟩))))))
      · exact pz_e (by decide) (pz_e (by decide) (pz_e (by decide) (pz_e (by decide) (pz_e (by decide) (pz_t (by decide) (pz_l hc.hH.1.2.2.2.2.2.1 (pz_done ⟨rfl, pc_kp.rf _, hc.1.2.2⟩)))))))
      · exact pz_e (by decide) (pz_e (by decide) (pz_e (by decide) (pz_e (by decide) (pz_e (by decide) (pz_e (by decide) (pz_t (by decide) (pz_l hc.hH.1.2.2.2.2.2.2.1 (pz_done ⟨rfl, pc_kp.rf _, hc.1.2.2⟩))))))))
      · refine pz_e (by decide) (pz_e (by decide) (pz_e (by decide) (pz_e (by decide) (pz_e (by decide) (pz_e (by decide) (pz_e (by decide) (pz_t (by decide) ?_)))))))
        refine pz_bd' (pc_free hW.1.1 hc.hH hc.T l1 l4) ?_
        exact pz_done ⟨rfl, pc_kp.rf _, hc.1.2.2⟩
    · unfold qX9_set
      refine pg_th hg (fun τ1 hg1 k1 => ?_)
      refine pz_bd' (pg_i1 (lo := 0) (hi := 7) (by decide) (by decide) (fun hh => c (Or.inl hh)) (fun hh => c (Or.inr hh))) ?_
      refine pz_e (by decide) ?_
      by_cases c7 : m = 7
      · subst c7
        refine pz_t (by decide) ?_
        refine pz_l ((hg1.hd (by omega)).trans b1) ?_
        refine pz_l ((hg1.hd (by omega)).trans l1') ?_
        refine pz_done ⟨?_, k1⟩
        have e3 : nI (bg + L) / 2 = nI ((bg + L) / 2) := nI_div (a := bg + L) (b := 2) (by omega) (by omega)
        rw [if_pos rfl, nI_add, e3]
        unfold pa_fr
        rw [b3]
      · refine pz_e (nI_ge (a := m) (b := 7) (by omega) (by omega)) ?_
        rw [if_neg c7]
        refine pz_rd (k := 10 + m) (nI_add 10 m) (by omega) (by decide) (hg1.hd (by omega)) ?_
        exact pz_done ⟨rfl, k1⟩
theorem pw_next (w : pw_W T σ) : pw_call T (qX8_next p1) (qX9_next p1) σ := by
  obtain ⟨H, x, n, P, im, tr, tp, fl, hW, hc, hg⟩ := w
  have hD := hW.1.1.1.2
  by_cases c : p1 < 0 ∨ nI H.2.1 ≤ p1
  · refine pw_query (a := -2) hW hc hg ?_ (fun τ hg => ?_)
    · unfold qX8_next
      refine pz_bd' (pc_dev0 hW.1 hc.hH c) ?_
      exact pz_t rfl (pz_done ⟨rfl, pc_kp.rf _, hc.1.2.2⟩)
    · unfold qX9_next
      refine pg_th hg (fun τ1 hg1 k1 => ?_)
      refine pz_bd' (pg_dev0 hW.1 hg1 c) ?_
      exact pz_t rfl (pz_done ⟨rfl, k1⟩)
  · obtain ⟨d, hd, rfl⟩ := pa_idx (by omega) c
    obtain ⟨t, t1, iv⟩ := hW.2.1
    obtain ⟨h41, h42⟩ := iv.1.2.1 d (by omega)
    obtain ⟨e41, -⟩ := pa_NNe h41
    refine pw_query (a := pa_next H.1 x.1 d (x.1 (41 + d)).toNatClampNeg H.2.2.1) hW hc hg ?_ (fun τ hg => ?_)
    · unfold qX8_next
      refine pz_bd' (pc_dev1 hW.1 hc.hH c) ?_
      refine pz_e (by decide) ?_
      have hr : pc_r H.2.1 H.2.2.2 26 σ = x.1 := hc.1.1.1
      have e1 := pc_old (B := 26) hW.1.1 hc.hH (nI d)
      rw [hr] at e1
      refine pz_bd' e1 ?_
      unfold pa_next
      refine pz_if (fun q => ?_) (fun q => ?_)
      · rw [if_pos q]
        have e2 := pc_turn (B := 26) (t := (x.1 (41 + d)).toNatClampNeg) hW.1.1 hc.hH (show d < 4 by omega) (by rw [hr]; exact e41) h42 (by rw [hr]; exact hc.1.1.2.2.1)
        rw [hr] at e2
        refine pz_bd' e2 ?_
        exact pz_done ⟨rfl, pc_kp.rf _, hc.1.2.2⟩
      · rw [if_neg q]
        exact pz_done ⟨rfl, pc_kp.rf _, hc.1.2.2⟩
    · unfold qX9_next
      refine pg_th hg (fun τ1 hg1 k1 => ?_)
      refine pz_bd' (pg_dev1 hW.1 hg1 c) ?_
      refine pz_e (by decide) ?_
      refine pz_bd (pg_bg hW.1 hg1) (fun _ τ2 h2 => ?_)
      obtain ⟨g2, k2, hg2⟩ := h2
      have e1 := pg_nextOn (D := H.2.1) (F := H.2.2.1) (W := H.2.2.2) (σ := τ2) (d := d) (t := (x.1 (41 + d)).toNatClampNeg) (by rw [g2.2.2.1]; exact hW.1.1) (by omega) (by rw [g2.1]; exact e41) h42
      rw [g2.2.2.1, g2.1] at e1
      refine pz_bd' e1 ?_
      exact pz_done ⟨rfl, k1.tr k2⟩
theorem pw_pause (w : pw_W T σ) (hT : T ≤ 3000000) : pw_call T (qX8_pause p1 p2) (qX9_pause p1 p2) σ := by
  obtain ⟨H, x, n, P, im, tr, tp, fl, hW, hc, hg⟩ := w
  have hWl := hW.1.1.2.2.1.2
  obtain ⟨_, L, l1, l2, l3, l4⟩ := pa_p0I hW.1
  by_cases c : p1 < 0 ∨ nI H.2.2.2 ≤ p1
  · refine pw_query (a := -2) hW hc hg ?_ (fun τ hg => ?_)
    · unfold qX8_pause
      refine pz_bd' (pc_wri0 hW.1 hc.hH c) ?_
      exact pz_t rfl (pz_done ⟨rfl, pc_kp.rf _, hc.1.2.2⟩)
    · unfold qX9_pause
      refine pg_th hg (fun τ1 hg1 k1 => ?_)
      refine pz_bd' (pg_wri0 hW.1 hg1 c) ?_
      exact pz_t rfl (pz_done ⟨rfl, k1⟩)
  · obtain ⟨d, hd, rfl⟩ := pa_idx (by omega) c
    by_cases c2 : p2 < 1 ∨ 99 < p2
    · refine pw_query (a := -3) hW hc hg ?_ (fun τ hg => ?_)
      · unfold qX8_pause
        refine pz_bd' (pc_wri1 hW.1 hc.hH c) ?_
        refine pz_e (by decide) ?_
        refine pz_if (fun _ => pz_done ⟨rfl, pc_kp.rf _, hc.1.2.2⟩) (fun q => ?_)
        exact pz_e (Int32.not_le.mpr (c2.resolve_left q)) (pz_done ⟨rfl, pc_kp.rf _, hc.1.2.2⟩)
      · unfold qX9_pause
        refine pg_th hg (fun τ1 hg1 k1 => ?_)
        refine pz_bd' (pg_wri1 hW.1 hg1 c) ?_
        refine pz_e (by decide) ?_
        refine pz_bd' (pg_i0 (lo := 1) (hi := 99) (by decide) (by decide) c2) ?_
        exact pz_t rfl (pz_done ⟨rfl, k1⟩)
    · obtain ⟨y, y1, y2, rfl⟩ := pa_num 1 99 (by decide) (by decide) c2
      obtain ⟨t, t1, iv⟩ := hW.2.1
      refine pw_query (a := if nI (pa_fr H.1 L) < pa_all x.1 then pa_pau H.1 x.1 x.2 H.2.1 H.2.2.1 H.2.2.2 L d (nI y) else 0) hW hc hg ?_ (fun τ hg => ?_)
      · unfold qX8_pause
        refine pz_bd' (pc_wri1 hW.1 hc.hH c) ?_
        refine pz_e (by decide) ?_
        refine pz_e (fun hh => c2 (Or.inl hh)) ?_
        refine pz_t (Int32.not_lt.mp (fun hh => c2 (Or.inr hh))) ?_
        refine pz_bd (pc_pause hW.1.1 hc.hH hc.T (fun _ _ => rfl) iv.2.2.1 hd l1 l2 l4 iv.2.2.2.2.2.2.2 (by omega) (by omega)) (fun v τ ev => ?_)
        obtain ⟨rfl, rfl⟩ := ev
        exact pz_done ⟨rfl, pc_kp.rf _, hc.1.2.2⟩
      · unfold qX9_pause
        refine pg_th hg (fun τ1 hg1 k1 => ?_)
        refine pz_bd' (pg_wri1 hW.1 hg1 c) ?_
        refine pz_e (by decide) ?_
        refine pz_bd' (pg_i1 (lo := 1) (hi := 99) (by decide) (by decide) (fun hh => c2 (Or.inl hh)) (fun hh => c2 (Or.inr hh))) ?_
        refine pz_e (by decide) ?_
        refine pz_bd (pg_bg hW.1 hg1) (fun _ τ2 h2 => ?_)
        obtain ⟨g2, k2, hg2⟩ := h2
        refine pz_bd' g2.all ?_
        refine pz_bd' (pg_free hW.1.1 g2 l1 l4) ?_
        refine pz_if (fun q => ?_) (fun q => ?_)
        · rw [if_neg (Int32.not_lt.mpr q)]
          exact pz_done ⟨rfl, k1.tr k2⟩
        · rw [if_pos (Int32.not_le.mp q)]
          refine pz_bd (pg_pause hW.1.1 g2 iv.2.2.1 hd l1 l2 l4 iv.2.2.2.2.2.2.2 (by omega) (by omega)) (fun v τ3 ev => ?_)
          obtain ⟨rfl, rfl⟩ := ev
          exact pz_done ⟨rfl, k1.tr k2⟩
theorem pw_count (w : pw_W T σ) : pw_call T (qX8_count p1) (qX9_count p1) σ := by
  obtain ⟨H, x, n, P, im, tr, tp, fl, hW, hc, hg⟩ := w
  obtain ⟨t, t1, iv⟩ := hW.2.1
  refine pw_query (a := if p1 = 0 then H.1 1 else if p1 = 1 then H.1 2 else if p1 = 2 then H.1 3 else if p1 = 3 then x.1 0 else if p1 = 4 then pa_all x.1 else if p1 = 5 then pa_sum x.1 1 12 else if p1 = 6 then pa_sum x.1 71 6 else if p1 = 7 then pa_sum x.1 45 4 else if p1 = 8 then nI n else if p1 = 9 then nI tp.1 else if p1 = 10 then H.1 0 else -1) hW hc hg ?_ (fun τ hg => ?_)
  · unfold qX8_count
    have K : pc_kp σ σ ∧ pc_O H.1 σ := ⟨pc_kp.rf _, hc.1.2.2⟩
    refine pz_sw (fun _ => pz_l hc.hH.1.2.2.2.2.2.2.2.1 (pz_done ⟨rfl, K⟩)) (fun _ => ?_)
    refine pz_sw (fun _ => pz_l hc.hH.1.2.2.2.2.2.2.2.2.1 (pz_done ⟨rfl, K⟩)) (fun _ => ?_)
    refine pz_sw (fun _ => pz_l hc.hH.1.2.2.2.2.2.2.2.2.2.1 (pz_done ⟨rfl, K⟩)) (fun _ => ?_)
    refine pz_sw (fun _ => pc_lt hc.T (pz_done ⟨rfl, K⟩)) (fun _ => ?_)
    refine pz_sw (fun _ => pc_la hc.T (pz_done ⟨rfl, K⟩)) (fun _ => ?_)
    refine pz_sw (fun _ => pz_bd (pc_dirtyAll (σ0 := σ) hW.1 iv.1.1 hc.1.1) (fun v τ ev => ?_)) (fun _ => ?_)
    · obtain ⟨rfl, rfl⟩ := ev
      exact pz_done ⟨rfl, K⟩
    refine pz_sw (fun _ => pz_bd (pc_madeAll hc.1.1) (fun v τ ev => ?_)) (fun _ => ?_)
    · obtain ⟨rfl, rfl⟩ := ev
      exact pz_done ⟨rfl, K⟩
    refine pz_sw (fun _ => pz_bd (pc_wroteAll hc.1.1) (fun v τ ev => ?_)) (fun _ => ?_)
    · obtain ⟨rfl, rfl⟩ := ev
      exact pz_done ⟨rfl, K⟩
    obtain ⟨f, f1, f2, f3, f4⟩ := hc.2.1
    refine pz_sw (fun _ => pz_l f3 (pz_done ⟨rfl, K⟩)) (fun _ => ?_)
    refine pz_sw (fun _ => pz_l hc.2.2.2.2.1.1 (pz_done ⟨rfl, K⟩)) (fun _ => ?_)
    refine pz_sw (fun _ => pz_l hc.hH.1.2.2.2.2.2.2.2.2.2.2 (pz_done ⟨rfl, K⟩)) (fun _ => ?_)
    exact pz_done ⟨rfl, K⟩
  · unfold qX9_count
    refine pg_th hg (fun τ1 hg1 k1 => ?_)
    refine pz_bd (pg_bg hW.1 hg1) (fun _ τ2 h2 => ?_)
    obtain ⟨g2, k2, hg2⟩ := h2
    have K := k1.tr k2
    have s1 : qX9_sumOf 1 12 τ2 = some (pa_sum x.1 1 12, τ2) := g2.sum (a := 1) (n := 12) (by omega) (by omega) (by omega)
    have s2 : qX9_sumOf 71 6 τ2 = some (pa_sum x.1 71 6, τ2) := g2.sum (a := 71) (n := 6) (by omega) (by omega) (by omega)
    have s3 : qX9_wroteInAll τ2 = some (pa_sum x.1 45 4, τ2) := by
      have q : qX9_sumOf 45 4 τ2 = some (pa_sum x.1 45 4, τ2) := g2.sum (a := 45) (n := 4) (by omega) (by omega) (by omega)
      unfold qX9_wroteInAll
      rw [pz_bde q]
    refine pz_sw (fun _ => pg_hl g2 1 (by omega) (pz_done ⟨rfl, K⟩)) (fun _ => ?_)
    refine pz_sw (fun _ => pg_hl g2 2 (by omega) (pz_done ⟨rfl, K⟩)) (fun _ => ?_)
    refine pz_sw (fun _ => pg_hl g2 3 (by omega) (pz_done ⟨rfl, K⟩)) (fun _ => ?_)
    refine pz_sw (fun _ => pg_lt g2 (pz_done ⟨rfl, K⟩)) (fun _ => ?_)
    refine pz_sw (fun _ => pz_bd' g2.all (pz_done ⟨rfl, K⟩)) (fun _ => ?_)
    refine pz_sw (fun _ => pz_bd' s1 (pz_done ⟨rfl, K⟩)) (fun _ => ?_)
    refine pz_sw (fun _ => pz_bd' s2 (pz_done ⟨rfl, K⟩)) (fun _ => ?_)
    refine pz_sw (fun _ => pz_bd' s3 (pz_done ⟨rfl, K⟩)) (fun _ => ?_)
    refine pz_sw (fun _ => pz_l hg2.2.1.1 (pz_done ⟨rfl, K⟩)) (fun _ => ?_)
    refine pz_sw (fun _ => pz_l hg2.2.2.2.2.1.1 (pz_done ⟨rfl, K⟩)) (fun _ => ?_)
    refine pz_sw (fun _ => pg_hl g2 0 (by omega) (pz_done ⟨rfl, K⟩)) (fun _ => ?_)
    exact pz_done ⟨rfl, K⟩
theorem pw_device (w : pw_W T σ) (hT : T ≤ 3000000) : pw_call T (qX8_device p1 p2) (qX9_device p1 p2) σ := by
  obtain ⟨H, x, n, P, im, tr, tp, fl, hW, hc, hg⟩ := w
  have hD := hW.1.1.1.2
  obtain ⟨_, L, l1, l2, l3, l4⟩ := pa_p0I hW.1
  by_cases c : p1 < 0 ∨ nI H.2.1 ≤ p1
  · refine pw_query (a := -2) hW hc hg ?_ (fun τ hg => ?_)
    · unfold qX8_device
      refine pz_bd' (pc_dev0 hW.1 hc.hH c) ?_
      exact pz_t rfl (pz_done ⟨rfl, pc_kp.rf _, hc.1.2.2⟩)
    · unfold qX9_device
      refine pg_th hg (fun τ1 hg1 k1 => ?_)
      refine pz_bd' (pg_dev0 hW.1 hg1 c) ?_
      exact pz_t rfl (pz_done ⟨rfl, k1⟩)
  · obtain ⟨d, hd, rfl⟩ := pa_idx (by omega) c
    obtain ⟨t, t1, iv⟩ := hW.2.1
    have hd4 : d < 4 := by omega
    have hE := iv.2.2.2.2.2.2.2 d hd
    have hnn : ps_nn (FP.dmul (x.2 d) 4652007308841189376) = true := pf_nn (pf_mul (Kb := 1034) (hE.m (by omega)) (by unfold pf_m; decide +kernel) (by omega) (by omega)) (by omega)
    refine pw_query (a := if p2 = 0 then (x.1 (25 + d)).toInt64 else if p2 = 1 then (x.1 (29 + d)).toInt64 else if p2 = 2 then (pa_don H.1 x.1 (nI d) H.2.2.1).toInt64 else if p2 = 3 then (x.1 (33 + d)).toInt64 else if p2 = 4 then FP.d2l (FP.dmul (x.2 d) 4652007308841189376) else if p2 = 5 then (x.1 (37 + d)).toInt64 else if p2 = 6 then (nI (pa_sh x.1 L H.2.1 d)).toInt64 else if p2 = 7 then (x.1 (45 + d)).toInt64 else if p2 = 8 then (x.1 (49 + d)).toInt64 else -2) hW hc hg ?_ (fun τ hg => ?_)
    · unfold qX8_device
      refine pz_bd' (pc_dev1 hW.1 hc.hH c) ?_
      refine pz_e (by decide) ?_
      have K : pc_kp σ σ ∧ pc_O H.1 σ := ⟨pc_kp.rf _, hc.1.2.2⟩
      refine pz_sw (fun _ => pc_l2 hc.T hD hd rfl (pz_done ⟨rfl, K⟩)) (fun _ => ?_)
      refine pz_sw (fun _ => pc_l3 hc.T hd4 rfl (pz_done ⟨rfl, K⟩)) (fun _ => ?_)
      refine pz_sw (fun _ => pc_l4 hc.T hd4 rfl (pz_done ⟨rfl, K⟩)) (fun _ => ?_)
      refine pz_sw (fun _ => pc_l5 hc.T hd4 rfl (pz_done ⟨rfl, K⟩)) (fun _ => ?_)
      refine pz_sw (fun _ => pc_le hc.T hD hd rfl (pz_nnl hnn (pz_done ⟨rfl, K⟩))) (fun _ => ?_)
      refine pz_sw (fun _ => pc_l7 hc.T hd4 rfl (pz_done ⟨rfl, K⟩)) (fun _ => ?_)
      refine pz_sw (fun _ => pz_bd (pc_share hW.1.1 hc.hH hc.T iv.2.2.1 hd l1 l3 l4) (fun v τ ev => ?_)) (fun _ => ?_)
      · obtain ⟨rfl, rfl⟩ := ev
        exact pz_done ⟨rfl, K⟩
      refine pz_sw (fun _ => pc_l8 hc.T hd4 rfl (pz_done ⟨rfl, K⟩)) (fun _ => ?_)
      refine pz_sw (fun _ => pc_l9 hc.T hd4 rfl (pz_done ⟨rfl, K⟩)) (fun _ => ?_)
      exact pz_done ⟨rfl, K⟩
    · unfold qX9_device
      refine pg_th hg (fun τ1 hg1 k1 => ?_)
      refine pz_bd' (pg_dev1 hW.1 hg1 c) ?_
      refine pz_e (by decide) ?_
      refine pz_bd (pg_bg hW.1 hg1) (fun _ τ2 h2 => ?_)
      obtain ⟨g2, k2, hg2⟩ := h2
      have K := k1.tr k2
      refine pz_sw (fun _ => pg_l25 g2 rfl hD hd (pz_a25 d) (pz_done ⟨rfl, K⟩)) (fun _ => ?_)
      refine pz_sw (fun _ => pg_l g2 (k := 29 + d) (by omega) (by omega) (by omega) (pz_a29 d) (pz_done ⟨rfl, K⟩)) (fun _ => ?_)
      refine pz_sw (fun _ => pz_bd (pg_don hW.1.1 g2 (nI d)) (fun v τ ev => ?_)) (fun _ => ?_)
      · obtain ⟨rfl, rfl⟩ := ev
        exact pz_done ⟨rfl, K⟩
      refine pz_sw (fun _ => pg_l g2 (k := 33 + d) (by omega) (by omega) (by omega) (pz_a33 d) (pz_done ⟨rfl, K⟩)) (fun _ => ?_)
      refine pz_sw (fun _ => pg_le g2 hD hd rfl (pz_nnl hnn (pz_done ⟨rfl, K⟩))) (fun _ => ?_)
      refine pz_sw (fun _ => pg_l g2 (k := 37 + d) (by omega) (by omega) (by omega) (pz_a37 d) (pz_done ⟨rfl, K⟩)) (fun _ => ?_)
      refine pz_sw (fun _ => pz_bd (pg_share hW.1.1 g2 iv.2.2.1 hd l1 l3 l4) (fun v τ ev => ?_)) (fun _ => ?_)
      · obtain ⟨rfl, rfl⟩ := ev
        exact pz_done ⟨rfl, K⟩
      refine pz_sw (fun _ => pg_l g2 (k := 45 + d) (by omega) (by omega) (by omega) (pz_a45 d) (pz_done ⟨rfl, K⟩)) (fun _ => ?_)
      refine pz_sw (fun _ => pg_l g2 (k := 49 + d) (by omega) (by omega) (by omega) (pz_a49 d) (pz_done ⟨rfl, K⟩)) (fun _ => ?_)
      exact pz_done ⟨rfl, K⟩
theorem pw_file (w : pw_W T σ) : pw_call T (qX8_file p1 p2) (qX9_file p1 p2) σ := by
  obtain ⟨H, x, n, P, im, tr, tp, fl, hW, hc, hg⟩ := w
  have hF := hW.1.1.2.1.2
  by_cases c : p1 < 0 ∨ nI H.2.2.1 ≤ p1
  · refine pw_query (a := -2) hW hc hg ?_ (fun τ hg => ?_)
    · unfold qX8_file
      refine pz_if (fun _ => pz_done ⟨rfl, pc_kp.rf _, hc.1.2.2⟩) (fun q => ?_)
      refine pz_l (hc.hH.1.2.2.2.2.2.2.2.2.1.trans hW.1.1.2.1.1) ?_
      exact pz_e (Int32.not_lt.mpr (c.resolve_left q)) (pz_done ⟨rfl, pc_kp.rf _, hc.1.2.2⟩)
    · unfold qX9_file
      refine pg_th hg (fun τ1 hg1 k1 => ?_)
      refine pz_bd' (pg_fil0 hW.1 hg1 c) ?_
      exact pz_t rfl (pz_done ⟨rfl, k1⟩)
  · obtain ⟨f, hf, rfl⟩ := pa_idx (by omega) c
    obtain ⟨t, t1, iv⟩ := hW.2.1
    have hf12 : f < 12 := by omega
    have hNN := iv.1.1.1 f hf12
    refine pw_query (a := if p2 = 0 then H.1 (17 + f) else if p2 = 1 then x.1 (1 + f) else if p2 = 2 then (if x.1 (1 + f) ≤ 0 then -1 else x.1 0 - x.1 (13 + f)) else if p2 = 3 then (if x.1 (1 + f) ≤ 0 then 0 else if x.1 0 - x.1 (13 + f) < H.1 12 then 0 else 1) else -2) hW hc hg ?_ (fun τ hg => ?_)
    · unfold qX8_file
      have K : pc_kp σ σ ∧ pc_O H.1 σ := ⟨pc_kp.rf _, hc.1.2.2⟩
      refine pz_e (fun hh => c (Or.inl hh)) ?_
      refine pz_l (hc.hH.1.2.2.2.2.2.2.2.2.1.trans hW.1.1.2.1.1) ?_
      refine pz_t (Int32.not_le.mp (fun hh => c (Or.inr hh))) ?_
      refine pz_sw (fun _ => pz_rd (k := f) rfl hf12 (by decide) (hc.hH.2.2.1 f hf) (pz_done ⟨rfl, K⟩)) (fun _ => ?_)
      refine pz_sw (fun _ => pc_l11 hc.T hf12 rfl (pz_done ⟨rfl, K⟩)) (fun _ => ?_)
      refine pz_sw (fun _ => ?_) (fun _ => ?_)
      · have ea : ps_ok (qX6_ageOf 26 (nI f) σ) (fun v τ => v = (if x.1 (1 + f) ≤ 0 then -1 else x.1 0 - x.1 (13 + f)) ∧ τ = σ) := by
          unfold qX6_ageOf
          refine pc_l11 hc.T hf12 rfl ?_
          refine pz_sw (fun _ => pz_done ⟨rfl, rfl⟩) (fun _ => ?_)
          refine pc_lt hc.T ?_
          exact pc_l12 hc.T hf12 rfl (pz_done ⟨rfl, rfl⟩)
        refine pz_bd ea (fun v τ ev => ?_)
        obtain ⟨rfl, rfl⟩ := ev
        exact pz_done ⟨rfl, K⟩
      refine pz_sw (fun _ => ?_) (fun _ => pz_done ⟨rfl, K⟩)
      have hr : pc_r H.2.1 H.2.2.2 26 σ = x.1 := hc.1.1.1
      have eo := pc_isOld (B := 26) (f := f) hc.hH hf12
      rw [hr] at eo
      refine pz_bd' eo ?_
      by_cases q1 : x.1 (1 + f) ≤ 0
      · rw [if_pos q1]; exact pz_t rfl (pz_done ⟨rfl, K⟩)
      · rw [if_neg q1]
        by_cases q2 : x.1 0 - x.1 (13 + f) < H.1 12
        · rw [if_pos q2]; exact pz_t rfl (pz_done ⟨rfl, K⟩)
        · rw [if_neg q2]; exact pz_e (by decide) (pz_done ⟨rfl, K⟩)
    · unfold qX9_file
      refine pg_th hg (fun τ1 hg1 k1 => ?_)
      refine pz_bd' (pg_fil1 hW.1 hg1 c) ?_
      refine pz_e (by decide) ?_
      refine pz_bd (pg_bg hW.1 hg1) (fun _ τ2 h2 => ?_)
      obtain ⟨g2, k2, hg2⟩ := h2
      have K := k1.tr k2
      refine pz_sw (fun _ => pg_hr g2 (k := 17 + f) (by omega) (pz_a17 f) (pz_done ⟨rfl, K⟩)) (fun _ => ?_)
      refine pz_sw (fun _ => pg_l g2 (k := 1 + f) (by omega) (by omega) (by omega) (pz_a1 f) (pz_done ⟨rfl, K⟩)) (fun _ => ?_)
      refine pz_sw (fun _ => ?_) (fun _ => ?_)
      · refine pg_l g2 (k := 1 + f) (by omega) (by omega) (by omega) (pz_a1 f) ?_
        by_cases q1 : x.1 (1 + f) = 0
        · rw [if_pos (show x.1 (1 + f) ≤ 0 by rw [q1]; decide)]
          exact pz_t q1 (pz_done ⟨rfl, K⟩)
        · rw [if_neg (fun hh => q1 (Int32.le_antisymm hh (Int32.not_lt.mp hNN)))]
          refine pz_e q1 ?_
          refine pg_lt g2 ?_
          exact pg_l g2 (k := 13 + f) (by omega) (by omega) (by omega) (pz_a13 f) (pz_done ⟨rfl, K⟩)
      refine pz_sw (fun _ => ?_) (fun _ => pz_done ⟨rfl, K⟩)
      have eo := pg_isOld (D := H.2.1) (W := H.2.2.2) hf12 τ2
      rw [g2.1, g2.2.2.1] at eo
      refine pz_bd' eo ?_
      by_cases q1 : x.1 (1 + f) ≤ 0
      · rw [if_pos q1]; exact pz_t rfl (pz_done ⟨rfl, K⟩)
      · rw [if_neg q1]
        by_cases q2 : x.1 0 - x.1 (13 + f) < H.1 12
        · rw [if_pos q2]; exact pz_t rfl (pz_done ⟨rfl, K⟩)
        · rw [if_neg q2]; exact pz_e (by decide) (pz_done ⟨rfl, K⟩)
theorem pg_Ws.at {H : pa_H} {y : pa_X} {o oe k : Nat} (g : pg_Ws H o oe σ y) (h : pa_live H.2.1 H.2.2.2 k) : σ.1 328 (o + k) = y.1 k := by
  rw [← g.1]
  unfold pg_nr
  rw [pa_can_at h]
theorem pw_writer (w : pw_W T σ) : pw_call T (qX8_writer p1 p2) (qX9_writer p1 p2) σ := by
  obtain ⟨H, x, n, P, im, tr, tp, fl, hW, hc, hg⟩ := w
  have hD := hW.1.1.1.2
  have hWl := hW.1.1.2.2.1.2
  by_cases c : p1 < 0 ∨ nI H.2.2.2 ≤ p1
  · refine pw_query (a := -2) hW hc hg ?_ (fun τ hg => ?_)
    · unfold qX8_writer
      refine pz_bd' (pc_wri0 hW.1 hc.hH c) ?_
      exact pz_t rfl (pz_done ⟨rfl, pc_kp.rf _, hc.1.2.2⟩)
    · unfold qX9_writer
      refine pg_th hg (fun τ1 hg1 k1 => ?_)
      refine pz_bd' (pg_wri0 hW.1 hg1 c) ?_
      exact pz_t rfl (pz_done ⟨rfl, k1⟩)
  · obtain ⟨f, hf, rfl⟩ := pa_idx (by omega) c
    have hf6 : f < 6 := by omega
    refine pw_query (a := if p2 = 0 then H.1 (29 + f) else if p2 = 1 then x.1 (53 + f) else if p2 = 2 then x.1 (59 + f) else if p2 = 3 then x.1 (65 + f) else if p2 = 4 then x.1 (71 + f) else if p2 = 5 then x.1 (77 + f) else -2) hW hc hg ?_ (fun τ hg => ?_)
    · unfold qX8_writer
      have K : pc_kp σ σ ∧ pc_O H.1 σ := ⟨pc_kp.rf _, hc.1.2.2⟩
      refine pz_bd' (pc_wri1 hW.1 hc.hH c) ?_
      refine pz_e (by decide) ?_
      refine pz_sw (fun _ => pz_rd (k := f) rfl hf6 (by decide) (hc.hH.2.2.2.1 f hf) (pz_done ⟨rfl, K⟩)) (fun _ => ?_)
      refine pz_sw (fun _ => pc_l13 hc.T hWl hf rfl (pz_done ⟨rfl, K⟩)) (fun _ => ?_)
      refine pz_sw (fun _ => pc_l14 hc.T hf6 rfl (pz_done ⟨rfl, K⟩)) (fun _ => ?_)
      refine pz_sw (fun _ => pc_l15 hc.T hf6 rfl (pz_done ⟨rfl, K⟩)) (fun _ => ?_)
      refine pz_sw (fun _ => pc_l16 hc.T hf6 rfl (pz_done ⟨rfl, K⟩)) (fun _ => ?_)
      refine pz_sw (fun _ => pc_l17 hc.T hf6 rfl (pz_done ⟨rfl, K⟩)) (fun _ => ?_)
      exact pz_done ⟨rfl, K⟩
    · unfold qX9_writer
      refine pg_th hg (fun τ1 hg1 k1 => ?_)
      refine pz_bd' (pg_wri1 hW.1 hg1 c) ?_
      refine pz_e (by decide) ?_
      have rw1 : ∀ k, pa_live H.2.1 H.2.2.2 k → τ1.1 328 (35 + k) = x.1 k := fun k hk => hg1.1.2.at hk
      refine pz_sw (fun _ => pz_rd (k := 29 + f) (pz_a29 f) (by omega) (by decide) (hg1.hd (by omega)) (pz_done ⟨rfl, k1⟩)) (fun _ => ?_)

      refine pz_sw (fun _ => pz_rd (k := 88 + f) (nI_add 88 f) (by omega) (by decide) (by rw [show 88 + f = 35 + (53 + f) by omega]; exact rw1 _ ⟨by omega, by omega, by omega⟩) (pz_done ⟨rfl, k1⟩)) (fun _ => ?_)
      refine pz_sw (fun _ => pz_rd (k := 94 + f) (nI_add 94 f) (by omega) (by decide) (by rw [show 94 + f = 35 + (59 + f) by omega]; exact rw1 _ ⟨by omega, by omega, by omega⟩) (pz_done ⟨rfl, k1⟩)) (fun _ => ?_)
      refine pz_sw (fun _ => pz_rd (k := 100 + f) (nI_add 100 f) (by omega) (by decide) (by rw [show 100 + f = 35 + (65 + f) by omega]; exact rw1 _ ⟨by omega, by omega, by omega⟩) (pz_done ⟨rfl, k1⟩)) (fun _ => ?_)
      refine pz_sw (fun _ => pz_rd (k := 106 + f) (nI_add 106 f) (by omega) (by decide) (by rw [show 106 + f = 35 + (71 + f) by omega]; exact rw1 _ ⟨by omega, by omega, by omega⟩) (pz_done ⟨rfl, k1⟩)) (fun _ => ?_)
      refine pz_sw (fun _ => pz_rd (k := 112 + f) (nI_add 112 f) (by omega) (by decide) (by rw [show 112 + f = 35 + (77 + f) by omega]; exact rw1 _ ⟨by omega, by omega, by omega⟩) (pz_done ⟨rfl, k1⟩)) (fun _ => ?_)
      exact pz_done ⟨rfl, k1⟩
end Q1
