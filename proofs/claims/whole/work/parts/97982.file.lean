/-! a file read -/
theorem pb_as2 {o : Option (Int32 × ps_S)} {X : ps_S → Int32} {N : Int32 → ps_S → Option (Int32 × ps_S)} {K : ps_S → Option (Int32 × ps_S)} : ps_bd o (fun v s => if v = 0 then some (0, s) else ps_let (X s) fun x => ps_bd (N x s) (fun w s2 => if w = 0 then some (0, s2) else K s2)) = ps_bd (ps_bd o (fun v s => if v = 0 then some (0, s) else N (X s) s)) (fun w s2 => if w = 0 then some (0, s2) else K s2) := pb_as (N := fun s => N (X s) s)
theorem pa_on_congr2 {h h' : pa_R} {d : Int32} : ∀ {W F : Nat}, W ≤ 6 → F ≤ 12 → (∀ k, 17 ≤ k → k < 17 + F → h' k = h k) → (∀ w, w < W → h' (29 + w) = h (29 + w)) → (∀ w, w < W → ∃ f, f < F ∧ h (29 + w) = nI f) → pa_on h' d W = pa_on h d W
  | 0, _, _, _, _, _, _ => rfl
  | W + 1, F, h1, h2, h3, h5, h4 => by
    obtain ⟨f, f1, f2⟩ := h4 W (by omega)
    rw [pa_on, pa_on, pa_on_congr2 (by omega) h2 h3 (fun w hw => h5 w (by omega)) (fun w hw => h4 w (by omega)), h5 W (by omega), f2, nI_clamp (by omega), h3 (17 + f) (by omega) (by omega)]
section FILE
variable {n : Nat} {b : Nat → Nat} {st D F W ln : Nat} {cs : List Nat} {σ τ σ' τ' : ps_S} {lo hi : Int32}
theorem pb_named2 {i m : Nat} {v : Int32} {NC : ps_S → Option (Int32 × ps_S)} (g : pr_B n b st cs σ τ) (hl : cs.length ≤ 900) (h1 : 1 ≤ i ∧ i < 25) (hm : tk_mw i = m) (hm2 : m < 24) (hv : v = nI m) (hN : ∀ s, pe_c σ s → NC s = qX5_takeNumber lo hi s) : pr2 (ps_bd (qX5_takeWord i σ) (fun w s => if w = 0 then some (0, s) else NC s)) (qX9_named v lo hi τ) (fun a σ' v τ' => pb_Q n b st cs lo hi σ τ a σ' v τ') := by
  unfold qX9_named
  refine pb_take g (c := m) (by omega) (by omega) hv hl (fun e => pb_tw1 g h1 hm e) (fun e => pb_tw0 g h1 hm e) (fun st' σ' τ' s1 g1 c1 d1 => ?_) (fun σ' τ' hF hm c1 d1 => ?_)
  · refine pr2.le (by decide) ?_
    rw [hN _ c1]
    obtain ⟨a, σ2, w, τ2, e1, e2, q1, q2, q⟩ := pb_num (lo := lo) (hi := hi) g1 hl
    rw [e1, e2, pz_bds]
    refine pr2.d ⟨c1.tr q1, d1.tr q2, ?_⟩
    rcases q with ⟨rfl, st2, val, s2, q⟩ | q
    · exact Or.inl ⟨rfl, st2, val, by omega, q⟩
    · exact Or.inr q
  · refine pr2.lt rfl ?_
    obtain ⟨w, ew⟩ := pg_takes0 (lo := lo) (hi := hi) hF.nz
    rw [ew, pz_bds]
    exact pr2.d ⟨c1, d1, Or.inr ⟨rfl, hF, hm⟩⟩
theorem pr_T.file {v : Nat} (h : pr_T D F W ln cs σ τ) (hF : F < 12) (hv : v < D) (h2 : σ'.1 2 = upd (σ.1 2) 8 (nI (F + 1))) (h3 : σ'.1 5 = upd (σ.1 5) F (nI v)) (hc : ∀ k, (3 ≤ k ∧ k < 5) ∨ (6 ≤ k ∧ k < 10) → σ'.1 k = σ.1 k) (hg : τ'.1 332 = upd (upd (τ.1 332) (17 + F) (nI v)) 2 (nI (F + 1))) : pr_T D (F + 1) W ln cs σ' τ' := by
  obtain ⟨⟨a1, a2, a3⟩, ⟨b1, b2, b3, b4, b5⟩, c0, d0, e0, f0⟩ := h
  have g : ∀ j, j ≠ 2 → j ≠ 17 + F → τ'.1 332 j = τ.1 332 j := fun j j1 j2 => by rw [hg, upd_ne _ _ j1, upd_ne _ _ j2]
  have c : ∀ j, j ≠ 8 → σ'.1 2 j = σ.1 2 j := fun j j1 => by rw [h2, upd_ne _ _ j1]
  refine ⟨⟨⟨by rw [c 7 (by decide)]; exact a1.1, by rw [g 1 (by decide) (by omega)]; exact a1.2.1, a1.2.2⟩, ⟨by rw [h2, upd_self], by rw [hg, upd_self], by omega⟩, ⟨by rw [c 9 (by decide)]; exact a3.1, by rw [g 3 (by decide) (by omega)]; exact a3.2.1, a3.2.2⟩⟩, ⟨?_, ?_, ?_, ?_, ?_⟩, ?_, ?_, ?_, ?_⟩
  · intro d hd
    rw [hc 3 (by omega), g _ (by omega) (by omega)]
    exact b1 d hd
  · intro f hf
    by_cases e : f = F
    · subst e
      exact ⟨v, hv, by rw [h3, upd_self], by rw [hg, upd_ne _ _ (by omega), upd_self]⟩
    · rw [h3, upd_ne _ _ e, g _ (by omega) (by omega)]
      exact b2 f (by omega)
  · intro w hw
    obtain ⟨f, q, x1, x2, x3, x4, x5, x6⟩ := b3 w hw
    rw [hc 6 (by omega), hc 7 (by omega), g _ (by omega) (by omega)]
    exact ⟨f, q, by omega, x2, x3, x4, x5, by rw [g _ (by omega) (by omega)]; exact x6⟩
  · intro w hw
    rw [hc 8 (by omega), g _ (by omega) (by omega)]
    exact b4 w hw
  · intro d hd
    rw [hc 4 (by omega), b5 d hd]
    exact (pa_on_congr2 a3.2.2 a2.2.2 (fun k k1 k2 => g k (by omega) (by omega)) (fun w hw => g _ (by omega) (by omega)) (fun w hw => by
      obtain ⟨f, q, x1, x2, x3, x4, _⟩ := b3 w hw
      exact ⟨f, x1, x4⟩)).symm
  · unfold pr_H2
    rw [c 0 (by decide), c 1 (by decide), c 2 (by decide), c 3 (by decide), c 4 (by decide), c 5 (by decide), c 6 (by decide), g 10 (by decide) (by omega), g 11 (by decide) (by omega), g 12 (by decide) (by omega), g 13 (by decide) (by omega), g 14 (by decide) (by omega), g 15 (by decide) (by omega), g 16 (by decide) (by omega)]
    exact c0
  · intro k k1 k2 k3 k4
    rw [g k (by omega) (by omega)]
    exact d0 k k1 k2 k3 k4
  · have := e0.e (l := []) (σ' := σ') (τ' := τ') (fun j _ => by rw [hc 9 (by omega)]) (fun j j1 j2 => g j (by omega) (by omega))
    rw [List.append_nil] at this
    exact this
  · rw [c 10 (by decide), g 0 (by decide) (by omega)]
    exact f0
theorem nI_dlt {val D : Nat} (hD : D < 2 ^ 31) (hv : val < 2 ^ 31) (h : ¬ nI D - 1 < nI val) : val < D := by
  by_cases q : val < D
  · exact q
  · exact absurd ((nI_dm1 hD).mpr (nI_le (by omega) (by omega))) h
theorem pl_file (g : pr_B n b st cs σ τ) (t : pr_T D F W ln cs σ τ) (hk : cs.length ≤ st) (hc : tk_cd n b st ≠ 26) : pr2 (qX5_readFile σ) (qX9_readFile τ) (fun a σ' _ τ' => pr_LP n b st ln σ τ a σ' τ') := by
  have lt := g.lt
  have hF12 := t.1.2.1.2.2
  have hD4 := t.1.1.2.2
  unfold qX5_readFile qX9_readFile
  refine pr2.ll t.1.2.1.1 ?_
  refine pr2.rl t.1.2.1.2.1 ?_
  by_cases cF : F = 12
  · subst cF
    refine pr2.le (by decide) ?_
    refine pr2.rt rfl ?_
    have := g.no (w := 4) (by decide) (show cs.length ≤ 900 by omega)
    refine pr2.b this (fun a σ1 _ τ1 h1 => ?_)
    obtain ⟨rfl, hF, hm, c1, d1⟩ := h1
    refine pr2.lt rfl ?_
    rw [pz_lt, if_neg hF.nz]
    exact pr2.d ⟨c1.l, d1.l, Or.inr ⟨rfl, hF⟩⟩
  · refine pr2.lt (Int32.not_le.mp (nI_ge (b := 12) (by omega) (by decide))) ?_
    refine pr2.re (pc_lit (k := 12) (by omega) (by decide) cF) ?_
    refine pr2.rl g.1.2.2.1 ?_
    refine pr2.rt rfl ?_
    refine pr2.b (g.adv hc) (fun _ σ1 _ τ1 h1 => ?_)
    obtain ⟨st1, s1, g1, c1, d1⟩ := h1
    have t1 := t.pe c1 d1
    refine pr2.rl t1.1.1.2.1 ?_
    rw [pb_as2]
    refine pr2.b (pb_named2 (lo := 0) (hi := nI D - 1) g1 (by omega) (i := 12) (m := 11) (by decide) rfl (by decide) rfl (fun s hs => by
      show qX5_takeNumber 0 (s.1 2 7 - 1) s = _
      rw [hs.1 2 (by decide) (by decide) (by decide), t1.1.1.1])) (fun a σ2 v τ2 h2 => ?_)
    obtain ⟨c2, d2, q⟩ := h2
    have ix : (17 : Int32) + nI F = nI (17 + F) := nI_add 17 F
    rw [ix]
    refine pr2.rt (pz_ini (by omega) (by decide)) ?_
    rw [nI_clamp (by omega)]
    refine pr2.rl rfl ?_
    rcases q with ⟨rfl, st2, val, s2, g2, rfl, e9, v1, v2, v3⟩ | ⟨rfl, hF, hm⟩
    · have t2 := t1.pe c2 d2
      have hvD : val < D := nI_dlt (by omega) (by omega) v3
      refine pr2.le (by decide) ?_
      refine pr2.ll e9 ?_
      unfold qX2_addFile
      have e23 : (2 + 3 : Nat) = 5 := rfl
      rw [e23, ps_bd_let]
      refine pr2.ll t2.1.2.1.1 ?_
      rw [if_neg (show ¬ (12 : Int32) ≤ nI F from nI_ge (b := 12) (by omega) (by decide)), ps_bd_let]
      refine pr2.ll t2.1.1.1 ?_
      rw [if_neg (show ¬ nI D ≤ nI val from nI_ge hvD (by omega)), ps_bd_let]
      refine pr2.ll t2.1.2.1.1 ?_
      rw [if_pos (pz_ini (by omega) (by decide)), nI_clamp (by omega), pz_lt, ps_bd_let]
      refine pr2.ll (w := nI F) (by rw [ps_rI_ne _ _ (by decide)]; exact t2.1.2.1.1) ?_
      rw [pz_lt, nI_1, pz_bds]
      refine pr2.rl (w := 0) (by rw [ps_rI_ne _ _ (by decide)]; exact g2.1.2.2.1) ?_
      refine pr2.rt rfl ?_
      refine pr2.rl (w := nI F) (by rw [ps_rI_at, upd_ne _ _ (by omega)]; exact t2.1.2.1.2.1) ?_
      rw [pz_lt, nI_1]
      refine pr2.d ⟨c1.l.tr (c2.l.tr ⟨fun k hk => ?_, ?_, rfl⟩), d1.l.tr (d2.l.tr ⟨fun k k1 k2 => ?_, fun j hj => ?_, rfl⟩), Or.inl ⟨rfl, st2, D, F + 1, W, cs, by omega, g2.h (fun k hk => ?_) (fun k hk => ?_) (fun j hj => ?_), t2.file (v := val) (by omega) hvD ?_ ?_ (fun k hk => ?_) ?_, by omega⟩⟩
      · rw [ps_rI_ne _ _ (by omega), ps_rI_ne _ _ (by omega)]
      · rw [ps_rI_ne _ _ (by omega), ps_rI_ne _ _ (by omega)]
      · rw [ps_rI_ne _ _ k2, ps_rI_ne _ _ k2]
      · rw [ps_rI_ne _ _ (by omega), ps_rI_ne _ _ (by omega)]
      · rw [ps_rI_ne _ _ (by omega), ps_rI_ne _ _ (by omega)]
      · rw [ps_rI_ne _ _ (by omega), ps_rI_ne _ _ (by omega)]
      · rw [ps_rI_at, upd_ne _ _ (by omega), ps_rI_at, upd_ne _ _ (by omega)]
      · rw [ps_rI_at, ps_rI_ne _ _ (by decide)]
      · rw [ps_rI_ne _ _ (by decide), ps_rI_at]
      · rw [ps_rI_ne _ _ (by omega), ps_rI_ne _ _ (by omega)]
      · rw [ps_rI_at, ps_rI_at]
    · refine pr2.lt rfl ?_
      have hz : ¬ (ps_rI τ2 332 (upd (τ2.1 332) (17 + F) v)).1 327 12 = 0 := by rw [ps_rI_ne _ _ (by decide)]; exact hF.nz
      refine pr2.rl rfl ?_
      refine pr2.re hz ?_
      refine pr2.d ⟨c1.l.tr c2.l, d1.l.tr (d2.l.tr ⟨fun k k1 k2 => ps_rI_ne _ _ k2, fun j hj => by rw [ps_rI_ne _ _ (by decide)], rfl⟩), Or.inr ⟨rfl, ?_⟩⟩
      unfold pr_F
      rw [ps_rI_ne _ _ (by decide)]
      exact hF
end FILE
