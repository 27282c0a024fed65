/-! a writer read -/
section WRI
variable {n : Nat} {b : Nat → Nat} {st D F W ln : Nat} {cs : List Nat} {σ τ σ' τ' : ps_S} {lo hi : Int32}
theorem pg_named0 {v : Int32} (hz : ¬ τ.1 327 12 = 0) : ∃ w, qX9_named v lo hi τ = some (w, τ) := by
  unfold qX9_named
  obtain ⟨w, ew⟩ := pg_takes0 (lo := lo) (hi := hi) hz
  rw [pg_eats0 hz, pz_bds, if_pos rfl, pg_fails0 hz, pz_bds, ew, pz_bds]
  exact ⟨w, rfl⟩
theorem pc_addW {f d : Nat} {v : Int32} (h9 : σ.1 2 9 = nI W) (hW : W < 6) (h8 : σ.1 2 8 = nI F) (hf : f < F) (hF : F ≤ 12) (h5 : σ.1 5 f = nI d) (hd : d < 4) : ps_ok (qX2_addWriter 2 (nI f) v σ) (fun _ σ' => σ'.1 2 = upd (σ.1 2) 9 (nI (W + 1)) ∧ σ'.1 6 = upd (σ.1 6) W (nI f) ∧ σ'.1 7 = upd (σ.1 7) W (nI d) ∧ σ'.1 8 = upd (σ.1 8) W v ∧ σ'.1 4 = upd (σ.1 4) d (σ.1 4 d + 1) ∧ (∀ k, k ≠ 2 → k ≠ 4 → k ≠ 6 → k ≠ 7 → k ≠ 8 → σ'.1 k = σ.1 k) ∧ σ'.2 = σ.2) := by
  unfold qX2_addWriter
  have e2 : (2 + 2 : Nat) = 4 := rfl
  have e3 : (2 + 3 : Nat) = 5 := rfl
  have e4 : (2 + 4 : Nat) = 6 := rfl
  have e5 : (2 + 5 : Nat) = 7 := rfl
  have e6 : (2 + 6 : Nat) = 8 := rfl
  rw [e2, e3, e4, e5, e6]
  refine pz_l h9 ?_
  refine pz_e (nI_ge (b := 6) hW (by decide)) ?_
  refine pz_l h8 ?_
  refine pz_e (nI_ge hf (by omega)) ?_
  refine pz_l h9 ?_
  refine pz_wr rfl hW (by decide) (fun s1 es1 => ?_)
  refine pz_l (w := nI W) (by rw [es1, ps_rI_ne _ _ (by decide)]; exact h9) ?_
  refine pz_rd (v := nI d) rfl (show f < 12 by omega) (by decide) (by rw [es1, ps_rI_ne _ _ (by decide)]; exact h5) ?_
  refine pz_wr rfl hW (by decide) (fun s2 es2 => ?_)
  refine pz_l (w := nI W) (by rw [es2, ps_rI_ne _ _ (by decide), es1, ps_rI_ne _ _ (by decide)]; exact h9) ?_
  refine pz_wr rfl hW (by decide) (fun s3 es3 => ?_)
  have k5 : s3.1 5 = σ.1 5 := by rw [es3, ps_rI_ne _ _ (by decide), es2, ps_rI_ne _ _ (by decide), es1, ps_rI_ne _ _ (by decide)]
  have k4 : s3.1 4 = σ.1 4 := by rw [es3, ps_rI_ne _ _ (by decide), es2, ps_rI_ne _ _ (by decide), es1, ps_rI_ne _ _ (by decide)]
  have k2 : s3.1 2 = σ.1 2 := by rw [es3, ps_rI_ne _ _ (by decide), es2, ps_rI_ne _ _ (by decide), es1, ps_rI_ne _ _ (by decide)]
  refine pz_rd (v := nI d) rfl (show f < 12 by omega) (by decide) (by rw [k5]; exact h5) ?_
  refine pz_rd (v := σ.1 4 d) rfl hd (by decide) (by rw [k4]) ?_
  refine pz_wr rfl hd (by decide) (fun s4 es4 => ?_)
  refine pz_l (w := nI W) (by rw [es4, ps_rI_ne _ _ (by decide), k2]; exact h9) ?_
  rw [pz_lt, nI_1]
  refine pz_done ⟨?_, ?_, ?_, ?_, ?_, fun k q2 q4 q6 q7 q8 => ?_, ?_⟩
  · rw [ps_rI_at, es4, ps_rI_ne _ _ (by decide), k2]
  · rw [ps_rI_ne _ _ (by decide), es4, ps_rI_ne _ _ (by decide), es3, ps_rI_ne _ _ (by decide), es2, ps_rI_ne _ _ (by decide), es1, ps_rI_at]
  · rw [ps_rI_ne _ _ (by decide), es4, ps_rI_ne _ _ (by decide), es3, ps_rI_ne _ _ (by decide), es2, ps_rI_at, es1, ps_rI_ne _ _ (by decide)]
  · rw [ps_rI_ne _ _ (by decide), es4, ps_rI_ne _ _ (by decide), es3, ps_rI_at, es2, ps_rI_ne _ _ (by decide), es1, ps_rI_ne _ _ (by decide)]
  · rw [ps_rI_ne _ _ (by decide), es4, ps_rI_at, k4]
  · rw [ps_rI_ne _ _ q2, es4, ps_rI_ne _ _ q4, es3, ps_rI_ne _ _ q8, es2, ps_rI_ne _ _ q7, es1, ps_rI_ne _ _ q6]
  · rw [ps_rI_2, es4, ps_rI_2, es3, ps_rI_2, es2, ps_rI_2, es1, ps_rI_2]
theorem pr_T.wri {f d v : Nat} (h : pr_T D F W ln cs σ τ) (hW : W < 6) (hf : f < F) (hv : v ≤ 99) (hd : d < D) (h5 : σ.1 5 f = nI d) (h17 : τ.1 332 (17 + f) = nI d) (h2 : σ'.1 2 = upd (σ.1 2) 9 (nI (W + 1))) (h6 : σ'.1 6 = upd (σ.1 6) W (nI f)) (h7 : σ'.1 7 = upd (σ.1 7) W (nI d)) (h8 : σ'.1 8 = upd (σ.1 8) W (nI v)) (h4 : σ'.1 4 = upd (σ.1 4) d (σ.1 4 d + 1)) (hc : ∀ k, k = 3 ∨ k = 5 → σ'.1 k = σ.1 k) (h9 : ∀ j, j ≠ 1 → σ'.1 9 j = σ.1 9 j) (hg : ∀ j, j < 949 → τ'.1 332 j = upd (upd (upd (τ.1 332) (29 + W) (nI f)) (88 + W) (nI v)) 3 (nI (W + 1)) j) : pr_T D F (W + 1) ln cs σ' τ' := by
  obtain ⟨⟨a1, a2, a3⟩, ⟨b1, b2, b3, b4, b5⟩, c0, d0, e0, f0⟩ := h
  have hD4 := a1.2.2
  have hF12 := a2.2.2
  have g : ∀ j, j < 949 → j ≠ 3 → j ≠ 29 + W → j ≠ 88 + W → τ'.1 332 j = τ.1 332 j := fun j j0 j1 j2 j3 => by rw [hg j j0, upd_ne _ _ j1, upd_ne _ _ j3, upd_ne _ _ j2]
  have g3 : τ'.1 332 3 = nI (W + 1) := by rw [hg 3 (by decide), upd_self]
  have g29 : τ'.1 332 (29 + W) = nI f := by rw [hg _ (by omega), upd_ne _ _ (by omega), upd_ne _ _ (by omega), upd_self]
  have g88 : τ'.1 332 (88 + W) = nI v := by rw [hg _ (by omega), upd_ne _ _ (by omega), upd_self]
  have c : ∀ j, j ≠ 9 → σ'.1 2 j = σ.1 2 j := fun j j1 => by rw [h2, upd_ne _ _ j1]
  refine ⟨⟨⟨by rw [c 7 (by decide)]; exact a1.1, by rw [g 1 (by decide) (by decide) (by omega) (by omega)]; exact a1.2.1, a1.2.2⟩, ⟨by rw [c 8 (by decide)]; exact a2.1, by rw [g 2 (by decide) (by decide) (by omega) (by omega)]; exact a2.2.1, a2.2.2⟩, ⟨by rw [h2, upd_self], g3, by omega⟩⟩, ⟨?_, ?_, ?_, ?_, ?_⟩, ?_, ?_, ?_, ?_⟩
  · intro d hd
    rw [hc 3 (by omega), g _ (by omega) (by omega) (by omega) (by omega)]
    exact b1 d hd
  · intro f hf
    rw [hc 5 (by omega), g _ (by omega) (by omega) (by omega) (by omega)]
    exact b2 f hf
  · intro w hw
    by_cases e : w = W
    · subst e
      exact ⟨f, d, hf, hd, by rw [h6, upd_self], g29, by rw [h7, upd_self], by rw [g _ (by omega) (by omega) (by omega) (by omega)]; exact h17⟩
    · obtain ⟨f', q, x1, x2, x3, x4, x5, x6⟩ := b3 w (by omega)
      rw [h6, h7, upd_ne _ _ e, upd_ne _ _ e, g _ (by omega) (by omega) (by omega) (by omega)]
      exact ⟨f', q, x1, x2, x3, x4, x5, by rw [g _ (by omega) (by omega) (by omega) (by omega)]; exact x6⟩
  · intro w hw
    by_cases e : w = W
    · subst e
      exact ⟨v, hv, by rw [h8, upd_self], g88⟩
    · rw [h8, upd_ne _ _ e, g _ (by omega) (by omega) (by omega) (by omega)]
      exact b4 w (by omega)
  · intro d' hd'
    have key : pa_on (τ'.1 332) (nI d') W = pa_on (τ.1 332) (nI d') W := pa_on_congr2 a3.2.2 a2.2.2 (fun k k1 k2 => g k (by omega) (by omega) (by omega) (by omega)) (fun w hw => g _ (by omega) (by omega) (by omega) (by omega)) (fun w hw => by
      obtain ⟨f, q, x1, x2, x3, x4, _⟩ := b3 w hw
      exact ⟨f, x1, x4⟩)
    rw [pa_on, key, g29, nI_clamp (by omega), g (17 + f) (by omega) (by omega) (by omega) (by omega), h17, h4]
    by_cases e : d' = d
    · subst e
      rw [upd_self, if_pos rfl, b5 d' hd']
    · rw [upd_ne _ _ e, if_neg (fun q => e ((nI_eq (by omega) (by omega)).mp q).symm), b5 d' hd', Int32.add_zero]
  · unfold pr_H2
    rw [c 0 (by decide), c 1 (by decide), c 2 (by decide), c 3 (by decide), c 4 (by decide), c 5 (by decide), c 6 (by decide), g 10 (by decide) (by decide) (by omega) (by omega), g 11 (by decide) (by decide) (by omega) (by omega), g 12 (by decide) (by decide) (by omega) (by omega), g 13 (by decide) (by decide) (by omega) (by omega), g 14 (by decide) (by decide) (by omega) (by omega), g 15 (by decide) (by decide) (by omega) (by omega), g 16 (by decide) (by decide) (by omega) (by omega)]
    exact c0
  · intro k k1 k2 k3 k4
    rw [g k (by omega) (by omega) (by omega) (by omega)]
    exact d0 k k1 k2 k3 k4
  · have := e0.e (l := []) (σ' := σ') (τ' := τ') h9 (fun j j1 j2 => g j (by omega) (by omega) (by omega) (by omega))
    rw [List.append_nil] at this
    exact this
  · rw [c 10 (by decide), g 0 (by decide) (by decide) (by omega) (by omega)]
    exact f0
theorem pl_wri (g : pr_B n b st cs σ τ) (t : pr_T D F W ln cs σ τ) (hk : cs.length ≤ st) (hc : tk_cd n b st ≠ 26) : pr2 (qX5_readWriter σ) (qX9_readWriter τ) (fun a σ' _ τ' => pr_LP n b st ln σ τ a σ' τ') := by
  have lt := g.lt
  have hF12 := t.1.2.1.2.2
  have hD4 := t.1.1.2.2
  have hW6 := t.1.2.2.2.2
  unfold qX5_readWriter qX9_readWriter
  refine pr2.ll t.1.2.2.1 ?_
  refine pr2.rl t.1.2.2.2.1 ?_
  by_cases cW : W = 6
  · subst cW
    refine pr2.le (by decide) ?_
    refine pr2.rt rfl ?_
    have := g.no (w := 4) (by decide) (show cs.length ≤ 900 by omega)
    refine pr2.b this (fun a σ1 _ τ1 h1 => ?_)
    obtain ⟨rfl, hF, hm, c1, d1⟩ := h1
    refine pr2.lt rfl ?_
    rw [pz_lt, if_neg hF.nz]
    exact pr2.d ⟨c1.l, d1.l, Or.inr ⟨rfl, hF⟩⟩
  · refine pr2.lt (Int32.not_le.mp (nI_ge (b := 6) (by omega) (by decide))) ?_
    refine pr2.re (pc_lit (k := 6) (by omega) (by decide) cW) ?_
    refine pr2.rl g.1.2.2.1 ?_
    refine pr2.rt rfl ?_
    refine pr2.b (g.adv hc) (fun _ σ1 _ τ1 h1 => ?_)
    obtain ⟨st1, s1, g1, c1, d1⟩ := h1
    have t1 := t.pe c1 d1
    refine pr2.rl t1.1.2.1.2.1 ?_
    rw [pb_as2]
    refine pr2.b (pb_named2 (lo := 0) (hi := nI F - 1) g1 (by omega) (i := 14) (m := 13) (by decide) rfl (by decide) rfl (fun s hs => by
      show qX5_takeNumber 0 (s.1 2 8 - 1) s = _
      rw [hs.1 2 (by decide) (by decide) (by decide), t1.1.2.1.1])) (fun a σ2 v τ2 h2 => ?_)
    obtain ⟨c2, d2, q⟩ := h2
    have ix : (29 : Int32) + nI W = nI (29 + W) := nI_add 29 W
    have iy : (88 : Int32) + nI W = nI (88 + W) := nI_add 88 W
    rw [ix, iy]
    refine pr2.rt (pz_ini (by omega) (by decide)) ?_
    rw [nI_clamp (by omega)]
    refine pr2.rl rfl ?_
    rcases q with ⟨rfl, st2, f, s2, g2, rfl, e9, v1, v2, v3⟩ | ⟨rfl, hF, hm⟩
    · have t2 := t1.pe c2 d2
      have hf : f < F := nI_dlt (by omega) (by omega) v3
      obtain ⟨d, hd, h5, h17⟩ := t2.2.1.2.1 f hf
      refine pr2.le (by decide) ?_
      refine pr2.ll e9 ?_
      rw [pb_as]
      have g2' : pr_B n b st2 cs σ2 (ps_rI τ2 332 (upd (τ2.1 332) (29 + W) (nI f))) := g2.h (fun _ _ => rfl) (fun k hk => ps_rI_ne _ _ (by omega)) (fun j hj => by rw [ps_rI_at, upd_ne _ _ (by omega)])
      have d2' : pl_g τ2 (ps_rI τ2 332 (upd (τ2.1 332) (29 + W) (nI f))) := ⟨fun k k1 k2 => ps_rI_ne _ _ k2, fun j hj => by rw [ps_rI_ne _ _ (by decide)], rfl⟩
      have e332 : (ps_rI τ2 332 (upd (τ2.1 332) (29 + W) (nI f))).1 332 = upd (τ2.1 332) (29 + W) (nI f) := ps_rI_at _ _ _
      generalize ps_rI τ2 332 (upd (τ2.1 332) (29 + W) (nI f)) = τ2' at g2' d2' e332 ⊢
      refine pr2.b (pb_named (lo := 0) (hi := 99) g2' (by omega) (i := 15) (m := 14) (by decide) rfl (by decide) rfl) (fun a σ3 v τ3 h3 => ?_)
      obtain ⟨c3, d3, q⟩ := h3
      refine pr2.rt (pz_ini (by omega) (by decide)) ?_
      rw [nI_clamp (by omega)]
      refine pr2.rl rfl ?_
      rcases q with ⟨rfl, st3, val, s3, g3, rfl, e9', w1, w2, w3⟩ | ⟨rfl, hF, hm⟩
      · have hval : val ≤ 99 := by
          by_cases q : val ≤ 99
          · exact q
          · exact absurd (nI_lt (a := 99) (b := val) (by omega) (by omega)) w3
        have p2 : σ3.1 2 = σ2.1 2 := c3.1 2 (by decide) (by decide) (by decide)
        have p4 : σ3.1 4 = σ2.1 4 := c3.1 4 (by decide) (by decide) (by decide)
        have p5 : σ3.1 5 = σ2.1 5 := c3.1 5 (by decide) (by decide) (by decide)
        have p6 : σ3.1 6 = σ2.1 6 := c3.1 6 (by decide) (by decide) (by decide)
        have p7 : σ3.1 7 = σ2.1 7 := c3.1 7 (by decide) (by decide) (by decide)
        have p8 : σ3.1 8 = σ2.1 8 := c3.1 8 (by decide) (by decide) (by decide)
        refine pr2.le (by decide) ?_
        refine pr2.ll e9' ?_
        obtain ⟨x, ex, y2, y6, y7, y8, y4, yk, yq⟩ := pc_addW (σ := σ3) (W := W) (F := F) (f := f) (d := d) (v := nI val) (by rw [p2]; exact t2.1.2.2.1) (by omega) (by rw [p2]; exact t2.1.2.1.1) hf hF12 (by rw [p5]; exact h5) (by omega)
        refine pr2.l (a := x.1) (σ := x.2) ex ?_
        have k3 : τ3.1 332 3 = nI W := by rw [d3.2.2.1 3 (by decide), e332, upd_ne _ _ (by omega)]; exact t2.1.2.2.2.1
        refine pr2.rl (w := 0) (by rw [ps_rI_ne _ _ (by decide)]; exact g3.1.2.2.1) ?_
        refine pr2.rt rfl ?_
        refine pr2.rl (w := nI W) (by rw [ps_rI_at, upd_ne _ _ (by omega)]; exact k3) ?_
        rw [pz_lt, nI_1]
        refine pr2.d ⟨c1.l.tr (c2.l.tr (c3.l.tr ⟨fun k hk => yk k (by omega) (by omega) (by omega) (by omega) (by omega), by rw [yk 11 (by decide) (by decide) (by decide) (by decide) (by decide)], yq⟩)), d1.l.tr (d2.l.tr (d2'.tr (d3.l.tr ⟨fun k k1 k2 => ?_, fun j hj => ?_, rfl⟩))), Or.inl ⟨rfl, st3, D, F, W + 1, cs, by omega, g3.h (fun k hk => yk k (by omega) (by omega) (by omega) (by omega) (by omega)) (fun k hk => ?_) (fun j hj => ?_), t2.wri (f := f) (d := d) (v := val) (by omega) hf hval hd h5 h17 ?_ ?_ ?_ ?_ ?_ (fun k hk => ?_) (fun j hj => ?_) (fun j hj => ?_), by omega⟩⟩
        · rw [ps_rI_ne _ _ k2, ps_rI_ne _ _ k2]
        · rw [ps_rI_ne _ _ (by omega), ps_rI_ne _ _ (by omega)]
        · rw [ps_rI_ne _ _ (by omega), ps_rI_ne _ _ (by omega)]
        · rw [ps_rI_at, upd_ne _ _ (by omega), ps_rI_at, upd_ne _ _ (by omega)]
        · rw [y2, p2]
        · rw [y6, p6]
        · rw [y7, p7]
        · rw [y8, p8]
        · rw [y4, p4]
        · rcases hk with rfl | rfl
          · rw [yk 3 (by decide) (by decide) (by decide) (by decide) (by decide), c3.1 3 (by decide) (by decide) (by decide)]
          · rw [yk 5 (by decide) (by decide) (by decide) (by decide) (by decide), p5]
        · rw [yk 9 (by decide) (by decide) (by decide) (by decide) (by decide), c3.2.1 j hj]
        · rw [ps_rI_at, ps_rI_at]
          by_cases j3 : j = 3
          · subst j3; rw [upd_self, upd_self]
          · rw [upd_ne _ _ j3, upd_ne _ _ j3]
            by_cases j8 : j = 88 + W
            · subst j8; rw [upd_self, upd_self]
            · rw [upd_ne _ _ j8, upd_ne _ _ j8, d3.2.2.1 j hj, e332]
      · refine pr2.lt rfl ?_
        refine pr2.rl rfl ?_
        refine pr2.re (by rw [ps_rI_ne _ _ (by decide)]; exact hF.nz) ?_
        refine pr2.d ⟨c1.l.tr (c2.l.tr c3.l), d1.l.tr (d2.l.tr (d2'.tr (d3.l.tr ⟨fun k k1 k2 => ps_rI_ne _ _ k2, fun j hj => by rw [ps_rI_ne _ _ (by decide)], rfl⟩))), Or.inr ⟨rfl, ?_⟩⟩
        unfold pr_F
        rw [ps_rI_ne _ _ (by decide)]
        exact hF
    · refine pr2.lt rfl ?_
      have hz : ¬ (ps_rI τ2 332 (upd (τ2.1 332) (29 + W) v)).1 327 12 = 0 := by rw [ps_rI_ne _ _ (by decide)]; exact hF.nz
      obtain ⟨w, ew⟩ := pg_named0 (lo := 0) (hi := 99) (v := 14) hz
      rw [ew, pz_bds]
      refine pr2.rt (pz_ini (by omega) (by decide)) ?_
      rw [nI_clamp (by omega)]
      refine pr2.rl rfl ?_
      refine pr2.rl rfl ?_
      refine pr2.re (by rw [ps_rI_ne _ _ (by decide)]; exact hz) ?_
      refine pr2.d ⟨c1.l.tr c2.l, d1.l.tr (d2.l.tr ⟨fun k k1 k2 => by rw [ps_rI_ne _ _ k2, ps_rI_ne _ _ k2], fun j hj => by rw [ps_rI_ne _ _ (by decide), ps_rI_ne _ _ (by decide)], rfl⟩), Or.inr ⟨rfl, ?_⟩⟩
      unfold pr_F
      rw [ps_rI_ne _ _ (by decide), ps_rI_ne _ _ (by decide)]
      exact hF
end WRI
