/-! a device read -/
theorem ps_bd_let {α β γ : Type} {a : α} {f : α → Option (β × ps_S)} {g : β → ps_S → Option (γ × ps_S)} : ps_bd (ps_let a f) g = ps_let a (fun x => ps_bd (f x) g) := rfl
section DEV2
variable {n : Nat} {b : Nat → Nat} {st D F W ln : Nat} {cs : List Nat} {σ τ σ' τ' : ps_S}
theorem pl_dev (g : pr_B n b st cs σ τ) (t : pr_T D F W ln cs σ τ) (hk : cs.length ≤ st) (hc : tk_cd n b st ≠ 26) : pr2 (qX5_readDevice σ) (qX9_readDevice τ) (fun a σ' _ τ' => pr_LP n b st ln σ τ a σ' τ') := by
  have lt := g.lt
  have hD4 := t.1.1.2.2
  unfold qX5_readDevice qX9_readDevice
  refine pr2.ll t.1.1.1 ?_
  refine pr2.rl t.1.1.2.1 ?_
  by_cases cD : D = 4
  · subst cD
    refine pr2.le (by decide) ?_
    refine pr2.rt rfl ?_
    have := g.no (w := 4) (by decide) (show cs.length ≤ 900 by omega)
    refine pr2.b this (fun a σ1 _ τ1 h1 => ?_)
    obtain ⟨rfl, hF, hm, c1, d1⟩ := h1
    refine pr2.lt rfl ?_
    rw [pz_lt, if_neg hF.nz]
    exact pr2.d ⟨c1.l, d1.l, Or.inr ⟨rfl, hF⟩⟩
  · refine pr2.lt (Int32.not_le.mp (nI_ge (b := 4) (by omega) (by decide))) ?_
    refine pr2.re (pc_lit (k := 4) (by omega) (by decide) cD) ?_
    refine pr2.rl g.1.2.2.1 ?_
    refine pr2.rt rfl ?_
    refine pr2.b (g.adv hc) (fun _ σ1 _ τ1 h1 => ?_)
    obtain ⟨st1, s1, g1, c1, d1⟩ := h1
    rw [pb_as]
    refine pr2.b (pb_named (lo := 0) (hi := 999) g1 (by omega) (i := 10) (m := 9) (by decide) rfl (by decide) rfl) (fun a σ2 v τ2 h2 => ?_)
    obtain ⟨c2, d2, q⟩ := h2
    have ix : (60 : Int32) + nI D = nI (60 + D) := nI_add 60 D
    rw [ix]
    refine pr2.rt (pz_ini (by omega) (by decide)) ?_
    rw [nI_clamp (by omega)]
    refine pr2.rl rfl ?_
    rcases q with ⟨rfl, st2, val, s2, g2, rfl, e9, v1, v2, v3⟩ | ⟨rfl, hF, hm⟩
    · have t2 := t.pe (c1.tr c2) (d1.tr d2)
      refine pr2.le (by decide) ?_
      refine pr2.ll e9 ?_
      unfold qX2_addDevice
      have e21 : (2 + 1 : Nat) = 3 := rfl
      rw [e21, ps_bd_let]
      refine pr2.ll t2.1.1.1 ?_
      rw [if_neg (show ¬ (4 : Int32) ≤ nI D from nI_ge (b := 4) (by omega) (by decide)), ps_bd_let]
      refine pr2.ll t2.1.1.1 ?_
      rw [if_pos (pz_ini (by omega) (by decide)), nI_clamp (by omega), pz_lt, ps_bd_let]
      refine pr2.ll (w := nI D) (by rw [ps_rI_ne _ _ (by decide)]; exact t2.1.1.1) ?_
      rw [pz_lt, nI_1, pz_bds]
      refine pr2.rl (w := 0) (by rw [ps_rI_ne _ _ (by decide)]; exact g2.1.2.2.1) ?_
      refine pr2.rt rfl ?_
      refine pr2.rl (w := nI D) (by rw [ps_rI_at, upd_ne _ _ (by omega)]; exact t2.1.1.2.1) ?_
      rw [pz_lt, nI_1]
      have hval : val ≤ 999 := by omega
      refine pr2.d ⟨c1.l.tr (c2.l.tr ⟨fun k hk => ?_, ?_, rfl⟩), d1.l.tr (d2.l.tr ⟨fun k k1 k2 => ?_, fun j hj => ?_, rfl⟩), Or.inl ⟨rfl, st2, D + 1, F, W, cs, by omega, g2.h (fun k hk => ?_) (fun k hk => ?_) (fun j hj => ?_), t2.dev (v := val) (by omega) hval ?_ ?_ (fun k k1 k2 => ?_) ?_, by omega⟩⟩
      · rw [ps_rI_ne _ _ (by omega), ps_rI_ne _ _ (by omega)]
      · rw [ps_rI_ne _ _ (by omega), ps_rI_ne _ _ (by omega)]
      · rw [ps_rI_ne _ _ k2, ps_rI_ne _ _ k2]
      · rw [ps_rI_ne _ _ (by omega), ps_rI_ne _ _ (by omega)]
      · rw [ps_rI_ne _ _ (by omega), ps_rI_ne _ _ (by omega)]
      · rw [ps_rI_ne _ _ (by omega), ps_rI_ne _ _ (by omega)]
      · rw [ps_rI_at, upd_ne _ _ (by omega), ps_rI_at, upd_ne _ _ (by omega)]
      · rw [ps_rI_at, ps_rI_ne _ _ (by decide)]
      · rw [ps_rI_ne _ _ (by decide), ps_rI_at]
      · rw [ps_rI_ne _ _ (by omega), ps_rI_ne _ _ (by omega)]
      · rw [ps_rI_at, ps_rI_at]
    · refine pr2.lt rfl ?_
      have hz : ¬ (ps_rI τ2 332 (upd (τ2.1 332) (60 + D) v)).1 327 12 = 0 := by rw [ps_rI_ne _ _ (by decide)]; exact hF.nz
      refine pr2.rl rfl ?_
      refine pr2.re hz ?_
      refine pr2.d ⟨c1.l.tr c2.l, d1.l.tr (d2.l.tr ⟨fun k k1 k2 => ps_rI_ne _ _ k2, fun j hj => by rw [ps_rI_ne _ _ (by decide)], rfl⟩), Or.inr ⟨rfl, ?_⟩⟩
      unfold pr_F
      rw [ps_rI_ne _ _ (by decide)]
      exact hF
end DEV2
