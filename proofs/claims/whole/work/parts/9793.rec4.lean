/-! units, and all levels -/
section UNIT
variable {n : Nat} {b : Nat → Nat} {wr : Bool} {p st k h : Nat} {cs : List Nat} {σ τ σ0 τ0 : ps_S}
theorem pr_cmp {c h0 st0 Nc Ng : Nat} {l1 : List Nat} (r0 : pr_ct n b wr false 0 p h0 Nc Ng) (g : pr_E n b wr p st (cs ++ l1) σ τ) (hk : (cs ++ l1).length + k ≤ st) (hs : st0 ≤ st) (hc : tk_cd n b st ≠ 26) (t1 : tk_ty wr l1 false h0) (ht : ∀ T, pa_tyS wr c (false :: false :: T) = some (true :: T)) (ah : h0 + 1 ≤ h) (fc : pe_c σ0 σ) (fg : pe_g τ0 τ) : pr2 (ps_bd (qX5_advance σ) (fun _ s => ps_bd (rc_X5 Nc 0 s) (fun v s2 => ps_bd (qX3_append 2 (nI (pa_mp c)) s2) (fun _ s3 => if ps_b01 v = true then some (v, s3) else none)))) (ps_bd (qX9_steps τ) (fun _ s => ps_bd (rc_X9 Ng 0 (nI p) s) (fun _ s2 => ps_bd (qX9_codes (nI c) s2) (fun _ s3 => some ((), s3))))) (fun a σ' _ τ' => pr_P n b wr p st0 cs k σ0 τ0 true h a σ' τ') := by
  refine pr2.b (g.adv hc) (fun _ σ1 _ τ1 h1 => ?_)
  obtain ⟨st1, s1, g1, c1, d1⟩ := h1
  refine pr2.b (r0 st1 (k + 1) (cs ++ l1) σ1 τ1 g1 (by omega)) (fun v σ2 _ τ2 h2 => ?_)
  obtain ⟨c2, d2, ⟨rfl, st2, l2, g2, k2, s2, n2, t2⟩ | ⟨rfl, hF, m2, m3, m4⟩⟩ := h2
  · have lt2 := g2.lt
    refine pr2.b (g2.app (c := c) (by omega)) (fun _ σ3 _ τ3 h3 => ?_)
    obtain ⟨g3, c3, d3⟩ := h3
    refine pr2.lt rfl ?_
    have e : cs ++ l1 ++ l2 ++ [c] = cs ++ (l1 ++ l2 ++ [c]) := by simp only [List.append_assoc]
    rw [e] at g3
    refine pr2.d ⟨fc.tr (c1.tr (c2.tr c3)), fg.tr (d1.tr (d2.tr d3)), Or.inl ⟨rfl, st2, _, g3, ?_, by omega, ?_, tk_ty_2 t1 t2 ht (by omega) ah⟩⟩
    · rw [← e, List.length_append]
      have : [c].length = 1 := rfl
      omega
    · intro hh
      have := congrArg List.length hh
      rw [List.length_append] at this
      have h1 : [c].length = 1 := rfl
      have h0 : ([] : List Nat).length = 0 := rfl
      omega
  · obtain ⟨x, ex, x1, x2, x3⟩ := pc_app0 (v := nI (pa_mp c)) m3 m4
    refine pr2.l ex ?_
    refine pr2.r (pg_codes0 hF.nz) ?_
    refine pr2.lt rfl ?_
    refine pr2.d (pr_P.fl rfl ?_ x3 (fc.tr (c1.tr (c2.tr x1))) (fg.tr (d1.tr d2)))
    unfold pr_F
    rw [x2]
    exact hF
theorem pr_c6 {Nc Ng h0 h4 h6 : Nat} (hp : p ≤ 6) (r0 : pr_ct n b wr false 0 p h0 Nc Ng) (r0' : pr_ct n b wr false 0 p h0 Nc Ng) (r4 : p < 6 → pr_ct n b wr true 4 (p + 1) h4 (Nc + 1) Ng) (r6 : p < 6 → pr_ct n b wr true 6 (p + 1) h6 (Nc + 1) Ng) (hN : 3 ≤ Ng) (a0 : h0 + 1 ≤ h) (a4 : p < 6 → h4 ≤ h) (a6 : p < 6 → h6 ≤ h) : pr_ct n b wr true 6 p h (Nc + 1 + 1) (Ng + 1) := by
  intro st k cs σ τ g hk
  rw [rc5_6, rc9_6]
  unfold bX5_readUnit bX9_readUnit
  have hlt := g.lt
  rw [pr_wd g (i := 17) (m := 23) (by decide) rfl, pr_is g (c := 23) (v := 23) (by decide) rfl]
  by_cases c23 : tk_cd n b st = 23
  · rw [if_pos c23, pz_bds, pz_bds, if_neg (by decide), if_neg (by decide)]
    refine pr2.b (pr_deep g (by omega) hp (by omega)) (fun a σ1 a' τ1 h1 => ?_)
    obtain ⟨c1, d1, ⟨rfl, rfl, p6, st1, s1, g1⟩ | ⟨rfl, rfl, hF, hm⟩⟩ := h1
    · refine pr2.le (by decide) ?_
      refine pr2.re (by decide) ?_
      rw [nI_1]
      refine pr2.b (r6 p6 st1 (k + 1) cs σ1 τ1 g1 (by omega)) (fun a σ2 _ τ2 h2 => ?_)
      obtain ⟨c2, d2, ⟨rfl, st2, l2, g2, k2, s2, n2, t2⟩ | ⟨rfl, hF, hm⟩⟩ := h2
      · refine pr2.le (by decide) ?_
        refine pr2.ll g2.2.2.1 ?_
        rw [show nI (p + 1) - 1 = nI p from nI_sub (a := p + 1) (b := 1) (by omega), pz_lt]
        obtain ⟨g3, c3⟩ := g2.dp p
        have lt2 := g2.lt
        have ap := g3.app (c := 3006) (by omega)
        refine pr2.b ap (fun _ σ4 _ τ4 h4 => ?_)
        obtain ⟨g4, c4, d4⟩ := h4
        have e : cs ++ l2 ++ [3006] = cs ++ (l2 ++ [3006]) := by simp only [List.append_assoc]
        rw [e] at g4
        refine pr2.d ⟨c1.tr (c2.tr (c3.tr c4)), d1.tr (d2.tr d4), Or.inl ⟨rfl, st2, _, g4, ?_, by omega, ?_, tk_ty_n t2 (a6 p6) (by omega)⟩⟩
        · rw [← e, List.length_append]
          have : [3006].length = 1 := rfl
          omega
        · intro hh
          have := congrArg List.length hh
          rw [List.length_append] at this
          have h1 : [3006].length = 1 := rfl
          have h0 : ([] : List Nat).length = 0 := rfl
          omega
      · refine pr2.lt rfl ?_
        rw [pg_codes0 hF.nz, pz_bds]
        exact pr2.d (pr_P.fl rfl hF hm (c1.tr c2) (d1.tr d2))
    · refine pr2.lt rfl ?_
      refine pr2.rt rfl ?_
      exact pr2.d (pr_P.fl rfl hF hm c1 d1)
  rw [if_neg c23, pz_bds, pz_bds, if_pos rfl, if_pos rfl, pr_sg g (j := 7) (by decide) (v := 91) (by decide), pr_is g (c := 37) (v := 37) (by decide) rfl]
  by_cases c37 : tk_cd n b st = 37
  · rw [if_pos (show tk_cd n b st = 30 + 7 from c37), pz_bds, pz_bds, if_neg (by decide), if_neg (by decide)]
    refine pr2.b (pr_deep g (by omega) hp (by omega)) (fun a σ1 a' τ1 h1 => ?_)
    obtain ⟨c1, d1, ⟨rfl, rfl, p6, st1, s1, g1⟩ | ⟨rfl, rfl, hF, hm⟩⟩ := h1
    · refine pr2.le (by decide) ?_
      refine pr2.re (by decide) ?_
      rw [nI_1]
      refine pr2.b (r4 p6 st1 (k + 1) cs σ1 τ1 g1 (by omega)) (fun a σ2 _ τ2 h2 => ?_)
      obtain ⟨c2, d2, ⟨rfl, st2, l2, g2, k2, s2, n2, t2⟩ | ⟨rfl, hF, hm⟩⟩ := h2
      · refine pr2.le (by decide) ?_
        refine pr2.ll g2.2.2.1 ?_
        rw [show nI (p + 1) - 1 = nI p from nI_sub (a := p + 1) (b := 1) (by omega), pz_lt]
        obtain ⟨g3, c3⟩ := g2.dp p
        have lt2 := g2.lt
        refine pr_take g3 (c := 38) (by decide) (by decide) rfl (by omega) (fun e => pr_ts1 g3 (j := 8) (by decide) (by decide) e) (fun e => pr_ts0 g3 (j := 8) (by decide) (by decide) e) (fun st4 σ4 τ4 s4 g4 c4 d4 => ?_) (fun σ4 τ4 hF hm c4 d4 => ?_)
        · refine pr2.lt rfl ?_
          exact pr2.d ⟨c1.tr (c2.tr (c3.tr c4)), d1.tr (d2.tr d4), Or.inl ⟨rfl, st4, l2, g4, by omega, by omega, n2, t2.mono (a4 p6)⟩⟩
        · refine pr2.lt rfl ?_
          exact pr2.d (pr_P.fl rfl hF hm (c1.tr (c2.tr (c3.tr c4))) (d1.tr (d2.tr d4)))
      · refine pr2.lt rfl ?_
        rw [pg_eats0 hF.nz, pz_bds, if_pos rfl, pg_fails0 hF.nz, pz_bds]
        exact pr2.d (pr_P.fl rfl hF hm (c1.tr c2) (d1.tr d2))
    · refine pr2.lt rfl ?_
      refine pr2.rt rfl ?_
      exact pr2.d (pr_P.fl rfl hF hm c1 d1)
  rw [if_neg (show ¬ tk_cd n b st = 30 + 7 from c37), pz_bds, pz_bds, if_pos rfl, if_pos rfl, rc5_7]
  unfold bX5_readCompared
  rw [ps_bd_as]
  obtain ⟨N, rfl⟩ : ∃ N, Ng = N + 3 := ⟨Ng - 3, by omega⟩
  have fin : ∀ (A : Option (Int32 × ps_S)) (B : Option (Unit × ps_S)), pr2 A B (fun a σ' _ τ' => pr_P n b wr p st cs k σ τ true h a σ' τ') → pr2 (ps_bd A (fun v7 σ8 => if ps_b01 v7 = true then some (v7, σ8) else none)) B (fun a σ' _ τ' => pr_P n b wr p st cs k σ τ true h a σ' τ') := by
    rintro A B ⟨a, σ1, c, τ1, rfl, rfl, q⟩
    have hb : ps_b01 a = true := by
      obtain ⟨_, _, q | q⟩ := q
      · rw [q.1]; rfl
      · rw [q.1]; rfl
    refine pr2.l rfl ?_
    exact pr2.lt hb (pr2.d q)
  rw [← ps_bd_as]
  refine fin _ _ ?_
  refine pr2.b (r0 st k cs σ τ g hk) (fun a σ1 _ τ1 h1 => ?_)
  obtain ⟨c1, d1, ⟨rfl, st1, l1, g1, k1, s1, n1, t1⟩ | ⟨rfl, hF, hm⟩⟩ := h1
  · refine pr2.le (by decide) ?_
    have lt1 := g1.lt
    rw [pr_sg g1 (j := 9) (by decide) (v := 61) (by decide), pr_is g1 (c := 39) (v := 39) (by decide) rfl]
    by_cases c39 : tk_cd n b st1 = 39
    · rw [if_pos (show tk_cd n b st1 = 30 + 9 from c39), pz_bds, pz_bds, if_neg (by decide), if_neg (by decide), pr_is g1 (c := 39) (v := 39) (by decide) rfl, if_pos c39, pz_bds, if_neg (by decide)]
      exact pr_cmp (c := 3003) r0 g1 k1 s1 (by omega) t1 (fun T => rfl) a0 c1 d1
    rw [if_neg (show ¬ tk_cd n b st1 = 30 + 9 from c39), pz_bds, pz_bds, if_pos rfl, if_pos rfl, pr_sg g1 (j := 10) (by decide) (v := 60) (by decide), pr_is g1 (c := 40) (v := 40) (by decide) rfl]
    by_cases c40 : tk_cd n b st1 = 40
    · rw [if_pos (show tk_cd n b st1 = 30 + 10 from c40), pz_bds, pz_bds, if_neg (by decide), if_neg (by decide), pr_is g1 (c := 39) (v := 39) (by decide) rfl, if_neg c39, pz_bds, if_pos rfl, pr_is g1 (c := 40) (v := 40) (by decide) rfl, if_pos c40, pz_bds, if_neg (by decide)]
      exact pr_cmp (c := 3004) r0 g1 k1 s1 (by omega) t1 (fun T => rfl) a0 c1 d1
    rw [if_neg (show ¬ tk_cd n b st1 = 30 + 10 from c40), pz_bds, pz_bds, if_pos rfl, if_pos rfl, pr_sg g1 (j := 11) (by decide) (v := 62) (by decide), pr_is g1 (c := 39) (v := 39) (by decide) rfl, if_neg c39, pz_bds]
    by_cases c41 : tk_cd n b st1 = 41
    · rw [if_pos (show tk_cd n b st1 = 30 + 11 from c41), pz_bds, if_neg (by decide), if_pos rfl, pr_is g1 (c := 40) (v := 40) (by decide) rfl, if_neg c40, pz_bds, if_pos rfl, pr_is g1 (c := 41) (v := 41) (by decide) rfl, if_pos c41, pz_bds, if_neg (by decide)]
      exact pr_cmp (c := 3005) r0 g1 k1 s1 (by omega) t1 (fun T => rfl) a0 c1 d1
    · rw [if_neg (show ¬ tk_cd n b st1 = 30 + 11 from c41), pz_bds, if_pos rfl, if_pos rfl, pr_is g1 (c := 40) (v := 40) (by decide) rfl, if_neg c40, pz_bds, if_pos rfl, pr_is g1 (c := 41) (v := 41) (by decide) rfl, if_neg c41, pz_bds, if_pos rfl]
      have := g1.no (w := 2) (by decide) (show (cs ++ l1).length ≤ 900 by omega)
      refine pr2.b this (fun a σ2 _ τ2 h2 => ?_)
      obtain ⟨rfl, hF, hm, c2, d2⟩ := h2
      refine pr2.lt rfl ?_
      rw [pg_n0 hF.nz, pz_bds, pg_codes0 hF.nz, pz_bds]
      exact pr2.d (pr_P.fl rfl hF hm (c1.tr c2) (d1.tr d2))
  · refine pr2.lt rfl ?_
    have hz := hF.nz
    rw [pg_is0 hz, pz_bds, if_pos rfl, pg_is0 hz, pz_bds, if_pos rfl, pg_is0 hz, pz_bds, if_pos rfl, pg_is0 hz, pz_bds, if_pos rfl, pg_is0 hz, pz_bds, if_pos rfl, pg_fails0 hz, pz_bds, pg_n0 hz, pz_bds, pg_codes0 hz, pz_bds]
    exact pr2.d (pr_P.fl rfl hF hm c1 d1)
end UNIT
