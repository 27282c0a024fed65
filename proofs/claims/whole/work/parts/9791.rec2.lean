/-! deeper, words and signs taken, choices -/
section DEEP
variable {n : Nat} {b : Nat → Nat} {wr : Bool} {p st k h : Nat} {cs : List Nat} {σ τ : ps_S}
theorem pr_E.dp (g : pr_E n b wr p st cs σ τ) (q : Nat) : pr_E n b wr q st cs (ps_rI σ 11 (upd (σ.1 11) 10 (nI q))) τ ∧ pe_c σ (ps_rI σ 11 (upd (σ.1 11) 10 (nI q))) := by
  obtain ⟨⟨⟨⟨t1, t2, t3⟩, k6, k7, k5, k8, kn⟩, r2, r3, r4, r5⟩, c1, h10, h11, h16⟩ := g
  have e : ∀ j, j ≠ 10 → (ps_rI σ 11 (upd (σ.1 11) 10 (nI q))).1 11 j = σ.1 11 j := fun j hj => by rw [ps_rI_at, upd_ne _ _ hj]
  have e2 : ∀ j, j ≠ 11 → (ps_rI σ 11 (upd (σ.1 11) 10 (nI q))).1 j = σ.1 j := fun j hj => ps_rI_ne _ _ hj
  refine ⟨⟨⟨⟨⟨t1, ?_, ?_⟩, ?_, ?_, ?_, fun hh => ?_, kn⟩, r2, r3, ?_, ?_⟩, c1.congr ?_ ?_ rfl, ?_, ?_, h16⟩, fun j _ _ hj => e2 j hj, fun j _ => by rw [e2 9 (by decide)], fun j hj => e j (by omega), rfl⟩
  · rw [e 4 (by decide)]; exact t2
  · rw [e2 1 (by decide)]; exact t3
  · rw [e 6 (by decide)]; exact k6
  · rw [e 7 (by decide)]; exact k7
  · rw [e 5 (by decide)]; exact k5
  · rw [e 8 (by decide)]; exact k8 hh
  · rw [e 0 (by decide)]; exact r4
  · rw [e 1 (by decide)]; exact r5
  · rw [e2 9 (by decide)]
  · rw [e2 10 (by decide)]
  · rw [ps_rI_at, upd_self]
  · rw [e 11 (by decide)]; exact h11
theorem pr_deep (g : pr_E n b wr p st cs σ τ) (hc : tk_cd n b st ≠ 26) (hp : p ≤ 6) (hl : cs.length ≤ 900) : pr2 (qX5_goDeeper σ) (qX9_goesIn (nI p) τ) (fun a σ' a' τ' => pe_c σ σ' ∧ pe_g τ τ' ∧ ((a = 1 ∧ a' = 1 ∧ p < 6 ∧ ∃ st', st + 1 ≤ st' ∧ pr_E n b wr (p + 1) st' cs σ' τ') ∨ (a = 0 ∧ a' = 0 ∧ pr_F σ' τ' ∧ ∃ m, m ≤ 900 ∧ σ'.1 9 1 = nI m))) := by
  unfold qX5_goDeeper qX9_goesIn
  refine pr2.ll g.2.2.1 ?_
  by_cases c : p = 6
  · subst c
    refine pr2.le (by decide) ?_
    refine pr2.rt rfl ?_
    have := g.no (w := 4) (by decide) hl
    refine pr2.b this (fun a σ1 _ τ1 h1 => ?_)
    obtain ⟨rfl, hF, hm, c1, d1⟩ := h1
    refine pr2.lt rfl ?_
    rw [pz_lt, if_neg hF.nz, pz_lt, if_neg hF.nz]
    exact pr2.d ⟨c1, d1, Or.inr ⟨rfl, rfl, hF, hm⟩⟩
  · refine pr2.lt (Int32.not_le.mp (nI_ge (b := 6) (by omega) (by decide))) ?_
    refine pr2.re (pc_lit (k := 6) (by omega) (by decide) c) ?_
    refine pr2.ll g.2.2.1 ?_
    rw [pz_lt, nI_1]
    refine pr2.rl g.1.2.2.1 ?_
    refine pr2.rt rfl ?_
    obtain ⟨g1, c1⟩ := g.dp (p + 1)
    refine pr2.b (g1.adv hc) (fun _ σ2 _ τ2 h2 => ?_)
    obtain ⟨st', s1, g2, c2, d2⟩ := h2
    refine pr2.rl g2.1.2.2.1 ?_
    refine pr2.rt rfl ?_
    exact pr2.d ⟨c1.tr c2, d2, Or.inl ⟨rfl, rfl, by omega, st', s1, g2⟩⟩
theorem pr_tw1 (g : pr_E n b wr p st cs σ τ) {i m : Nat} (h1 : 1 ≤ i ∧ i < 25) (hm : tk_mw i = m) (e : tk_cd n b st = m) : qX5_takeWord i σ = ps_bd (qX5_advance σ) (fun _ s => some (1, s)) := by
  unfold qX5_takeWord
  rw [pr_wd g h1 hm, if_pos e, pz_bds, if_neg (by decide)]
theorem pr_tw0 (g : pr_E n b wr p st cs σ τ) {i m : Nat} (h1 : 1 ≤ i ∧ i < 25) (hm : tk_mw i = m) (e : ¬ tk_cd n b st = m) : qX5_takeWord i σ = ps_bd (qX5_refuse 2 σ) (fun v s => if ps_b01 v = true then some (v, s) else none) := by
  unfold qX5_takeWord
  rw [pr_wd g h1 hm, if_neg e, pz_bds, if_pos rfl]
theorem pr_ts1 (g : pr_E n b wr p st cs σ τ) {j : Nat} (hj : j < 12) {v : Int32} (hv : v = nI (tk_ch 0 j)) (e : tk_cd n b st = 30 + j) : qX5_takeSign v σ = ps_bd (qX5_advance σ) (fun _ s => some (1, s)) := by
  unfold qX5_takeSign
  rw [pr_sg g hj hv, if_pos e, pz_bds, if_neg (by decide)]
theorem pr_ts0 (g : pr_E n b wr p st cs σ τ) {j : Nat} (hj : j < 12) {v : Int32} (hv : v = nI (tk_ch 0 j)) (e : ¬ tk_cd n b st = 30 + j) : qX5_takeSign v σ = ps_bd (qX5_refuse 2 σ) (fun v s => if ps_b01 v = true then some (v, s) else none) := by
  unfold qX5_takeSign
  rw [pr_sg g hj hv, if_neg e, pz_bds, if_pos rfl]
theorem pr_take {γ β : Type} {TC : Option (Int32 × ps_S)} {fC : Int32 → ps_S → Option (γ × ps_S)} {A B : ps_S → Option (β × ps_S)} {Q : γ → ps_S → β → ps_S → Prop} {c : Nat} {v : Int32} (g : pr_E n b wr p st cs σ τ) (hc : c < 100) (h26 : c ≠ 26) (hv : v = nI c) (hl : cs.length ≤ 900)
    (t1 : tk_cd n b st = c → TC = ps_bd (qX5_advance σ) (fun _ s => some (1, s))) (t0 : ¬ tk_cd n b st = c → TC = ps_bd (qX5_refuse 2 σ) (fun x s => if ps_b01 x = true then some (x, s) else none))
    (ok : ∀ st' σ' τ', st + 1 ≤ st' → pr_E n b wr p st' cs σ' τ' → pe_c σ σ' → pe_g τ τ' → pr2 (fC 1 σ') (B τ') Q)
    (no : ∀ σ' τ', pr_F σ' τ' → (∃ m, m ≤ 900 ∧ σ'.1 9 1 = nI m) → pe_c σ σ' → pe_g τ τ' → pr2 (fC 0 σ') (A τ') Q) :
    pr2 (ps_bd TC fC) (ps_bd (qX9_eats v τ) (fun v1 τ1 => if v1 = 0 then ps_bd (qX9_fails 2 τ1) (fun _ τ2 => A τ2) else B τ1)) Q := by
  by_cases e : tk_cd n b st = c
  · rw [t1 e, pr_eats1 g hc hv e, ps_bd_as, ps_bd_as]
    refine pr2.b (g.adv (by omega)) (fun _ σ1 _ τ1 h1 => ?_)
    obtain ⟨st', s1, g1, c1, d1⟩ := h1
    rw [pz_bds, pz_bds]
    exact pr2.re (by decide) (ok st' σ1 τ1 s1 g1 c1 d1)
  · rw [t0 e, pr_eats0 g hc hv e, pz_bds, if_pos rfl, ps_bd_as]
    have := g.no (w := 2) (by decide) hl
    refine pr2.b this (fun a σ1 _ τ1 h1 => ?_)
    obtain ⟨rfl, hF, hm, c1, d1⟩ := h1
    rw [if_pos (by rfl), pz_bds]
    exact no σ1 τ1 hF hm c1 d1
theorem pr_c3 {Nc Ng h4 h0 : Nat} (hp : p ≤ 6) (r4 : p < 6 → pr_ct n b wr true 4 (p + 1) h4 Nc Ng) (r0 : p < 6 → pr_ct n b wr false 0 (p + 1) h0 Nc Ng) (hN : p < 6 → 6 ≤ Ng) (a1 : h4 ≤ h) (a2 : h0 + 2 ≤ h) (g : pr_E n b wr p st cs σ τ) (hk : cs.length + k ≤ st) (hc : tk_cd n b st ≠ 26) : pr2 (rc_X5 (Nc + 1) 3 σ) (rc_X9 (Ng + 1) 3 (nI p) τ) (fun a σ' _ τ' => pr_P n b wr p st cs k σ τ false h a σ' τ') := by
  rw [rc5_3, rc9_3]
  unfold bX5_readChoice bX9_readIf
  have hlt := g.lt
  refine pr2.b (pr_deep g hc hp (by omega)) (fun a σ1 a' τ1 h1 => ?_)
  obtain ⟨c1, d1, ⟨rfl, rfl, p6, st1, s1, g1⟩ | ⟨rfl, rfl, hF, hm⟩⟩ := h1
  · refine pr2.le (by decide) ?_
    refine pr2.re (by decide) ?_
    obtain ⟨N, rfl⟩ : ∃ N, Ng = N + 6 := ⟨Ng - 6, by have := hN p6; omega⟩
    rw [nI_1]
    have z3 : ∀ τ : ps_S, ¬ τ.1 327 12 = 0 → ps_bd (qX9_codes 3009 τ) (fun _ s => some ((), s)) = some ((), τ) := fun τ hz => by rw [pg_codes0 hz, pz_bds]
    have z2 : ∀ τ : ps_S, ¬ τ.1 327 12 = 0 → ps_bd (rc_X9 (N + 6) 0 (nI (p + 1)) τ) (fun _ s => ps_bd (qX9_eats 18 s) (fun v s' => if v = 0 then ps_bd (qX9_fails 2 s') (fun _ s'' => ps_bd (qX9_codes 3009 s'') (fun _ s => some ((), s))) else ps_bd (qX9_codes 3009 s') (fun _ s => some ((), s)))) = some ((), τ) := fun τ hz => by rw [pg_n0 (N := N + 3) hz, pz_bds, pg_eats0 hz, pz_bds, if_pos rfl, pg_fails0 hz, pz_bds, z3 τ hz]
    have z1 : ∀ τ : ps_S, ¬ τ.1 327 12 = 0 → ps_bd (rc_X9 (N + 6) 0 (nI (p + 1)) τ) (fun _ s => ps_bd (qX9_eats 17 s) (fun v s' => if v = 0 then ps_bd (qX9_fails 2 s') (fun _ τ => ps_bd (rc_X9 (N + 6) 0 (nI (p + 1)) τ) (fun _ s => ps_bd (qX9_eats 18 s) (fun v s' => if v = 0 then ps_bd (qX9_fails 2 s') (fun _ s'' => ps_bd (qX9_codes 3009 s'') (fun _ s => some ((), s))) else ps_bd (qX9_codes 3009 s') (fun _ s => some ((), s))))) else ps_bd (rc_X9 (N + 6) 0 (nI (p + 1)) s') (fun _ s => ps_bd (qX9_eats 18 s) (fun v s' => if v = 0 then ps_bd (qX9_fails 2 s') (fun _ s'' => ps_bd (qX9_codes 3009 s'') (fun _ s => some ((), s))) else ps_bd (qX9_codes 3009 s') (fun _ s => some ((), s)))))) = some ((), τ) := fun τ hz => by rw [pg_n0 (N := N + 3) hz, pz_bds, pg_eats0 hz, pz_bds, if_pos rfl, pg_fails0 hz, pz_bds, z2 τ hz]
    refine pr2.b (r4 p6 st1 (k + 1) cs σ1 τ1 g1 (by omega)) (fun a σ2 _ τ2 h2 => ?_)
    obtain ⟨c2, d2, ⟨rfl, st2, l2, g2, k2, s2, n2, t2⟩ | ⟨rfl, hF, hm⟩⟩ := h2
    · refine pr2.le (by decide) ?_
      have lt2 := g2.lt
      refine pr_take g2 (c := 16) (by decide) (by decide) rfl (by omega) (fun e => pr_tw1 g2 (by decide) rfl e) (fun e => pr_tw0 g2 (by decide) rfl e) (fun st3 σ3 τ3 s3 g3 c3 d3 => ?_) (fun σ3 τ3 hF hm c3 d3 => ?_)
      · refine pr2.le (by decide) ?_
        refine pr2.b (r0 p6 st3 (k + 1) (cs ++ l2) σ3 τ3 g3 (by omega)) (fun a σ4 _ τ4 h4 => ?_)
        obtain ⟨c4, d4, ⟨rfl, st4, l4, g4, k4, s4, n4, t4⟩ | ⟨rfl, hF, hm⟩⟩ := h4
        · refine pr2.le (by decide) ?_
          have lt4 := g4.lt
          refine pr_take g4 (c := 17) (by decide) (by decide) rfl (by omega) (fun e => pr_tw1 g4 (by decide) rfl e) (fun e => pr_tw0 g4 (by decide) rfl e) (fun st5 σ5 τ5 s5 g5 c5 d5 => ?_) (fun σ5 τ5 hF hm c5 d5 => ?_)
          · refine pr2.le (by decide) ?_
            refine pr2.b (r0 p6 st5 (k + 1) (cs ++ l2 ++ l4) σ5 τ5 g5 (by omega)) (fun a σ6 _ τ6 h6 => ?_)
            obtain ⟨c6, d6, ⟨rfl, st6, l6, g6, k6, s6, n6, t6⟩ | ⟨rfl, hF, hm⟩⟩ := h6
            · refine pr2.le (by decide) ?_
              have lt6 := g6.lt
              refine pr_take g6 (c := 18) (by decide) (by decide) rfl (by omega) (fun e => pr_tw1 g6 (by decide) rfl e) (fun e => pr_tw0 g6 (by decide) rfl e) (fun st7 σ7 τ7 s7 g7 c7 d7 => ?_) (fun σ7 τ7 hF hm c7 d7 => ?_)
              · refine pr2.le (by decide) ?_
                refine pr2.ll g7.2.2.1 ?_
                rw [show nI (p + 1) - 1 = nI p from nI_sub (a := p + 1) (b := 1) (by omega), pz_lt]
                obtain ⟨g8, c8⟩ := g7.dp p
                have lt7 := g7.lt
                have ap := g8.app (c := 3009) (by omega)
                refine pr2.b ap (fun _ σ9 _ τ9 h9 => ?_)
                obtain ⟨g9, c9, d9⟩ := h9
                have e : cs ++ l2 ++ l4 ++ l6 ++ [3009] = cs ++ (l2 ++ l4 ++ l6 ++ [3009]) := by simp only [List.append_assoc]
                rw [e] at g9
                refine pr2.d ⟨c1.tr (c2.tr (c3.tr (c4.tr (c5.tr (c6.tr (c7.tr (c8.tr c9))))))), d1.tr (d2.tr (d3.tr (d4.tr (d5.tr (d6.tr (d7.tr d9)))))), Or.inl ⟨rfl, st7, _, g9, ?_, by omega, ?_, tk_ty_3 t2 t4 t6 a1 (by omega) a2⟩⟩
                · rw [← e, List.length_append]
                  have : [3009].length = 1 := rfl
                  omega
                · intro hh
                  have := congrArg List.length hh
                  rw [List.length_append] at this
                  have h1 : [3009].length = 1 := rfl
                  have h0 : ([] : List Nat).length = 0 := rfl
                  omega
              · refine pr2.lt rfl ?_
                rw [z3 τ7 hF.nz]
                exact pr2.d (pr_P.fl rfl hF hm (c1.tr (c2.tr (c3.tr (c4.tr (c5.tr (c6.tr c7)))))) (d1.tr (d2.tr (d3.tr (d4.tr (d5.tr (d6.tr d7)))))))
            · refine pr2.lt rfl ?_
              rw [pg_eats0 hF.nz, pz_bds, if_pos rfl, pg_fails0 hF.nz, pz_bds, z3 τ6 hF.nz]
              exact pr2.d (pr_P.fl rfl hF hm (c1.tr (c2.tr (c3.tr (c4.tr (c5.tr c6))))) (d1.tr (d2.tr (d3.tr (d4.tr (d5.tr d6))))))
          · refine pr2.lt rfl ?_
            rw [z2 τ5 hF.nz]
            exact pr2.d (pr_P.fl rfl hF hm (c1.tr (c2.tr (c3.tr (c4.tr c5)))) (d1.tr (d2.tr (d3.tr (d4.tr d5)))))
        · refine pr2.lt rfl ?_
          rw [pg_eats0 hF.nz, pz_bds, if_pos rfl, pg_fails0 hF.nz, pz_bds, z2 τ4 hF.nz]
          exact pr2.d (pr_P.fl rfl hF hm (c1.tr (c2.tr (c3.tr c4))) (d1.tr (d2.tr (d3.tr d4))))
      · refine pr2.lt rfl ?_
        rw [z1 τ3 hF.nz]
        exact pr2.d (pr_P.fl rfl hF hm (c1.tr (c2.tr c3)) (d1.tr (d2.tr d3)))
    · refine pr2.lt rfl ?_
      rw [pg_eats0 hF.nz, pz_bds, if_pos rfl, pg_fails0 hF.nz, pz_bds, z1 τ2 hF.nz]
      exact pr2.d (pr_P.fl rfl hF hm (c1.tr c2) (d1.tr d2))
  · refine pr2.lt rfl ?_
    refine pr2.rt rfl ?_
    exact pr2.d (pr_P.fl rfl hF hm c1 d1)
end DEEP
