/-! atoms -/
section ATOM
variable {n : Nat} {b : Nat → Nat} {wr : Bool} {p st k h : Nat} {cs : List Nat} {σ τ : ps_S}
theorem tk_cd_25 (e : tk_cd n b st = 25) : tk_val b st (tk_sp n b st - st) < 1000 := by
  unfold tk_cd at e
  by_cases c1 : n ≤ st
  · rw [if_pos c1] at e; omega
  rw [if_neg c1] at e
  by_cases c2 : tk_le (b st) = true
  · rw [if_pos c2] at e
    have := tk_KWlen (tk_w b st (tk_sp n b st))
    omega
  rw [if_neg c2] at e
  by_cases c3 : tk_di (b st) = true
  · rw [if_pos c3] at e
    have h3 : tk_sp n b st - st ≤ 3 := by
      by_cases q : tk_sp n b st - st ≤ 3
      · exact q
      · rw [if_neg q] at e; omega
    have hsp : tk_sp n b st = tk_go tk_di n b (n - st) st := by unfold tk_sp; rw [if_neg c1, if_neg c2, if_pos c3]
    have hv := tk_val_le (b := b) (st := st) (tk_sp n b st - st) (fun i hi => by
      have := tk_go_in (p := tk_di) (n := n) (b := b) (n - st) st (st + i) (by omega) (by omega)
      unfold tk_di at this
      rw [decide_eq_true_iff] at this
      exact this.2)
    exact Nat.lt_of_lt_of_le hv (Nat.le_trans (Nat.pow_le_pow_right (by decide) h3) (by decide))
  · rw [if_neg c3] at e; split at e <;> omega
theorem pr_item {c : Nat} (g : pr_E n b wr p st cs σ τ) (hk : cs.length + k ≤ st) (hc : tk_cd n b st ≠ 26) (ht : ∀ T, pa_tyS wr c T = some (false :: T)) (h1 : 1 ≤ h) : pr2 (ps_bd (qX3_append 2 (nI (pa_mp c)) σ) (fun _ s => ps_bd (qX5_advance s) (fun _ s' => some ((1 : Int32), s')))) (ps_bd (qX9_codes (nI c) τ) (fun _ s => ps_bd (qX9_steps s) (fun _ s' => some ((), s')))) (fun a σ' _ τ' => pr_P n b wr p st cs k σ τ false h a σ' τ') := by
  have hlt := g.lt
  have hst := tk_cd_n hc
  refine pr2.b (g.app (c := c) (by omega)) (fun _ σ1 _ τ1 q1 => ?_)
  obtain ⟨g1, c1, d1⟩ := q1
  refine pr2.b (g1.adv hc) (fun _ σ2 _ τ2 q2 => ?_)
  obtain ⟨st2, s2, g2, c2, d2⟩ := q2
  refine pr2.d ⟨c1.tr c2, d1.tr d2, Or.inl ⟨rfl, st2, [c], g2, ?_, by omega, by simp, (tk_ty_1 ht).mono h1⟩⟩
  rw [List.length_append]
  have : [c].length = 1 := rfl
  omega
def tk_wv (wr : Bool) (c : Nat) : Int32 := if c = 8 then 2 else if c = 12 then (if wr = true then 3 else -1) else if c = 19 then 0 else if c = 20 then 1 else -1
theorem pr_wordOf (g : pr_E n b wr p st cs σ τ) {c : Nat} (hc : c < 100) : qX9_wordOf (nI c) τ = some (tk_wv wr c, τ) := by
  have ne : ∀ k, k < 100 → c ≠ k → ¬ nI c = nI k := fun k hk h => pc_lit (by omega) (by omega) h
  unfold qX9_wordOf tk_wv
  by_cases c1 : c = 8
  · subst c1; rw [if_pos (show nI 8 = (8 : Int32) from rfl), if_pos rfl]
  rw [if_neg (show ¬ nI c = 8 from ne 8 (by decide) c1), if_neg c1]
  by_cases c2 : c = 12
  · subst c2
    rw [if_pos (show nI 12 = (12 : Int32) from rfl), if_pos rfl, pz_lt, g.2.2.2.2]
    cases wr <;> rfl
  rw [if_neg (show ¬ nI c = 12 from ne 12 (by decide) c2), if_neg c2]
  by_cases c3 : c = 19
  · subst c3; rw [if_pos (show nI 19 = (19 : Int32) from rfl), if_pos rfl]
  rw [if_neg (show ¬ nI c = 19 from ne 19 (by decide) c3), if_neg c3]
  by_cases c4 : c = 20
  · subst c4; rw [if_pos (show nI 20 = (20 : Int32) from rfl), if_pos rfl]
  rw [if_neg (show ¬ nI c = 20 from ne 20 (by decide) c4), if_neg c4]
theorem tk_cd100 (t : ∀ j, j < n → b j < 256) : tk_cd n b st < 100 := by
  by_cases c : tk_cd n b st ≤ 27
  · omega
  · obtain ⟨w1, w2, w3⟩ := tk_cd_s (show 28 ≤ tk_cd n b st by omega)
    have := (tk_sg2 _ (t st w1) w2).1
    omega
/-- the class's item -/
def tk_it (wr : Bool) (c : Nat) : Int32 := if c = 19 then 1000 else if c = 20 then 1001 else if c = 8 then 1002 else if c = 12 then (if wr = true then 1003 else -1) else -1
theorem pr_itemOf (g : pr_E n b wr p st cs σ τ) (hc : tk_cd n b st ≠ 25) : qX5_itemOfAtom σ = some (tk_it wr (tk_cd n b st), σ) := by
  have k5 := g.1.1.2.2.2.1
  unfold qX5_itemOfAtom tk_it
  rw [pz_lt, k5, if_neg (fun hh => hc (tk_kd2.mp hh)), pr_wd g (i := 23) (m := 19) (by decide) rfl]
  by_cases c1 : tk_cd n b st = 19
  · rw [if_pos c1, pz_bds, if_neg (by decide), if_pos c1]
  rw [if_neg c1, pz_bds, if_pos rfl, pr_wd g (i := 24) (m := 20) (by decide) rfl, if_neg c1]
  by_cases c2 : tk_cd n b st = 20
  · rw [if_pos c2, pz_bds, if_neg (by decide), if_pos c2]
  rw [if_neg c2, pz_bds, if_pos rfl, pr_wd g (i := 9) (m := 8) (by decide) rfl, if_neg c2]
  by_cases c3 : tk_cd n b st = 8
  · rw [if_pos c3, pz_bds, if_neg (by decide), if_pos c3]
  rw [if_neg c3, pz_bds, if_pos rfl, pz_lt, g.2.2.2.1, if_neg c3]
  cases wr with
  | false =>
    rw [if_pos (by decide)]
    split <;> rfl
  | true =>
    rw [if_neg (by decide), pr_wd g (i := 13) (m := 12) (by decide) rfl]
    by_cases c4 : tk_cd n b st = 12
    · rw [if_pos c4, pz_bds, if_neg (by decide), if_pos c4]; rfl
    · rw [if_neg c4, pz_bds, if_pos rfl, if_neg c4]
theorem pr_c2 {Nc Ng h0 : Nat} (hp : p ≤ 6) (r3 : ∀ (st k : Nat) (cs : List Nat) (σ τ : ps_S), pr_E n b wr p st cs σ τ → cs.length + k ≤ st → tk_cd n b st ≠ 26 → pr2 (rc_X5 Nc 3 σ) (rc_X9 Ng 3 (nI p) τ) (fun a σ' _ τ' => pr_P n b wr p st cs k σ τ false h a σ' τ')) (r0 : p < 6 → pr_ct n b wr false 0 (p + 1) h0 Nc Ng) (a1 : 1 ≤ h) (a2 : p < 6 → h0 ≤ h) : pr_ct n b wr false 2 p h (Nc + 1) (Ng + 1) := by
  intro st k cs σ τ g hk
  rw [rc5_2, rc9_2]
  unfold bX5_readAtom bX9_readAtom
  have hlt := g.lt
  have h100 := tk_cd100 (st := st) g.1.1.1.1.2
  have g10 := g.1.2.1.2.2.2.1
  have gz := g.1.2.2.1
  by_cases c25 : tk_cd n b st = 25
  · rw [pr_sg g (j := 5) (by decide) (v := 40) (by decide), if_neg (by omega), pz_bds, if_pos rfl, pr_wd g (i := 16) (m := 15) (by decide) rfl, if_neg (by omega), pz_bds, if_pos rfl]
    have hv := tk_cd_25 c25
    have e1 : qX5_itemOfAtom σ = some (nI (tk_val b st (tk_sp n b st - st)), σ) := by
      unfold qX5_itemOfAtom
      rw [pz_lt, g.1.1.2.2.2.1, if_pos (tk_kd2.mpr c25), pz_lt, g.1.1.2.2.2.2.1 c25]
    rw [e1, pz_bds, if_neg (fun hh => nI_m1 (by omega) hh), pr_is g (c := 25) (v := 25) (by decide) rfl, if_pos c25, pz_bds, if_neg (by decide), pz_lt, g.1.2.1.2.2.2.2.1 c25]
    generalize tk_val b st (tk_sp n b st - st) = v at hv
    have em : pa_mp v = v := by unfold pa_mp; rw [if_pos (by omega)]
    have := pr_item (c := v) (k := k) (h := h) g hk (by omega) (fun T => by unfold pa_tyS; rw [if_pos (by omega)]) a1
    rw [em] at this
    exact this
  rw [pr_is g (c := 25) (v := 25) (by decide) rfl, if_neg c25, pz_bds, if_pos rfl, pz_lt, gz, if_pos rfl, pz_lt, g10, pr_wordOf g h100, pz_bds]
  by_cases c35 : tk_cd n b st = 35
  · have wv : tk_wv wr (tk_cd n b st) = -1 := by rw [c35]; rfl
    rw [pr_sg g (j := 5) (by decide) (v := 40) (by decide), if_pos c35, pz_bds, if_neg (by decide), wv, if_pos rfl, pr_is g (c := 35) (v := 35) (by decide) rfl, if_pos c35, pz_bds, if_neg (by decide)]
    refine pr2.b (pr_deep g (by omega) hp (by omega)) (fun a σ1 a' τ1 h1 => ?_)
    obtain ⟨c1, d1, ⟨rfl, rfl, p6, st1, s1, g1⟩ | ⟨rfl, rfl, hF, hm⟩⟩ := h1
    · refine pr2.le (by decide) ?_
      refine pr2.re (by decide) ?_
      rw [nI_1]
      refine pr2.b (r0 p6 st1 (k + 1) cs σ1 τ1 g1 (by omega)) (fun a σ2 _ τ2 h2 => ?_)
      obtain ⟨c2, d2, ⟨rfl, st2, l2, g2, k2, s2, n2, t2⟩ | ⟨rfl, hF, hm⟩⟩ := h2
      · refine pr2.le (by decide) ?_
        refine pr2.ll g2.2.2.1 ?_
        rw [show nI (p + 1) - 1 = nI p from nI_sub (a := p + 1) (b := 1) (by omega), pz_lt]
        obtain ⟨g3, c3⟩ := g2.dp p
        have lt2 := g2.lt
        refine pr_take g3 (c := 36) (by decide) (by decide) rfl (by omega) (fun e => pr_ts1 g3 (j := 6) (by decide) (by decide) e) (fun e => pr_ts0 g3 (j := 6) (by decide) (by decide) e) (fun st4 σ4 τ4 s4 g4 c4 d4 => ?_) (fun σ4 τ4 hF hm c4 d4 => ?_)
        · refine pr2.lt rfl ?_
          exact pr2.d ⟨c1.tr (c2.tr (c3.tr c4)), d1.tr (d2.tr d4), Or.inl ⟨rfl, st4, l2, g4, by omega, by omega, n2, t2.mono (a2 p6)⟩⟩
        · refine pr2.lt rfl ?_
          exact pr2.d (pr_P.fl rfl hF hm (c1.tr (c2.tr (c3.tr c4))) (d1.tr (d2.tr d4)))
      · refine pr2.lt rfl ?_
        rw [pg_eats0 hF.nz, pz_bds, if_pos rfl, pg_fails0 hF.nz, pz_bds]
        exact pr2.d (pr_P.fl rfl hF hm (c1.tr c2) (d1.tr d2))
    · refine pr2.lt rfl ?_
      refine pr2.rt rfl ?_
      exact pr2.d (pr_P.fl rfl hF hm c1 d1)
  rw [pr_sg g (j := 5) (by decide) (v := 40) (by decide), if_neg (show ¬ tk_cd n b st = 30 + 5 from c35), pz_bds, if_pos rfl, pr_wd g (i := 16) (m := 15) (by decide) rfl]
  by_cases c15 : tk_cd n b st = 15
  · have wv : tk_wv wr (tk_cd n b st) = -1 := by rw [c15]; rfl
    rw [if_pos c15, pz_bds, if_neg (by decide), wv, if_pos rfl, pr_is g (c := 35) (v := 35) (by decide) rfl, if_neg c35, pz_bds, if_pos rfl, pr_is g (c := 15) (v := 15) (by decide) rfl, if_pos c15, pz_bds, if_neg (by decide)]
    refine pr2.b (r3 st k cs σ τ g hk (by omega)) (fun a σ1 _ τ1 h1 => ?_)
    have hb : ps_b01 a = true := by
      obtain ⟨_, _, q | q⟩ := h1
      · rw [q.1]; rfl
      · rw [q.1]; rfl
    refine pr2.lt hb ?_
    exact pr2.d h1
  rw [if_neg c15, pz_bds, if_pos rfl, pr_itemOf g c25, pz_bds]
  by_cases ci : tk_it wr (tk_cd n b st) = -1
  · have wv : tk_wv wr (tk_cd n b st) = -1 := by
      unfold tk_it at ci
      unfold tk_wv
      by_cases q1 : tk_cd n b st = 19
      · rw [if_pos q1] at ci; exact absurd ci (by decide)
      rw [if_neg q1] at ci
      by_cases q2 : tk_cd n b st = 20
      · rw [if_pos q2] at ci; exact absurd ci (by decide)
      rw [if_neg q2] at ci
      by_cases q3 : tk_cd n b st = 8
      · rw [if_pos q3] at ci; exact absurd ci (by decide)
      rw [if_neg q3] at ci
      rw [if_neg q3, if_neg q1, if_neg q2]
      by_cases q4 : tk_cd n b st = 12
      · rw [if_pos q4] at ci ⊢
        cases wr
        · rfl
        · exact absurd ci (by decide)
      · rw [if_neg q4]
    rw [if_pos ci, wv, if_pos rfl, pr_is g (c := 35) (v := 35) (by decide) rfl, if_neg c35, pz_bds, if_pos rfl, pr_is g (c := 15) (v := 15) (by decide) rfl, if_neg c15, pz_bds, if_pos rfl]
    have := g.no (w := 2) (by decide) (show cs.length ≤ 900 by omega)
    refine pr2.b this (fun a σ1 _ τ1 h1 => ?_)
    obtain ⟨rfl, hF, hm, c1, d1⟩ := h1
    refine pr2.lt rfl ?_
    exact pr2.d (pr_P.fl rfl hF hm c1 d1)
  · rw [if_neg ci]
    have key : ∃ c, tk_it wr (tk_cd n b st) = nI (pa_mp c) ∧ ¬ tk_wv wr (tk_cd n b st) = -1 ∧ 1000 + tk_wv wr (tk_cd n b st) = nI c ∧ (∀ T, pa_tyS wr c T = some (false :: T)) ∧ tk_cd n b st ≠ 26 := by
      unfold tk_it at ci ⊢
      unfold tk_wv
      by_cases q1 : tk_cd n b st = 19
      · rw [q1]; exact ⟨1000, by cases wr <;> decide, by cases wr <;> decide, by cases wr <;> decide, fun T => rfl, by decide⟩
      rw [if_neg q1] at ci ⊢
      by_cases q2 : tk_cd n b st = 20
      · rw [q2]; exact ⟨1001, by cases wr <;> decide, by cases wr <;> decide, by cases wr <;> decide, fun T => rfl, by decide⟩
      rw [if_neg q2] at ci ⊢
      by_cases q3 : tk_cd n b st = 8
      · rw [q3]; exact ⟨1002, by cases wr <;> decide, by cases wr <;> decide, by cases wr <;> decide, fun T => rfl, by decide⟩
      rw [if_neg q3] at ci ⊢
      by_cases q4 : tk_cd n b st = 12
      · rw [if_pos q4] at ci
        cases wr
        · exact absurd rfl ci
        · rw [q4]; exact ⟨1003, by decide, by decide, by decide, fun T => rfl, by decide⟩
      · rw [if_neg q4] at ci; exact absurd rfl ci
    obtain ⟨c, e1, e2, e3, e4, e5⟩ := key
    rw [e1, if_neg e2, pz_lt, g10, pr_wordOf g h100, pz_bds, e3]
    exact pr_item g hk e5 e4 a1
end ATOM
