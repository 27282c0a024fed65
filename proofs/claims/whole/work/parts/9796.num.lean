/-! numbers taken -/
theorem pb_as {o : Option (Int32 × ps_S)} {N : ps_S → Option (Int32 × ps_S)} {K : ps_S → Option (Int32 × ps_S)} : ps_bd o (fun v s => if v = 0 then some (0, s) else ps_bd (N s) (fun w s2 => if w = 0 then some (0, s2) else K s2)) = ps_bd (ps_bd o (fun v s => if v = 0 then some (0, s) else N s)) (fun w s2 => if w = 0 then some (0, s2) else K s2) := by
  cases o with
  | none => rfl
  | some x =>
    obtain ⟨v, s⟩ := x
    rw [pz_bds, pz_bds]
    by_cases c : v = 0
    · rw [if_pos c, if_pos c, pz_bds, if_pos rfl]
    · rw [if_neg c, if_neg c]
def pb_Q (n : Nat) (b : Nat → Nat) (st : Nat) (cs : List Nat) (lo hi : Int32) (σ τ : ps_S) (a : Int32) (σ' : ps_S) (v : Int32) (τ' : ps_S) : Prop := pe_c σ σ' ∧ pe_g τ τ' ∧ ((a = 1 ∧ ∃ st' val, st + 1 ≤ st' ∧ pr_B n b st' cs σ' τ' ∧ v = nI val ∧ σ'.1 11 9 = nI val ∧ val < 1000 ∧ ¬ nI val < lo ∧ ¬ hi < nI val) ∨ (a = 0 ∧ pr_F σ' τ' ∧ ∃ m, m ≤ 900 ∧ σ'.1 9 1 = nI m))
section NUM
variable {n : Nat} {b : Nat → Nat} {st k : Nat} {cs : List Nat} {σ τ : ps_S} {lo hi : Int32}
theorem pr_B.tk (g : pr_B n b st cs σ τ) (v : Int32) : pr_B n b st cs (ps_rI σ 11 (upd (σ.1 11) 9 v)) τ ∧ pe_c σ (ps_rI σ 11 (upd (σ.1 11) 9 v)) := by
  obtain ⟨⟨⟨⟨t1, t2, t3⟩, k6, k7, k5, k8, kn⟩, r2, r3, r4, r5⟩, c1, h10⟩ := g
  have e : ∀ j, j ≠ 9 → (ps_rI σ 11 (upd (σ.1 11) 9 v)).1 11 j = σ.1 11 j := fun j hj => by rw [ps_rI_at, upd_ne _ _ hj]
  have e2 : ∀ j, j ≠ 11 → (ps_rI σ 11 (upd (σ.1 11) 9 v)).1 j = σ.1 j := fun j hj => ps_rI_ne _ _ hj
  refine ⟨⟨⟨⟨⟨t1, ?_, ?_⟩, ?_, ?_, ?_, fun hh => ?_, kn⟩, r2, r3, ?_, ?_⟩, c1.congr ?_ ?_ rfl, ?_⟩, fun j _ _ hj => e2 j hj, fun j _ => by rw [e2 9 (by decide)], fun j hj => e j (by omega), rfl⟩
  · rw [e 4 (by decide)]; exact t2
  · rw [e2 1 (by decide)]; exact t3
  · rw [e 6 (by decide)]; exact k6
  · rw [e 7 (by decide)]; exact k7
  · rw [e 5 (by decide)]; exact k5
  · rw [e 8 (by decide)]; exact k8 hh
  · rw [e 0 (by decide)]; exact r4
  · rw [e 1 (by decide)]; exact r5
  · rw [e2 9 (by decide)]
  · rw [e2 10 (by decide)]
  · rw [e 10 (by decide)]; exact h10
theorem pb_num (g : pr_B n b st cs σ τ) (hl : cs.length ≤ 900) : pr2 (qX5_takeNumber lo hi σ) (qX9_takes lo hi τ) (fun a σ' v τ' => pb_Q n b st cs lo hi σ τ a σ' v τ') := by
  unfold qX5_takeNumber qX9_takes
  refine pr2.ll g.1.1.2.2.2.1 ?_
  rw [pb_is g (c := 25) (v := 25) (by decide) rfl]
  have gz := g.1.2.2.1
  by_cases c25 : tk_cd n b st = 25
  · rw [if_pos c25, pz_bds]
    refine pr2.lt (tk_kd2.mpr c25) ?_
    refine pr2.re (by decide) ?_
    have e8 := g.1.1.2.2.2.2.1 c25
    have e11 := g.1.2.1.2.2.2.2.1 c25
    have hv := tk_cd_25 c25
    generalize tk_val b st (tk_sp n b st - st) = val at e8 e11 hv
    have bad : (nI val < lo ∨ hi < nI val) → pr2 (ps_bd (qX5_refuse 3 σ) (fun v5 σ6 => if ps_b01 v5 = true then some (v5, σ6) else none)) (ps_bd (qX9_fails 3 τ) (fun _ σ14 => ps_let (σ14.1 327 11) fun v15 => ps_let (σ14.1 327 12) fun v16 => if v16 = 0 then ps_bd (qX9_steps σ14) (fun _ σ19 => some (v15, σ19)) else some (v15, σ14))) (fun a σ' v τ' => pb_Q n b st cs lo hi σ τ a σ' v τ') := fun _ => by
      have := g.no (w := 3) (by decide) hl
      refine pr2.b this (fun a σ1 _ τ1 h1 => ?_)
      obtain ⟨rfl, hF, hm, c1, d1⟩ := h1
      refine pr2.lt rfl ?_
      rw [pz_lt, pz_lt, if_neg hF.nz]
      exact pr2.d ⟨c1, d1, Or.inr ⟨rfl, hF, hm⟩⟩
    refine pr2.ll e8 ?_
    refine pr2.rl e11 ?_
    by_cases c1 : nI val < lo
    · refine pr2.lt c1 ?_
      rw [pg_i0 rfl rfl (Or.inl c1), pz_bds]
      refine pr2.rt rfl ?_
      exact bad (Or.inl c1)
    refine pr2.le c1 ?_
    refine pr2.ll e8 ?_
    by_cases c2 : hi < nI val
    · refine pr2.le (Int32.not_le.mpr c2) ?_
      rw [pg_i0 rfl rfl (Or.inr c2), pz_bds]
      refine pr2.rt rfl ?_
      exact bad (Or.inr c2)
    refine pr2.lt (Int32.not_lt.mp c2) ?_
    rw [pg_i1 rfl rfl c1 c2, pz_bds]
    refine pr2.re (by decide) ?_
    refine pr2.ll e8 ?_
    rw [pz_lt]
    refine pr2.rl e11 ?_
    refine pr2.rl gz ?_
    refine pr2.rt rfl ?_
    obtain ⟨g1, c3⟩ := g.tk (nI val)
    have e9 : (ps_rI σ 11 (upd (σ.1 11) 9 (nI val))).1 11 9 = nI val := by rw [ps_rI_at, upd_self]
    generalize ps_rI σ 11 (upd (σ.1 11) 9 (nI val)) = σ1 at g1 c3 e9 ⊢
    refine pr2.b (pr_adv g1.1) (fun _ σ2 _ τ2 h2 => ?_)
    obtain ⟨r2, fa, fg⟩ := h2
    refine pr2.d ⟨c3.tr fa.e, fg.e, Or.inl ⟨rfl, _, val, tk_adv_gt (tk_cd_n (b := b) (by rw [c25]; decide)), ⟨r2, g1.2.1.congr ?_ ?_ ?_, ?_⟩, rfl, ?_, hv, c1, c2⟩⟩
    · rw [fa.1 9 (by decide)]
    · rw [fa.1 10 (by decide)]
    · rw [fg.1 332 (by decide)]
    · rw [fa.2.1 10 (by omega)]; exact g1.2.2
    · rw [fa.2.1 9 (by omega)]; exact e9
  · rw [if_neg c25, pz_bds]
    refine pr2.le (fun hh => c25 (tk_kd2.mp hh)) ?_
    refine pr2.rt rfl ?_
    have := g.no (w := 2) (by decide) hl
    refine pr2.b this (fun a σ1 _ τ1 h1 => ?_)
    obtain ⟨rfl, hF, hm, c1, d1⟩ := h1
    refine pr2.lt rfl ?_
    rw [pz_lt, pz_lt, if_neg hF.nz]
    exact pr2.d ⟨c1, d1, Or.inr ⟨rfl, hF, hm⟩⟩
theorem pg_takes0 (hz : ¬ τ.1 327 12 = 0) : ∃ v, qX9_takes lo hi τ = some (v, τ) := by
  unfold qX9_takes
  rw [pg_is0 hz, pz_bds, if_pos rfl, pg_fails0 hz, pz_bds, pz_lt, pz_lt, if_neg hz]
  exact ⟨_, rfl⟩
/-- a word, then a number -/
theorem pb_named {i m : Nat} {v : Int32} (g : pr_B n b st cs σ τ) (hl : cs.length ≤ 900) (h1 : 1 ≤ i ∧ i < 25) (hm : tk_mw i = m) (hm2 : m < 24) (hv : v = nI m) : pr2 (ps_bd (qX5_takeWord i σ) (fun w s => if w = 0 then some (0, s) else qX5_takeNumber lo hi s)) (qX9_named v lo hi τ) (fun a σ' v τ' => pb_Q n b st cs lo hi σ τ a σ' v τ') := by
  unfold qX9_named
  refine pb_take g (c := m) (by omega) (by omega) hv hl (fun e => pb_tw1 g h1 hm e) (fun e => pb_tw0 g h1 hm e) (fun st' σ' τ' s1 g1 c1 d1 => ?_) (fun σ' τ' hF hm c1 d1 => ?_)
  · refine pr2.le (by decide) ?_
    obtain ⟨a, σ2, w, τ2, e1, e2, q1, q2, q⟩ := pb_num (lo := lo) (hi := hi) g1 hl
    rw [e1, e2, pz_bds]
    refine pr2.d ⟨c1.tr q1, d1.tr q2, ?_⟩
    rcases q with ⟨rfl, st2, val, s2, q⟩ | q
    · exact Or.inl ⟨rfl, st2, val, by omega, q⟩
    · exact Or.inr q
  · refine pr2.lt rfl ?_
    obtain ⟨w, ew⟩ := pg_takes0 (lo := lo) (hi := hi) hF.nz
    rw [ew, pz_bds]
    exact pr2.d ⟨c1, d1, Or.inr ⟨rfl, hF, hm⟩⟩
end NUM
