/-! the loop of lines -/
def pr_LQ (n : Nat) (b : Nat → Nat) (s0 : Nat) (a : Int32) (σ τ : ps_S) : Prop := (a = 1 ∧ ∃ st ln D F W cs, s0 ≤ st ∧ pr_B n b st cs σ τ ∧ pr_T D F W ln cs σ τ ∧ cs.length ≤ st) ∨ (a = 0 ∧ pr_F σ τ)
theorem pl_loop {n : Nat} {b : Nat → Nat} {y1 y2 : Int32} : ∀ (m i fc fg : Nat) (a : Int32) (σ τ : ps_S), i + m = 900 → m < fc → m < fg → pr_LQ n b (i + 1) a σ τ → pr2 (qX5_readText_51 y1 fc a (nI i) σ) (qX9_host_61 y2 fg τ) (fun r σ' _ τ' => pl_c σ σ' ∧ pl_g τ τ' ∧ pr_LQ n b 0 r.1 σ' τ') := by
  intro m
  induction m with
  | zero =>
    intro i fc fg a σ τ e1 e2 e3 h
    obtain ⟨fc, rfl⟩ : ∃ f, fc = f + 1 := ⟨fc - 1, by omega⟩
    obtain ⟨fg, rfl⟩ : ∃ f, fg = f + 1 := ⟨fg - 1, by omega⟩
    rw [qX5_readText_51, qX9_host_61]
    rcases h with ⟨rfl, st, ln, D, F, W, cs, s1, g, -⟩ | ⟨rfl, hF⟩
    · have := g.lt
      exact absurd this (by omega)
    · refine pr2.lt (show (900 : Int32) ≤ nI i from nI_le (a := 900) (b := i) (by omega) (by omega)) ?_
      refine pr2.rl rfl ?_
      refine pr2.re hF.nz ?_
      exact pr2.d ⟨pl_c.rf _, pl_g.rf _, Or.inr ⟨rfl, hF⟩⟩
  | succ m ih =>
    intro i fc fg a σ τ e1 e2 e3 h
    obtain ⟨fc, rfl⟩ : ∃ f, fc = f + 1 := ⟨fc - 1, by omega⟩
    obtain ⟨fg, rfl⟩ : ∃ f, fg = f + 1 := ⟨fg - 1, by omega⟩
    have h9 : ¬ (900 : Int32) ≤ nI i := nI_ge (a := i) (b := 900) (by omega) (by decide)
    rw [qX5_readText_51, qX9_host_61]
    refine pr2.le h9 ?_
    rcases h with ⟨rfl, st, ln, D, F, W, cs, s1, g, t, hk⟩ | ⟨rfl, hF⟩
    · refine pr2.le (by decide) ?_
      refine pr2.ll g.1.1.2.2.2.1 ?_
      refine pr2.rl g.1.2.2.1 ?_
      refine pr2.rt rfl ?_
      refine pr2.rl g.1.2.1.2.2.2.1 ?_
      by_cases c : tk_cd n b st = 26
      · refine pr2.lt (tk_kd0.mpr c) ?_
        refine pr2.rt (by rw [c]; rfl) ?_
        exact pr2.d ⟨pl_c.rf _, pl_g.rf _, Or.inl ⟨rfl, st, ln, D, F, W, cs, Nat.zero_le _, g, t, hk⟩⟩
      · have h100 := tk_cd100 (st := st) g.1.1.1.1.2
        refine pr2.le (fun hh => c (tk_kd0.mp hh)) ?_
        refine pr2.re (show ¬ nI (tk_cd n b st) = 26 from pc_lit (k := 26) (by omega) (by decide) c) ?_
        have hAs : ps_bd (qX9_readLine τ) (fun _ s => ps_bd (qX9_closes s) (fun _ s2 => qX9_host_61 y2 fg s2)) = ps_bd (ps_bd (qX9_readLine τ) (fun _ s => qX9_closes s)) (fun _ s2 => qX9_host_61 y2 fg s2) := ps_bd_as.symm
        rw [hAs]
        refine pr2.b (pl_line g t hk c) (fun a σ1 _ τ1 q => ?_)
        obtain ⟨c1, d1, q⟩ := q
        rw [pz_lt, nI_1]
        refine (ih (i + 1) fc fg a σ1 τ1 (by omega) (by omega) (by omega) ?_).im (fun r σ2 _ τ2 hh => ⟨c1.tr hh.1, d1.tr hh.2.1, hh.2.2⟩)
        rcases q with ⟨rfl, st1, D1, F1, W1, cs1, s2, q1, q2, q3⟩ | q
        · exact Or.inl ⟨rfl, st1, ln + 1, D1, F1, W1, cs1, by omega, q1, q2, q3⟩
        · exact Or.inr q
    · refine pr2.lt rfl ?_
      refine pr2.rl rfl ?_
      refine pr2.re hF.nz ?_
      exact pr2.d ⟨pl_c.rf _, pl_g.rf _, Or.inr ⟨rfl, hF⟩⟩
/-! a text read -/
theorem ps_ok.o {α : Type} {o : Option (α × ps_S)} {P : α → ps_S → Prop} (h : ps_ok o P) : ∃ a s, o = some (a, s) ∧ P a s := by
  obtain ⟨x, e, p⟩ := h
  exact ⟨x.1, x.2, e, p⟩
theorem pz_nm {α β : Type} {P : β → ps_S → Prop} {a : α} {f : α → Option (β × ps_S)} (h : ∀ w, w = a → ps_ok (f w) P) : ps_ok (ps_let a f) P := h a rfl
def pg_text (p1 : Int32) (τ : ps_S) : Option (Unit × ps_S) := ps_bd (qX9_plain 332 1850 τ) (fun _ s1 => ps_bd (qX9_steps s1) (fun _ s2 => ps_bd (qX9_readHost s2) (fun _ s3 => ps_bd (qX9_closes s3) (fun _ s4 => qX9_host_61 p1 ps_N s4))))
section TEXT
variable {n : Nat} {b : Nat → Nat} {σ τ : ps_S} {p1 : Int32}
theorem pc_clear : ps_ok (qX2_clear 2 σ) (fun _ τ => (τ.1 2 7 = 0 ∧ τ.1 2 8 = 0 ∧ τ.1 2 9 = 0) ∧ (∀ d, d < 4 → τ.1 4 d = 0) ∧ (∀ j, 1 ≤ j → j < 6 → τ.1 9 j = 0) ∧ (∀ k, k ≠ 2 → k ≠ 4 → k ≠ 9 → τ.1 k = σ.1 k) ∧ τ.2 = σ.2) := by
  unfold qX2_clear qX3_clear
  have e2 : (2 + 2 : Nat) = 4 := rfl
  have e7 : (2 + 7 : Nat) = 9 := rfl
  rw [e2, e7]
  refine pz_nm (fun s1 h1 => ?_)
  refine pz_nm (fun s2 h2 => ?_)
  refine pz_nm (fun s3 h3 => ?_)
  refine pz_nm (fun s4 h4 => ?_)
  rw [pz_fi (by decide), pz_bds]
  have a7 : s4.1 2 7 = 0 := by rw [h4, ps_rI_at, upd_ne _ _ (by decide), h3, ps_rI_at, upd_ne _ _ (by decide), h2, ps_rI_at, upd_ne _ _ (by decide), h1, ps_rI_at, upd_self]
  have a8 : s4.1 2 8 = 0 := by rw [h4, ps_rI_at, upd_ne _ _ (by decide), h3, ps_rI_at, upd_ne _ _ (by decide), h2, ps_rI_at, upd_self]
  have a9 : s4.1 2 9 = 0 := by rw [h4, ps_rI_at, upd_ne _ _ (by decide), h3, ps_rI_at, upd_self]
  have ak : ∀ k, k ≠ 2 → s4.1 k = σ.1 k := fun k hk => by rw [h4, ps_rI_ne _ _ hk, h3, ps_rI_ne _ _ hk, h2, ps_rI_ne _ _ hk, h1, ps_rI_ne _ _ hk]
  have aq : s4.2 = σ.2 := by rw [h4, ps_rI_2, h3, ps_rI_2, h2, ps_rI_2, h1, ps_rI_2]
  have b4 : ∀ d, d < 4 → (ps_rI s4 4 (fun j => if j < 4 then 0 else s4.1 4 j)).1 4 d = 0 := fun d hd => by
    rw [ps_rI_at]
    exact if_pos hd
  have bk : ∀ k, k ≠ 4 → (ps_rI s4 4 (fun j => if j < 4 then 0 else s4.1 4 j)).1 k = s4.1 k := fun k hk => ps_rI_ne _ _ hk
  have bq : (ps_rI s4 4 (fun j => if j < 4 then 0 else s4.1 4 j)).2 = s4.2 := rfl
  generalize ps_rI s4 4 (fun j => if j < 4 then 0 else s4.1 4 j) = s5 at b4 bk bq ⊢
  refine pz_bd (Q := fun _ τ => (∀ j, 1 ≤ j → j < 6 → τ.1 9 j = 0) ∧ (∀ k, k ≠ 9 → τ.1 k = s5.1 k) ∧ τ.2 = s5.2) ?_ (fun _ τ h => pz_done ⟨⟨?_, ?_, ?_⟩, fun d hd => ?_, h.1, fun k k2 k4 k9 => ?_, ?_⟩)
  · refine pz_nm (fun u1 g1 => ?_)
    refine pz_nm (fun u2 g2 => ?_)
    refine pz_nm (fun u3 g3 => ?_)
    refine pz_nm (fun u4 g4 => ?_)
    refine pz_nm (fun u5 g5 => ?_)
    refine pz_done ⟨fun j j1 j2 => ?_, fun k hk => ?_, ?_⟩
    · have : j = 1 ∨ j = 2 ∨ j = 3 ∨ j = 4 ∨ j = 5 := by omega
      rcases this with rfl | rfl | rfl | rfl | rfl
      · rw [g5, ps_rI_at, upd_ne _ _ (by decide), g4, ps_rI_at, upd_ne _ _ (by decide), g3, ps_rI_at, upd_ne _ _ (by decide), g2, ps_rI_at, upd_ne _ _ (by decide), g1, ps_rI_at, upd_self]
      · rw [g5, ps_rI_at, upd_ne _ _ (by decide), g4, ps_rI_at, upd_ne _ _ (by decide), g3, ps_rI_at, upd_ne _ _ (by decide), g2, ps_rI_at, upd_self]
      · rw [g5, ps_rI_at, upd_ne _ _ (by decide), g4, ps_rI_at, upd_ne _ _ (by decide), g3, ps_rI_at, upd_self]
      · rw [g5, ps_rI_at, upd_ne _ _ (by decide), g4, ps_rI_at, upd_self]
      · rw [g5, ps_rI_at, upd_self]
    · rw [g5, ps_rI_ne _ _ hk, g4, ps_rI_ne _ _ hk, g3, ps_rI_ne _ _ hk, g2, ps_rI_ne _ _ hk, g1, ps_rI_ne _ _ hk]
    · rw [g5, ps_rI_2, g4, ps_rI_2, g3, ps_rI_2, g2, ps_rI_2, g1, ps_rI_2]
  · rw [h.2.1 2 (by decide), bk 2 (by decide)]; exact a7
  · rw [h.2.1 2 (by decide), bk 2 (by decide)]; exact a8
  · rw [h.2.1 2 (by decide), bk 2 (by decide)]; exact a9
  · rw [h.2.1 4 (by decide)]; exact b4 d hd
  · rw [h.2.1 k k9, bk k k4, ak k k2]
  · rw [h.2.2, bq, aq]
theorem pc_text0 (hn : n ≤ 900) : ∃ s, (qX5_readText (nI n) σ = ps_bd (qX2_clear 2 s) (fun _ s8 => ps_bd (qX5_advance s8) (fun _ s10 => ps_bd (qX5_readHead s10) (fun v s12 => ps_bd (qX5_readText_51 (nI n) ps_N v 0 s12) (fun res s20 => if ps_b01 res.1 = true then some (res.1, s20) else none))))) ∧ (s.1 11 4 = nI n ∧ s.1 11 0 = 0 ∧ s.1 11 1 = -1 ∧ s.1 11 7 = nI 0 ∧ s.1 11 10 = nI 0) ∧ (∀ k, k ≠ 11 → s.1 k = σ.1 k) ∧ s.2 = σ.2 := by
  have h9 : ¬ (900 : Int32) < nI n := nI_nlt (a := 900) (b := n) hn (by decide)
  refine ⟨ps_rI σ 11 (upd (upd (upd (upd (upd (σ.1 11) 4 (nI n)) 0 0) 1 (-1)) 7 0) 10 0), ?_, ⟨?_, ?_, ?_, ?_, ?_⟩, fun k hk => ps_rI_ne _ _ hk, rfl⟩
  · unfold qX5_readText
    rw [pz_lt, if_neg h9, pz_lt, pz_lt, ps_rI_2', ps_rI_at, pz_lt, ps_rI_2', ps_rI_at, pz_lt, ps_rI_2', ps_rI_at, pz_lt, ps_rI_2', ps_rI_at]
  · rw [ps_rI_at, upd_ne _ _ (by decide), upd_ne _ _ (by decide), upd_ne _ _ (by decide), upd_ne _ _ (by decide), upd_self]
  · rw [ps_rI_at, upd_ne _ _ (by decide), upd_ne _ _ (by decide), upd_ne _ _ (by decide), upd_self]
  · rw [ps_rI_at, upd_ne _ _ (by decide), upd_ne _ _ (by decide), upd_self]
  · rw [ps_rI_at, upd_ne _ _ (by decide), upd_self]; rfl
  · rw [ps_rI_at, upd_self]; rfl
theorem pl_text (hn : n ≤ 900) (hb : ∀ j, j < n → b j < 256) (h1 : ∀ j, j < n → σ.1 1 j = pa_sb (b j)) (t1 : pg_tx n b τ) (t8 : τ.1 327 8 = 0) (t12 : τ.1 327 12 = 0) : pr2 (qX5_readText (nI n) σ) (pg_text p1 τ) (fun a σ' _ τ' => ((∀ k, k < 2 ∨ 12 ≤ k → σ'.1 k = σ.1 k) ∧ σ'.2 = σ.2) ∧ pl_g τ τ' ∧ pr_LQ n b 0 a σ' τ') := by
  obtain ⟨s, es, ⟨a4, a0, a1, a7, a10⟩, fk, f2⟩ := pc_text0 (σ := σ) hn
  obtain ⟨u, s8, ex, ⟨y7, y8, y9⟩, y4, z9, yk, yq⟩ := (pc_clear (σ := s)).o
  obtain ⟨u2, t2, et, f, ef, hf⟩ := (pg_plain (k := 332) (n := 1850) (σ := τ) (by decide) (by decide)).o
  have q1 : t2.1 332 = f := by rw [ef, ps_rI_at]
  have qk : ∀ k, k ≠ 332 → t2.1 k = τ.1 k := fun k hk => by rw [ef, ps_rI_ne _ _ hk]
  have qq : t2.2 = τ.2 := by rw [ef, ps_rI_2]
  have T1 : pc_tx n b s8 := ⟨⟨hn, hb⟩, by rw [yk 11 (by decide) (by decide) (by decide)]; exact a4, fun j hj => by rw [yk 1 (by decide) (by decide) (by decide), fk 1 (by decide)]; exact h1 j hj⟩
  have T2 : pg_tx n b t2 := ⟨⟨hn, hb⟩, by rw [qk 327 (by decide)]; exact t1.2.1, fun j hj => by rw [qk 331 (by decide)]; exact t1.2.2 j hj⟩
  obtain ⟨u3, s10, ea, K1, fa⟩ := (pc_adv (s := 0) T1 (by rw [yk 11 (by decide) (by decide) (by decide)]; exact a7) (Nat.zero_le _)).o
  obtain ⟨u4, t3, eb, K2, fg⟩ := (pg_step (s := 0) T2 (by rw [qk 327 (by decide)]; exact t8) (Nat.zero_le _)).o
  have g : pr_B n b (tk_st n b 0) [] s10 t3 := by
    refine ⟨⟨K1, K2, ?_, ?_, ?_⟩, ⟨?_, ?_, fun j hj => absurd hj (Nat.not_lt_zero _)⟩, ?_⟩
    · rw [fg.2.1 12 (by decide) (by decide) (by decide) (by decide), qk 327 (by decide)]; exact t12
    · rw [fa.2.1 0 (by omega), yk 11 (by decide) (by decide) (by decide)]; exact a0
    · rw [fa.2.1 1 (by omega), yk 11 (by decide) (by decide) (by decide)]; exact a1
    · rw [fa.1 9 (by decide)]; exact z9 1 (by decide) (by decide)
    · rw [fg.1 332 (by decide), q1, hf 949 (by decide), pg_pl0 (by omega)]; rfl
    · rw [fa.2.1 10 (by omega), yk 11 (by decide) (by decide) (by decide)]; exact a10
  have z : pr_Z 0 (fun _ => 0) s10 t3 := by
    refine ⟨by decide, ⟨?_, ?_, ?_⟩, fun d hd => ?_, ⟨?_, ?_⟩, fun k k1 k2 => ?_, fun i hi => absurd hi (Nat.not_lt_zero _)⟩
    · rw [fa.1 2 (by decide)]; exact y7
    · rw [fa.1 2 (by decide)]; exact y8
    · rw [fa.1 2 (by decide)]; exact y9
    · rw [fa.1 4 (by decide)]; exact y4 d hd
    · rw [fa.1 9 (by decide), z9 2 (by decide) (by decide), z9 3 (by decide) (by decide)]
    · rw [fa.1 9 (by decide), z9 4 (by decide) (by decide), z9 5 (by decide) (by decide)]
    · rw [fg.1 332 (by decide), q1, hf k (by omega), pg_pl0 (by omega)]
  have dg : pl_g τ t3 := pl_g.tr ⟨fun k k1 k2 => qk k k2, fun j hj => by rw [qk 327 (by decide)], qq⟩ fg.e.l
  unfold pg_text
  have hAs : ps_bd (qX9_readHost t3) (fun _ s3 => ps_bd (qX9_closes s3) (fun _ s4 => qX9_host_61 p1 ps_N s4)) = ps_bd (ps_bd (qX9_readHost t3) (fun _ s => qX9_closes s)) (fun _ s4 => qX9_host_61 p1 ps_N s4) := ps_bd_as.symm
  rw [es, ex, pz_bds, ea, pz_bds, et, pz_bds, eb, pz_bds, hAs]
  refine pr2.b (pl_head g z) (fun a σ1 _ τ1 q => ?_)
  obtain ⟨c1, d1, q⟩ := q
  have lq : pr_LQ n b (0 + 1) a σ1 τ1 := by
    rcases q with ⟨rfl, st1, D1, F1, W1, cs1, s2, q1, q2, q3⟩ | q
    · exact Or.inl ⟨rfl, st1, 1, D1, F1, W1, cs1, by omega, q1, q2, q3⟩
    · exact Or.inr q
  obtain ⟨r, σ2, v, τ2, e1, e2, c2, d2, lq2⟩ := pl_loop (y1 := nI n) (y2 := p1) 900 0 ps_N ps_N a σ1 τ1 (by decide) (by unfold ps_N; decide) (by unfold ps_N; decide) lq
  replace e1 : qX5_readText_51 (nI n) ps_N a 0 σ1 = some (r, σ2) := e1
  rw [e1, e2, pz_bds]
  have hb1 : ps_b01 r.1 = true := by
    rcases lq2 with ⟨h, -⟩ | ⟨h, -⟩
    · rw [h]; rfl
    · rw [h]; rfl
  refine pr2.lt hb1 (pr2.d ⟨⟨fun k hk => ?_, ?_⟩, dg.tr (d1.tr d2), lq2⟩)
  · rw [c2.1 k hk, c1.1 k hk, fa.1 k (by omega), yk k (by omega) (by omega) (by omega), fk k (by omega)]
  · rw [c2.2.2, c1.2.2, fa.2.2]
    show s8.2 = σ.2
    rw [yq, f2]
theorem pl_both (hn : n ≤ 900) (hb : ∀ j, j < n → b j < 256) (h1 : ∀ j, j < n → σ.1 1 j = pa_sb (b j)) (t1 : pg_tx n b τ) (t8 : τ.1 327 8 = 0) (t12 : τ.1 327 12 = 0) : ∃ a σ6, qX5_readText (nI n) σ = some (a, σ6) ∧ ((∀ k, k < 2 ∨ 12 ≤ k → σ6.1 k = σ.1 k) ∧ σ6.2 = σ.2) ∧ ∀ (p1 : Int32) (τ : ps_S), pg_tx n b τ → τ.1 327 8 = 0 → τ.1 327 12 = 0 → ∃ u τ', pg_text p1 τ = some (u, τ') ∧ pl_g τ τ' ∧ pr_LQ n b 0 a σ6 τ' := by
  obtain ⟨a, σ6, _, _, e1, _, fr, _, _⟩ := pl_text (p1 := 0) hn hb h1 t1 t8 t12
  refine ⟨a, σ6, e1, fr, fun p τ k1 k8 k12 => ?_⟩
  obtain ⟨a', σ6', u, τ', e1', e2, _, d, l⟩ := pl_text (p1 := p) hn hb h1 k1 k8 k12
  rw [e1] at e1'
  injection e1' with e1'
  injection e1' with x1 x2
  subst x1 x2
  exact ⟨u, τ', e2, d, l⟩
end TEXT
