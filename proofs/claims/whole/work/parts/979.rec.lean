/-! the levels of an expression -/
theorem rc5_0 {N : Nat} {σ : ps_S} : rc_X5 (N + 1) 0 σ = bX5_readSum (rc_X5 N) σ := rfl
theorem rc5_1 {N : Nat} {σ : ps_S} : rc_X5 (N + 1) 1 σ = bX5_readTerm (rc_X5 N) σ := rfl
theorem rc5_2 {N : Nat} {σ : ps_S} : rc_X5 (N + 1) 2 σ = bX5_readAtom (rc_X5 N) σ := rfl
theorem rc5_3 {N : Nat} {σ : ps_S} : rc_X5 (N + 1) 3 σ = bX5_readChoice (rc_X5 N) σ := rfl
theorem rc5_4 {N : Nat} {σ : ps_S} : rc_X5 (N + 1) 4 σ = bX5_readTruth (rc_X5 N) σ := rfl
theorem rc5_5 {N : Nat} {σ : ps_S} : rc_X5 (N + 1) 5 σ = bX5_readBoth (rc_X5 N) σ := rfl
theorem rc5_6 {N : Nat} {σ : ps_S} : rc_X5 (N + 1) 6 σ = bX5_readUnit (rc_X5 N) σ := rfl
theorem rc5_7 {N : Nat} {σ : ps_S} : rc_X5 (N + 1) 7 σ = bX5_readCompared (rc_X5 N) σ := rfl
theorem rc9_0 {N : Nat} {p : Int32} {σ : ps_S} : rc_X9 (N + 1) 0 p σ = bX9_readSum (rc_X9 N) p σ := rfl
theorem rc9_1 {N : Nat} {p : Int32} {σ : ps_S} : rc_X9 (N + 1) 1 p σ = bX9_readTerm (rc_X9 N) p σ := rfl
theorem rc9_2 {N : Nat} {p : Int32} {σ : ps_S} : rc_X9 (N + 1) 2 p σ = bX9_readAtom (rc_X9 N) p σ := rfl
theorem rc9_3 {N : Nat} {p : Int32} {σ : ps_S} : rc_X9 (N + 1) 3 p σ = bX9_readIf (rc_X9 N) p σ := rfl
theorem rc9_4 {N : Nat} {p : Int32} {σ : ps_S} : rc_X9 (N + 1) 4 p σ = bX9_readTruth (rc_X9 N) p σ := rfl
theorem rc9_5 {N : Nat} {p : Int32} {σ : ps_S} : rc_X9 (N + 1) 5 p σ = bX9_readBoth (rc_X9 N) p σ := rfl
theorem rc9_6 {N : Nat} {p : Int32} {σ : ps_S} : rc_X9 (N + 1) 6 p σ = bX9_readUnit (rc_X9 N) p σ := rfl
theorem ps_NN : ∃ N, ps_N = N + 1 := ⟨9999, by unfold ps_N; rfl⟩
theorem ps_bd_as {α β γ : Type} {o : Option (α × ps_S)} {f : α → ps_S → Option (β × ps_S)} {g : β → ps_S → Option (γ × ps_S)} : ps_bd (ps_bd o f) g = ps_bd o (fun a s => ps_bd (f a s) g) := by
  cases o <;> rfl
/-! the reference reads no more once a fault is known -/
section NOOP
variable {τ : ps_S} {rec : Nat → Int32 → ps_S → Option (Unit × ps_S)} {y p : Int32} {f N : Nat}
theorem pg_s5 (hz : ¬ τ.1 327 12 = 0) : qX9_readSum_5 rec y (f + 1) τ = some ((), τ) := by
  rw [qX9_readSum_5, pg_is0 hz, pz_bds, if_pos rfl, pg_is0 hz, pz_bds, if_pos rfl]
theorem pg_t5 (hz : ¬ τ.1 327 12 = 0) : qX9_readTerm_5 rec y (f + 1) τ = some ((), τ) := by
  rw [qX9_readTerm_5, pg_eats0 hz, pz_bds, if_pos rfl]
theorem pg_u5 (hz : ¬ τ.1 327 12 = 0) : qX9_readTruth_5 rec y (f + 1) τ = some ((), τ) := by
  rw [qX9_readTruth_5, pg_eats0 hz, pz_bds, if_pos rfl]
theorem pg_b5 (hz : ¬ τ.1 327 12 = 0) : qX9_readBoth_5 rec y (f + 1) τ = some ((), τ) := by
  rw [qX9_readBoth_5, pg_eats0 hz, pz_bds, if_pos rfl]
theorem pg_n2 (hz : ¬ τ.1 327 12 = 0) : rc_X9 (N + 1) 2 p τ = some ((), τ) := by
  rw [rc9_2]
  unfold bX9_readAtom
  rw [pg_is0 hz, pz_bds, if_pos rfl, pz_lt, if_neg hz, pg_is0 hz, pz_bds, if_pos rfl, pg_is0 hz, pz_bds, if_pos rfl, pg_fails0 hz, pz_bds]
theorem pg_n3 (hz : ¬ τ.1 327 12 = 0) : rc_X9 (N + 1) 3 p τ = some ((), τ) := by
  rw [rc9_3]
  unfold bX9_readIf
  rw [pg_in0 hz, pz_bds, if_pos rfl]
theorem pg_n1 (hz : ¬ τ.1 327 12 = 0) : rc_X9 (N + 2) 1 p τ = some ((), τ) := by
  obtain ⟨M, hM⟩ := ps_NN
  rw [rc9_1]
  unfold bX9_readTerm
  rw [pg_n2 hz, pz_bds, hM, pg_t5 hz, pz_bds]
theorem pg_n0 (hz : ¬ τ.1 327 12 = 0) : rc_X9 (N + 3) 0 p τ = some ((), τ) := by
  obtain ⟨M, hM⟩ := ps_NN
  rw [rc9_0]
  unfold bX9_readSum
  rw [pg_n1 hz, pz_bds, hM, pg_s5 hz, pz_bds]
theorem pg_n6 (hz : ¬ τ.1 327 12 = 0) : rc_X9 (N + 4) 6 p τ = some ((), τ) := by
  rw [rc9_6]
  unfold bX9_readUnit
  rw [pg_is0 hz, pz_bds, if_pos rfl, pg_is0 hz, pz_bds, if_pos rfl, pg_n0 hz, pz_bds, pg_is0 hz, pz_bds, if_pos rfl, pg_is0 hz, pz_bds, if_pos rfl, pg_is0 hz, pz_bds, if_pos rfl, pg_is0 hz, pz_bds, if_pos rfl, pg_is0 hz, pz_bds, if_pos rfl, pg_fails0 hz, pz_bds, pg_n0 hz, pz_bds, pg_codes0 hz, pz_bds]
theorem pg_n5 (hz : ¬ τ.1 327 12 = 0) : rc_X9 (N + 5) 5 p τ = some ((), τ) := by
  obtain ⟨M, hM⟩ := ps_NN
  rw [rc9_5]
  unfold bX9_readBoth
  rw [pg_n6 hz, pz_bds, hM, pg_b5 hz, pz_bds]
theorem pg_n4 (hz : ¬ τ.1 327 12 = 0) : rc_X9 (N + 6) 4 p τ = some ((), τ) := by
  obtain ⟨M, hM⟩ := ps_NN
  rw [rc9_4]
  unfold bX9_readTruth
  rw [pg_n5 hz, pz_bds, hM, pg_u5 hz, pz_bds]
end NOOP
def pr_ct (n : Nat) (b : Nat → Nat) (wr ty : Bool) (w p h Nc Ng : Nat) : Prop := ∀ (st k : Nat) (cs : List Nat) (σ τ : ps_S), pr_E n b wr p st cs σ τ → cs.length + k ≤ st → pr2 (rc_X5 Nc w σ) (rc_X9 Ng w (nI p) τ) (fun a σ' _ τ' => pr_P n b wr p st cs k σ τ ty h a σ' τ')
section LEV
variable {n : Nat} {b : Nat → Nat} {wr : Bool} {p h Nc Ng st : Nat} {cs : List Nat} {σ τ : ps_S}
theorem pr_sg (g : pr_E n b wr p st cs σ τ) {j : Nat} (hj : j < 12) {v : Int32} (hv : v = nI (tk_ch 0 j)) : qX5_isSign v σ = some (if tk_cd n b st = 30 + j then 1 else 0, σ) := by
  rw [hv]; exact pc_isS hj g.1.1
theorem pr_wd (g : pr_E n b wr p st cs σ τ) {i m : Nat} (h1 : 1 ≤ i ∧ i < 25) (hm : tk_mw i = m) : qX5_isWord i σ = some (if tk_cd n b st = m then 1 else 0, σ) := by
  rw [← hm]; exact pc_isW h1.1 h1.2 g.1.1
theorem pr_is (g : pr_E n b wr p st cs σ τ) {c : Nat} (hc : c < 100) {v : Int32} (hv : v = nI c) : qX9_is v τ = some (if tk_cd n b st = c then 1 else 0, τ) := by
  rw [hv]; exact pg_is1 hc g.1.2.1 g.1.2.2.1
theorem pr_eats1 (g : pr_E n b wr p st cs σ τ) {c : Nat} (hc : c < 100) {v : Int32} (hv : v = nI c) (e : tk_cd n b st = c) : qX9_eats v τ = ps_bd (qX9_steps τ) (fun _ s => some (1, s)) := by
  unfold qX9_eats
  rw [pr_is g hc hv, if_pos e, pz_bds, if_neg (by decide)]
theorem pr_eats0 (g : pr_E n b wr p st cs σ τ) {c : Nat} (hc : c < 100) {v : Int32} (hv : v = nI c) (e : ¬ tk_cd n b st = c) : qX9_eats v τ = some (0, τ) := by
  unfold qX9_eats
  rw [pr_is g hc hv, if_neg e, pz_bds, if_pos rfl]
theorem pr_c0 (hr : pr_ct n b wr false 1 p h Nc Ng) : pr_ct n b wr false 0 p (h + 1) (Nc + 1) (Ng + 1) := by
  intro st k cs σ τ g hk
  rw [rc5_0, rc9_0]
  unfold bX5_readSum bX9_readSum
  refine pr_bin (LC := qX5_readSum_7 (rc_X5 Nc)) (LG := qX9_readSum_5 (rc_X9 Ng) (nI p)) (rc := rc_X5 Nc 1) (rg := rc_X9 Ng 1 (nI p)) hr (fun f x1 x2 σ hh => ?_) (fun f τ hz => pg_s5 hz) (fun st cs σ τ f g e => ?_) (fun st cs σ τ f f' x2 g h9 => ?_) g hk
  · rw [qX5_readSum_7]
    by_cases c : 900 ≤ x2
    · rw [if_pos c]
    · rw [if_neg c, if_pos (hh.resolve_left c)]
  · rw [qX9_readSum_5, pr_is g (c := 32) (v := 32) (by decide) rfl, if_neg (by omega), pz_bds, if_pos rfl, pr_is g (c := 33) (v := 33) (by decide) rfl, if_neg (by omega), pz_bds, if_pos rfl]
  · have g10 := g.1.2.1.2.2.2.1
    rw [qX5_readSum_7, qX9_readSum_5, if_neg h9, if_neg (by decide), pr_sg g (j := 2) (by decide) (v := 43) (by decide), pr_is g (c := 32) (v := 32) (by decide) rfl]
    by_cases c1 : tk_cd n b st = 32
    · refine Or.inr ⟨by omega, 3000, fun T => rfl, ?_, ?_⟩
      · rw [if_pos c1, pz_bds, if_neg (by decide), pr_sg g (j := 2) (by decide) (v := 43) (by decide), if_pos c1, pz_bds, if_neg (by decide)]
        rfl
      · rw [if_pos c1, pz_bds, if_neg (by decide), pz_lt, g10, c1, if_pos (by decide)]
        rfl
    · rw [if_neg (show ¬ tk_cd n b st = 30 + 2 from c1), pz_bds, if_pos rfl, pz_bds, if_pos rfl, pr_sg g (j := 3) (by decide) (v := 45) (by decide), pr_is g (c := 33) (v := 33) (by decide) rfl]
      by_cases c2 : tk_cd n b st = 33
      · refine Or.inr ⟨by omega, 3001, fun T => rfl, ?_, ?_⟩
        · rw [if_pos c2, pz_bds, if_neg (by decide), pr_sg g (j := 2) (by decide) (v := 43) (by decide), if_neg (show ¬ tk_cd n b st = 30 + 2 from c1), pz_bds, if_pos rfl]
          rfl
        · rw [if_pos c2, pz_bds, if_neg (by decide), pz_lt, g10, c2, if_neg (by decide)]
          rfl
      · rw [if_neg (show ¬ tk_cd n b st = 30 + 3 from c2), pz_bds, if_pos rfl, pz_bds, if_pos rfl]
        exact Or.inl ⟨rfl, rfl⟩
theorem pr_c1 (hr : pr_ct n b wr false 2 p h Nc Ng) : pr_ct n b wr false 1 p (h + 1) (Nc + 1) (Ng + 1) := by
  intro st k cs σ τ g hk
  rw [rc5_1, rc9_1]
  unfold bX5_readTerm bX9_readTerm
  refine pr_bin (LC := qX5_readTerm_7 (rc_X5 Nc)) (LG := qX9_readTerm_5 (rc_X9 Ng) (nI p)) (rc := rc_X5 Nc 2) (rg := rc_X9 Ng 2 (nI p)) hr (fun f x1 x2 σ hh => ?_) (fun f τ hz => pg_t5 hz) (fun st cs σ τ f g e => ?_) (fun st cs σ τ f f' x2 g h9 => ?_) g hk
  · rw [qX5_readTerm_7]
    by_cases c : 900 ≤ x2
    · rw [if_pos c]
    · rw [if_neg c, if_pos (hh.resolve_left c)]
  · rw [qX9_readTerm_5, pr_eats0 g (c := 34) (v := 34) (by decide) rfl (by omega), pz_bds, if_pos rfl]
  · rw [qX5_readTerm_7, qX9_readTerm_5, if_neg h9, if_neg (by decide), pr_sg g (j := 4) (by decide) (v := 42) (by decide)]
    by_cases c1 : tk_cd n b st = 34
    · refine Or.inr ⟨by omega, 3002, fun T => rfl, ?_, ?_⟩
      · rw [if_pos c1, pz_bds, if_neg (by decide)]
        rfl
      · rw [pr_eats1 g (c := 34) (v := 34) (by decide) rfl c1, ps_bd_as]
        rfl
    · rw [if_neg (show ¬ tk_cd n b st = 30 + 4 from c1), pz_bds, if_pos rfl, pr_eats0 g (c := 34) (v := 34) (by decide) rfl c1, pz_bds, if_pos rfl]
      exact Or.inl ⟨rfl, rfl⟩
theorem pr_c4 (hr : pr_ct n b wr true 5 p h Nc Ng) : pr_ct n b wr true 4 p (h + 1) (Nc + 1) (Ng + 1) := by
  intro st k cs σ τ g hk
  rw [rc5_4, rc9_4]
  unfold bX5_readTruth bX9_readTruth
  refine pr_bin (LC := qX5_readTruth_7 (rc_X5 Nc)) (LG := qX9_readTruth_5 (rc_X9 Ng) (nI p)) (rc := rc_X5 Nc 5) (rg := rc_X9 Ng 5 (nI p)) hr (fun f x1 x2 σ hh => ?_) (fun f τ hz => pg_u5 hz) (fun st cs σ τ f g e => ?_) (fun st cs σ τ f f' x2 g h9 => ?_) g hk
  · rw [qX5_readTruth_7]
    by_cases c : 900 ≤ x2
    · rw [if_pos c]
    · rw [if_neg c, if_pos (hh.resolve_left c)]
  · rw [qX9_readTruth_5, pr_eats0 g (c := 22) (v := 22) (by decide) rfl (by omega), pz_bds, if_pos rfl]
  · rw [qX5_readTruth_7, qX9_readTruth_5, if_neg h9, if_neg (by decide), pr_wd g (i := 19) (m := 22) (by decide) rfl]
    by_cases c1 : tk_cd n b st = 22
    · refine Or.inr ⟨by omega, 3008, fun T => rfl, ?_, ?_⟩
      · rw [if_pos c1, pz_bds, if_neg (by decide)]
        rfl
      · rw [pr_eats1 g (c := 22) (v := 22) (by decide) rfl c1, ps_bd_as]
        rfl
    · rw [if_neg c1, pz_bds, if_pos rfl, pr_eats0 g (c := 22) (v := 22) (by decide) rfl c1, pz_bds, if_pos rfl]
      exact Or.inl ⟨rfl, rfl⟩
theorem pr_c5 (hr : pr_ct n b wr true 6 p h Nc Ng) : pr_ct n b wr true 5 p (h + 1) (Nc + 1) (Ng + 1) := by
  intro st k cs σ τ g hk
  rw [rc5_5, rc9_5]
  unfold bX5_readBoth bX9_readBoth
  refine pr_bin (LC := qX5_readBoth_7 (rc_X5 Nc)) (LG := qX9_readBoth_5 (rc_X9 Ng) (nI p)) (rc := rc_X5 Nc 6) (rg := rc_X9 Ng 6 (nI p)) hr (fun f x1 x2 σ hh => ?_) (fun f τ hz => pg_b5 hz) (fun st cs σ τ f g e => ?_) (fun st cs σ τ f f' x2 g h9 => ?_) g hk
  · rw [qX5_readBoth_7]
    by_cases c : 900 ≤ x2
    · rw [if_pos c]
    · rw [if_neg c, if_pos (hh.resolve_left c)]
  · rw [qX9_readBoth_5, pr_eats0 g (c := 21) (v := 21) (by decide) rfl (by omega), pz_bds, if_pos rfl]
  · rw [qX5_readBoth_7, qX9_readBoth_5, if_neg h9, if_neg (by decide), pr_wd g (i := 18) (m := 21) (by decide) rfl]
    by_cases c1 : tk_cd n b st = 21
    · refine Or.inr ⟨by omega, 3007, fun T => rfl, ?_, ?_⟩
      · rw [if_pos c1, pz_bds, if_neg (by decide)]
        rfl
      · rw [pr_eats1 g (c := 21) (v := 21) (by decide) rfl c1, ps_bd_as]
        rfl
    · rw [if_neg c1, pz_bds, if_pos rfl, pr_eats0 g (c := 21) (v := 21) (by decide) rfl c1, pz_bds, if_pos rfl]
      exact Or.inl ⟨rfl, rfl⟩
end LEV
