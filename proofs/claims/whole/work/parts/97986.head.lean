/-! the head read -/
def pl_ok (i v0 v : Nat) : Prop := (i ≠ 1 → 1 ≤ v ∧ v ≤ 999) ∧ (i = 1 → v < v0) ∧ (5 ≤ i → v ≤ 99)
def pr_Z (j : Nat) (vs : Nat → Nat) (σ τ : ps_S) : Prop := j ≤ 7 ∧ (σ.1 2 7 = nI 0 ∧ σ.1 2 8 = nI 0 ∧ σ.1 2 9 = nI 0) ∧ (∀ d, d < 4 → σ.1 4 d = 0) ∧ (σ.1 9 2 = σ.1 9 3 ∧ σ.1 9 4 = σ.1 9 5) ∧ (∀ k, k < 949 → ¬ (10 ≤ k ∧ k < 17) → τ.1 332 k = 0) ∧ (∀ i, i < j → σ.1 2 i = nI (vs i) ∧ τ.1 332 (10 + i) = nI (vs i) ∧ pl_ok i (vs 0) (vs i))
theorem ps_bd_ite {α β : Type} {o : Option (Int32 × ps_S)} {f : ps_S → Option (Unit × ps_S)} {X Y : ps_S → Option (α × ps_S)} {K : α → ps_S → Option (β × ps_S)} : ps_bd (ps_bd o (fun v s => if v = 0 then ps_bd (f s) (fun _ s' => X s') else Y s)) K = ps_bd o (fun v s => if v = 0 then ps_bd (f s) (fun _ s' => ps_bd (X s') K) else ps_bd (Y s) K) := by
  cases o with
  | none => rfl
  | some x =>
    show ps_bd (if x.1 = 0 then ps_bd (f x.2) (fun _ s' => X s') else Y x.2) K = (if x.1 = 0 then ps_bd (f x.2) (fun _ s' => ps_bd (X s') K) else ps_bd (Y x.2) K)
    by_cases e : x.1 = 0
    · rw [if_pos e, if_pos e, ps_bd_as]
    · rw [if_neg e, if_neg e]
def pg_hk (f j : Nat) (lo hi : Int32) (τ : ps_S) : Option (Int32 × ps_S) := ps_bd (qX9_named (nI (1 + j)) lo hi τ) (fun v s => if s.1 327 12 = 0 then qX9_readHost_15 f (nI (j + 1)) (ps_rI s 332 (upd (s.1 332) (10 + j) v)) else qX9_readHost_15 f (nI (j + 1)) s)
section HEAD
variable {n : Nat} {b : Nat → Nat} {st j f : Nat} {vs : Nat → Nat} {σ τ σ' τ' : ps_S} {lo hi : Int32}
theorem pr_Z.pe (h : pr_Z j vs σ τ) (hc : pe_c σ σ') (hg : pe_g τ τ') : pr_Z j vs σ' τ' := by
  obtain ⟨j7, ⟨a1, a2, a3⟩, b0, c0, d0, e0⟩ := h
  have k2 := hc.1 2 (by decide) (by decide) (by decide)
  have k4 := hc.1 4 (by decide) (by decide) (by decide)
  refine ⟨j7, ⟨by rw [k2]; exact a1, by rw [k2]; exact a2, by rw [k2]; exact a3⟩, fun d hd => by rw [k4]; exact b0 d hd, ⟨?_, ?_⟩, fun k k1 k3 => by rw [hg.2.2.1 k k1]; exact d0 k k1 k3, fun i hi => ?_⟩
  · rw [hc.2.1 2 (by decide), hc.2.1 3 (by decide)]; exact c0.1
  · rw [hc.2.1 4 (by decide), hc.2.1 5 (by decide)]; exact c0.2
  · rw [k2, hg.2.2.1 _ (by omega)]; exact e0 i hi
theorem pr_Z.put {v : Nat} (h : pr_Z j vs σ τ) (hj : j < 7) (hv : pl_ok j (vs 0) v) : pr_Z (j + 1) (fun i => if i = j then v else vs i) (ps_rI σ 2 (upd (σ.1 2) j (nI v))) (ps_rI τ 332 (upd (τ.1 332) (10 + j) (nI v))) := by
  obtain ⟨j7, ⟨a1, a2, a3⟩, b0, c0, d0, e0⟩ := h
  refine ⟨by omega, ⟨?_, ?_, ?_⟩, fun d hd => ?_, ⟨?_, ?_⟩, fun k k1 k3 => ?_, fun i hi => ?_⟩
  · rw [ps_rI_at, upd_ne _ _ (by omega)]; exact a1
  · rw [ps_rI_at, upd_ne _ _ (by omega)]; exact a2
  · rw [ps_rI_at, upd_ne _ _ (by omega)]; exact a3
  · rw [ps_rI_ne _ _ (by decide)]; exact b0 d hd
  · rw [ps_rI_ne _ _ (by decide)]; exact c0.1
  · rw [ps_rI_ne _ _ (by decide)]; exact c0.2
  · rw [ps_rI_at, upd_ne _ _ (by omega)]; exact d0 k k1 k3
  · rw [ps_rI_at, ps_rI_at]
    show upd (σ.1 2) j (nI v) i = nI (if i = j then v else vs i) ∧ upd (τ.1 332) (10 + j) (nI v) (10 + i) = nI (if i = j then v else vs i) ∧ pl_ok i (if 0 = j then v else vs 0) (if i = j then v else vs i)
    have h1 : i = 1 → (if 0 = j then v else vs 0) = vs 0 := fun q => if_neg (by omega)
    by_cases e : i = j
    · rw [if_pos e]
      subst e
      rw [upd_self, upd_self]
      exact ⟨rfl, rfl, hv.1, fun q => by rw [h1 q]; exact hv.2.1 q, hv.2.2⟩
    · rw [if_neg e, upd_ne _ _ e, upd_ne _ _ (by omega)]
      obtain ⟨x1, x2, x3⟩ := e0 i (by omega)
      exact ⟨x1, x2, x3.1, fun q => by rw [h1 q]; exact x3.2.1 q, x3.2.2⟩
theorem pr_Z.T (z : pr_Z 7 vs σ τ) (h2 : ∀ j, j ≠ 10 → σ'.1 2 j = σ.1 2 j) (h10 : σ'.1 2 10 = nI 1) (h4 : σ'.1 4 = σ.1 4) (h9 : ∀ j, j ≠ 1 → σ'.1 9 j = σ.1 9 j) (hg : ∀ j, 1 ≤ j → j < 949 → τ'.1 332 j = τ.1 332 j) (h0 : τ'.1 332 0 = nI 1) : pr_T 0 0 0 1 [] σ' τ' := by
  obtain ⟨_, ⟨a1, a2, a3⟩, b0, c0, d0, e0⟩ := z
  have dz : ∀ k, 1 ≤ k → k < 949 → ¬ (10 ≤ k ∧ k < 17) → τ'.1 332 k = 0 := fun k k1 k2 k3 => by rw [hg k k1 k2]; exact d0 k k2 k3
  have k : ∀ i, i < 7 → σ'.1 2 i = nI (vs i) ∧ τ'.1 332 (10 + i) = nI (vs i) ∧ pl_ok i (vs 0) (vs i) := fun i hi => by rw [h2 i (by omega), hg _ (by omega) (by omega)]; exact e0 i hi
  refine ⟨⟨⟨by rw [h2 7 (by decide)]; exact a1, dz 1 (by decide) (by decide) (by decide), by decide⟩, ⟨by rw [h2 8 (by decide)]; exact a2, dz 2 (by decide) (by decide) (by decide), by decide⟩, ⟨by rw [h2 9 (by decide)]; exact a3, dz 3 (by decide) (by decide) (by decide), by decide⟩⟩, ⟨fun d hd => absurd hd (Nat.not_lt_zero _), fun d hd => absurd hd (Nat.not_lt_zero _), fun d hd => absurd hd (Nat.not_lt_zero _), fun d hd => absurd hd (Nat.not_lt_zero _), fun d hd => ?_⟩, ?_, fun k k1 k2 _ _ => dz k (by omega) k2 (by omega), fun k hk => Or.inl ⟨dz (4 + k) (by omega) (by omega) (by omega), ?_⟩, h10, h0⟩
  · rw [h4]; exact b0 d hd
  · exact ⟨vs 0, vs 1, vs 2, vs 3, vs 4, vs 5, vs 6, ⟨(k 0 (by decide)).1, (k 0 (by decide)).2.1, (k 0 (by decide)).2.2.1 (by decide)⟩, ⟨(k 1 (by decide)).1, (k 1 (by decide)).2.1, (k 1 (by decide)).2.2.2.1 rfl⟩, ⟨(k 2 (by decide)).1, (k 2 (by decide)).2.1, (k 2 (by decide)).2.2.1 (by decide)⟩, ⟨(k 3 (by decide)).1, (k 3 (by decide)).2.1, (k 3 (by decide)).2.2.1 (by decide)⟩, ⟨(k 4 (by decide)).1, (k 4 (by decide)).2.1, (k 4 (by decide)).2.2.1 (by decide)⟩, ⟨(k 5 (by decide)).1, (k 5 (by decide)).2.1, ((k 5 (by decide)).2.2.1 (by decide)).1, (k 5 (by decide)).2.2.2.2 (by decide)⟩, ⟨(k 6 (by decide)).1, (k 6 (by decide)).2.1, ((k 6 (by decide)).2.2.1 (by decide)).1, (k 6 (by decide)).2.2.2.2 (by decide)⟩⟩
  · have : k = 0 ∨ k = 1 := by omega
    rcases this with rfl | rfl
    · show σ'.1 9 2 = σ'.1 9 3
      rw [h9 2 (by decide), h9 3 (by decide)]
      exact c0.1
    · show σ'.1 9 4 = σ'.1 9 5
      rw [h9 4 (by decide), h9 5 (by decide)]
      exact c0.2
theorem pg_hbody (hj : j < 7) {v : Int32} {s : ps_S} : (ps_let (s.1 327 12) fun v10 => if v10 = 0 then if ps_in ((10 + nI j)) 1850 = true then ps_let (ps_rI s 332 (upd (s.1 332) ((10 + nI j)).toNatClampNeg v)) fun s13 => ps_let (nI j + 1) fun v14 => qX9_readHost_15 f v14 s13 else none else ps_let (nI j + 1) fun v12 => qX9_readHost_15 f v12 s) = if s.1 327 12 = 0 then qX9_readHost_15 f (nI (j + 1)) (ps_rI s 332 (upd (s.1 332) (10 + j) v)) else qX9_readHost_15 f (nI (j + 1)) s := by
  have a10 : (10 : Int32) + nI j = nI (10 + j) := nI_add 10 j
  rw [pz_lt]
  by_cases z : s.1 327 12 = 0
  · rw [if_pos z, if_pos z, a10, if_pos (pz_ini (by omega) (by decide)), nI_clamp (by omega), pz_lt, pz_lt, nI_1]
  · rw [if_neg z, if_neg z, pz_lt, nI_1]
theorem pg_hstep (hj : j < 7) (h1 : j = 1 → lo = 0 ∧ hi = τ.1 332 10 - 1) (h2 : j ≠ 1 → j ≤ 4 → lo = 1 ∧ hi = 999) (h3 : 5 ≤ j → lo = 1 ∧ hi = 99) : qX9_readHost_15 (f + 1) (nI j) τ = pg_hk f j lo hi τ := by
  have a1 : (1 : Int32) + nI j = nI (1 + j) := nI_add 1 j
  have q7 : ¬ (7 : Int32) ≤ nI j := nI_ge (a := j) (b := 7) hj (by decide)
  rw [qX9_readHost_15, if_neg q7]
  unfold pg_hk
  by_cases e1 : j = 1
  · obtain ⟨rfl, rfl⟩ := h1 e1
    have q1 : nI j = 1 := by rw [e1]; rfl
    rw [if_pos q1, if_pos q1, pz_lt, pz_lt, a1]
    exact congrArg (ps_bd _) (funext fun v => funext fun s => pg_hbody hj)
  · have q1 : ¬ nI j = 1 := pc_lit (k := 1) (by omega) (by decide) e1
    rw [if_neg q1, if_neg q1]
    by_cases e4 : j ≤ 4
    · obtain ⟨rfl, rfl⟩ := h2 e1 e4
      rw [if_pos (show nI j ≤ 4 from nI_le (a := j) (b := 4) e4 (by decide)), a1]
      exact congrArg (ps_bd _) (funext fun v => funext fun s => pg_hbody hj)
    · obtain ⟨rfl, rfl⟩ := h3 (by omega)
      rw [if_neg (show ¬ nI j ≤ 4 from nI_ge (a := 4) (b := j) (by omega) (by omega)), a1]
      exact congrArg (ps_bd _) (funext fun v => funext fun s => pg_hbody hj)
theorem pg_h7 : qX9_readHost_15 (f + 1) (nI 7) τ = some (nI 7, τ) := by
  rw [qX9_readHost_15, if_pos (show (7 : Int32) ≤ nI 7 from nI_le (a := 7) (b := 7) (by decide) (by decide))]
theorem pg_hfail : ∀ (m j fuel : Nat) (τ : ps_S), j + m = 7 → m < fuel → ¬ τ.1 327 12 = 0 → qX9_readHost_15 fuel (nI j) τ = some (nI 7, τ) := by
  intro m
  induction m with
  | zero =>
    intro j fuel τ e1 e2 hz
    obtain ⟨f, rfl⟩ : ∃ f, fuel = f + 1 := ⟨fuel - 1, by omega⟩
    have : j = 7 := by omega
    subst this
    exact pg_h7
  | succ m ih =>
    intro j fuel τ e1 e2 hz
    obtain ⟨f, rfl⟩ : ∃ f, fuel = f + 1 := ⟨fuel - 1, by omega⟩
    obtain ⟨lo, hi, h1, h2, h3⟩ : ∃ lo hi : Int32, (j = 1 → lo = 0 ∧ hi = τ.1 332 10 - 1) ∧ (j ≠ 1 → j ≤ 4 → lo = 1 ∧ hi = 999) ∧ (5 ≤ j → lo = 1 ∧ hi = 99) := by
      by_cases e1 : j = 1
      · exact ⟨0, τ.1 332 10 - 1, fun _ => ⟨rfl, rfl⟩, fun h => absurd e1 h, fun h => absurd h (by omega)⟩
      · by_cases e4 : j ≤ 4
        · exact ⟨1, 999, fun h => absurd h e1, fun _ _ => ⟨rfl, rfl⟩, fun h => absurd h (by omega)⟩
        · exact ⟨1, 99, fun h => absurd h e1, fun _ h => absurd h e4, fun _ => ⟨rfl, rfl⟩⟩
    obtain ⟨w, ew⟩ := pg_named0 (lo := lo) (hi := hi) (v := nI (1 + j)) hz
    rw [pg_hstep (by omega) h1 h2 h3]
    unfold pg_hk
    rw [ew, pz_bds, if_neg hz]
    exact ih (j + 1) f τ (by omega) (by omega) hz
theorem pl_hd {i : Nat} {NC Kc : ps_S → Option (Int32 × ps_S)} {KG : Int32 → ps_S → Option (Unit × ps_S)} {Q : Int32 → ps_S → Unit → ps_S → Prop} (lo hi : Int32) (g : pr_B n b st [] σ τ) (z : pr_Z j vs σ τ) (hj : j < 7) (hi2 : i = j + 2) (hN : ∀ s, pe_c σ s → NC s = qX5_takeNumber lo hi s)
    (h1 : j = 1 → lo = 0 ∧ hi = nI (vs 0) - 1) (h2 : j ≠ 1 → j ≤ 4 → lo = 1 ∧ hi = 999) (h3 : 5 ≤ j → lo = 1 ∧ hi = 99)
    (ok : ∀ st' vs' σ' τ', st + 1 ≤ st' → pr_B n b st' [] σ' τ' → pr_Z (j + 1) vs' σ' τ' → pl_c σ σ' → pl_g τ τ' → pr2 (Kc σ') (ps_bd (qX9_readHost_15 f (nI (j + 1)) τ') KG) Q)
    (no : ∀ σ' τ', pr_F σ' τ' → pl_c σ σ' → pl_g τ τ' → pr2 (some (0, σ')) (ps_bd (qX9_readHost_15 f (nI (j + 1)) τ') KG) Q) :
    pr2 (ps_bd (ps_bd (qX5_takeWord i σ) (fun v s => if v = 0 then some (0, s) else NC s)) (fun w s2 => if w = 0 then some (0, s2) else ps_let (s2.1 11 9) fun x => ps_let (ps_rI s2 2 (upd (s2.1 2) j x)) fun s3 => Kc s3)) (ps_bd (qX9_readHost_15 (f + 1) (nI j) τ) KG) Q := by
  have h1' : j = 1 → lo = 0 ∧ hi = τ.1 332 10 - 1 := fun e => ⟨(h1 e).1, by rw [(h1 e).2, ← (z.2.2.2.2.2 0 (by omega)).2.1]⟩
  rw [pg_hstep hj h1' h2 h3]
  unfold pg_hk
  have hm : tk_mw i = j + 1 := by
    rw [hi2]
    unfold tk_mw
    rw [if_pos (by omega)]
    omega
  have hAs : ∀ (o : Option (Int32 × ps_S)) (F : Int32 → ps_S → Option (Int32 × ps_S)), ps_bd (ps_bd o F) KG = ps_bd o (fun a s => ps_bd (F a s) KG) := fun o F => ps_bd_as
  rw [hAs]
  refine pr2.b (pb_named2 (lo := lo) (hi := hi) g (Nat.zero_le _) (i := i) (m := j + 1) (by omega) hm (by omega) (by rw [Nat.add_comm]) hN) (fun a σ1 v τ1 q => ?_)
  obtain ⟨c1, d1, q⟩ := q
  rcases q with ⟨rfl, st1, val, s1, g1, rfl, e9, v1, v2, v3⟩ | ⟨rfl, hF, hm⟩
  · have okv : pl_ok j (vs 0) val := by
      refine ⟨fun e => ⟨?_, by omega⟩, fun e => ?_, fun e => ?_⟩
      · have hlo : lo = 1 := by
          by_cases e4 : j ≤ 4
          · exact (h2 e e4).1
          · exact (h3 (by omega)).1
        by_cases q : 1 ≤ val
        · exact q
        · rw [hlo] at v2
          exact absurd (nI_lt (a := val) (b := 1) (by omega) (by omega)) v2
      · have x := (z.2.2.2.2.2 0 (by omega)).2.2.1 (by decide)
        rw [(h1 e).2] at v3
        exact nI_dlt (by omega) (by omega) v3
      · rw [(h3 e).2] at v3
        by_cases q : val ≤ 99
        · exact q
        · exact absurd (nI_lt (a := 99) (b := val) (by omega) (by omega)) v3
    refine pr2.le (by decide) ?_
    refine pr2.ll e9 ?_
    refine pr2.ll rfl ?_
    rw [if_pos g1.1.2.2.1]
    exact ok st1 _ _ _ s1 (g1.h (fun k hk => ps_rI_ne _ _ (by omega)) (fun k hk => ps_rI_ne _ _ (by omega)) (fun j' hj' => by rw [ps_rI_at, upd_ne _ _ (by omega)])) ((z.pe c1 d1).put hj okv) (c1.l.tr ⟨fun k hk => ps_rI_ne _ _ (by omega), by rw [ps_rI_ne _ _ (by decide)], rfl⟩) (d1.l.tr ⟨fun k k1 k2 => ps_rI_ne _ _ k2, fun j' hj' => by rw [ps_rI_ne _ _ (by decide)], rfl⟩)
  · refine pr2.lt rfl ?_
    rw [if_neg hF.nz]
    exact no σ1 τ1 hF c1.l d1.l
theorem pl_head (g : pr_B n b st [] σ τ) (z : pr_Z 0 vs σ τ) : pr2 (qX5_readHead σ) (ps_bd (qX9_readHost τ) (fun _ s => qX9_closes s)) (fun a σ' _ τ' => pr_LP n b st 1 σ τ a σ' τ') := by
  obtain ⟨f, ef⟩ : ∃ f, ps_N = f + 8 := ⟨ps_N - 8, by unfold ps_N; omega⟩
  have no : ∀ (m j fu : Nat) (σ' τ' : ps_S), j + m = 7 → m < fu → pr_F σ' τ' → pl_c σ σ' → pl_g τ τ' → pr2 (some (0, σ')) (ps_bd (qX9_readHost_15 fu (nI j) τ') (fun _ s => qX9_closes s)) (fun a σ' _ τ' => pr_LP n b st 1 σ τ a σ' τ') := fun m j fu σ' τ' e1 e2 hF c1 d1 => by
    rw [pg_hfail m j fu τ' e1 e2 hF.nz, pz_bds, pg_closes0 hF.nz]
    refine pr2.d ⟨c1, d1.tr ⟨fun k k1 k2 => ps_rI_ne _ _ k2, fun j hj => by rw [ps_rI_ne _ _ (by decide)], rfl⟩, Or.inr ⟨rfl, ?_⟩⟩
    unfold pr_F
    rw [ps_rI_ne _ _ (by decide)]
    exact hF
  have eR : qX9_readHost τ = ps_bd (qX9_eats 0 τ) (fun v s => if v = 0 then ps_bd (qX9_fails 2 s) (fun _ s' => ps_bd (qX9_readHost_15 ps_N 0 s') (fun _ s2 => some ((), s2))) else ps_bd (qX9_readHost_15 ps_N 0 s) (fun _ s2 => some ((), s2))) := rfl
  have eB : ∀ s : ps_S, ps_bd (ps_bd (qX9_readHost_15 ps_N 0 s) (fun _ s2 => some ((), s2))) (fun _ s => qX9_closes s) = ps_bd (qX9_readHost_15 (f + 8) (nI 0) s) (fun _ s => qX9_closes s) := fun s => by
    rw [ps_bd_as, ef]
    rfl
  rw [eR, ps_bd_ite]
  unfold qX5_readHead
  refine pb_take g (c := 0) (by decide) (by decide) rfl (Nat.zero_le _) (fun e => pb_tw1 g (i := 1) (by decide) rfl e) (fun e => pb_tw0 g (i := 1) (by decide) rfl e) (fun st1 σ1 τ1 s1 g1 c1 d1 => ?_) (fun σ1 τ1 hF hm c1 d1 => ?_)
  · refine pr2.le (by decide) ?_
    rw [eB, pb_as]
    refine pl_hd 1 999 (j := 0) g1 (z.pe c1 d1) (by decide) rfl (fun s _ => rfl) (fun e => absurd e (by decide)) (fun _ _ => ⟨rfl, rfl⟩) (fun e => absurd e (by decide)) (fun st2 vs2 σ2 τ2 s2 g2 z2 c2 d2 => ?_) (fun σ2 τ2 hF c2 d2 => no 6 1 _ σ2 τ2 (by decide) (by omega) hF (c1.l.tr c2) (d1.l.tr d2))
    replace c2 := c1.l.tr c2
    replace d2 := d1.l.tr d2
    rw [pb_as2]
    refine pl_hd 0 (nI (vs2 0) - 1) (j := 1) g2 z2 (by decide) rfl (fun s hs => by
      show qX5_takeNumber 0 (s.1 2 0 - 1) s = _
      rw [hs.1 2 (by decide) (by decide) (by decide), (z2.2.2.2.2.2 0 (by decide)).1]) (fun _ => ⟨rfl, rfl⟩) (fun e => absurd rfl e) (fun e => absurd e (by decide)) (fun st3 vs3 σ3 τ3 s3 g3 z3 c3 d3 => ?_) (fun σ3 τ3 hF c3 d3 => no 5 2 _ σ3 τ3 (by decide) (by omega) hF (c2.tr c3) (d2.tr d3))
    replace c3 := c2.tr c3
    replace d3 := d2.tr d3
    rw [pb_as]
    refine pl_hd 1 999 (j := 2) g3 z3 (by decide) rfl (fun s _ => rfl) (fun e => absurd e (by decide)) (fun _ _ => ⟨rfl, rfl⟩) (fun e => absurd e (by decide)) (fun st4 vs4 σ4 τ4 s4 g4 z4 c4 d4 => ?_) (fun σ4 τ4 hF c4 d4 => no 4 3 _ σ4 τ4 (by decide) (by omega) hF (c3.tr c4) (d3.tr d4))
    replace c4 := c3.tr c4
    replace d4 := d3.tr d4
    rw [pb_as]
    refine pl_hd 1 999 (j := 3) g4 z4 (by decide) rfl (fun s _ => rfl) (fun e => absurd e (by decide)) (fun _ _ => ⟨rfl, rfl⟩) (fun e => absurd e (by decide)) (fun st5 vs5 σ5 τ5 s5 g5 z5 c5 d5 => ?_) (fun σ5 τ5 hF c5 d5 => no 3 4 _ σ5 τ5 (by decide) (by omega) hF (c4.tr c5) (d4.tr d5))
    replace c5 := c4.tr c5
    replace d5 := d4.tr d5
    rw [pb_as]
    refine pl_hd 1 999 (j := 4) g5 z5 (by decide) rfl (fun s _ => rfl) (fun e => absurd e (by decide)) (fun _ _ => ⟨rfl, rfl⟩) (fun e => absurd e (by decide)) (fun st6 vs6 σ6 τ6 s6 g6 z6 c6 d6 => ?_) (fun σ6 τ6 hF c6 d6 => no 2 5 _ σ6 τ6 (by decide) (by omega) hF (c5.tr c6) (d5.tr d6))
    replace c6 := c5.tr c6
    replace d6 := d5.tr d6
    rw [pb_as]
    refine pl_hd 1 99 (j := 5) g6 z6 (by decide) rfl (fun s _ => rfl) (fun e => absurd e (by decide)) (fun _ e => absurd e (by decide)) (fun _ => ⟨rfl, rfl⟩) (fun st7 vs7 σ7 τ7 s7 g7 z7 c7 d7 => ?_) (fun σ7 τ7 hF c7 d7 => no 1 6 _ σ7 τ7 (by decide) (by omega) hF (c6.tr c7) (d6.tr d7))
    replace c7 := c6.tr c7
    replace d7 := d6.tr d7
    rw [pb_as]
    refine pl_hd 1 99 (j := 6) g7 z7 (by decide) rfl (fun s _ => rfl) (fun e => absurd e (by decide)) (fun _ e => absurd e (by decide)) (fun _ => ⟨rfl, rfl⟩) (fun st8 vs8 σ8 τ8 s8 g8 z8 c8 d8 => ?_) (fun σ8 τ8 hF c8 d8 => no 0 7 _ σ8 τ8 (by decide) (by omega) hF (c7.tr c8) (d7.tr d8))
    replace c8 := c7.tr c8
    replace d8 := d7.tr d8
    refine pr2.r (c := nI 7) (τ := τ8) pg_h7 ?_
    refine pr2.ll rfl ?_
    have g9 : pr_B n b st8 [] (ps_rI σ8 2 (upd (σ8.1 2) 10 1)) τ8 := g8.h (fun k hk => ps_rI_ne _ _ (by omega)) (fun _ _ => rfl) (fun _ _ => rfl)
    have c9 : pl_c σ8 (ps_rI σ8 2 (upd (σ8.1 2) 10 1)) := ⟨fun k hk => ps_rI_ne _ _ (by omega), by rw [ps_rI_ne _ _ (by decide)], rfl⟩
    have p2 : (ps_rI σ8 2 (upd (σ8.1 2) 10 1)).1 2 = upd (σ8.1 2) 10 (nI 1) := ps_rI_at _ _ _
    have pk : ∀ k, k ≠ 2 → (ps_rI σ8 2 (upd (σ8.1 2) 10 1)).1 k = σ8.1 k := fun k hk => ps_rI_ne _ _ hk
    generalize ps_rI σ8 2 (upd (σ8.1 2) 10 1) = σ9 at g9 c9 p2 pk ⊢
    unfold qX9_closes
    refine pb_take g9 (c := 30) (by decide) (by decide) rfl (Nat.zero_le _) (fun e => pb_ts1 g9 (j := 0) (by decide) rfl e) (fun e => pb_ts0 g9 (j := 0) (by decide) rfl e) (fun st3 σ3 τ3 s3 g3 c3 d3 => ?_) (fun σ3 τ3 hF hm c3 d3 => ?_)
    · refine pr2.lt rfl ?_
      refine pr2.rl (w := nI 0) (by rw [d3.2.2.1 0 (by decide)]; exact z8.2.2.2.2.1 0 (by decide) (by decide)) ?_
      rw [nI_1, pz_lt]
      refine pr2.d ⟨c8.tr (c9.tr c3.l), d8.tr (d3.l.tr ⟨fun k k1 k2 => ps_rI_ne _ _ k2, fun j hj => by rw [ps_rI_ne _ _ (by decide)], rfl⟩), Or.inl ⟨rfl, st3, 0, 0, 0, [], by omega, g3.h (fun _ _ => rfl) (fun k hk => ps_rI_ne _ _ (by omega)) (fun j hj => by rw [ps_rI_at, upd_ne _ _ (by omega)]), z8.T (fun j hj => ?_) ?_ ?_ (fun j hj => ?_) (fun j j1 j2 => ?_) ?_, Nat.zero_le _⟩⟩
      · rw [c3.1 2 (by decide) (by decide) (by decide), p2, upd_ne _ _ hj]
      · rw [c3.1 2 (by decide) (by decide) (by decide), p2, upd_self]
      · rw [c3.1 4 (by decide) (by decide) (by decide), pk 4 (by decide)]
      · rw [c3.2.1 j hj, pk 9 (by decide)]
      · rw [ps_rI_at, upd_ne _ _ (by omega), d3.2.2.1 j j2]
      · rw [ps_rI_at, upd_self]
    · refine pr2.lt rfl ?_
      refine pr2.rl rfl ?_
      rw [pz_lt]
      refine pr2.d ⟨c8.tr (c9.tr c3.l), d8.tr (d3.l.tr ⟨fun k k1 k2 => ps_rI_ne _ _ k2, fun j hj => by rw [ps_rI_ne _ _ (by decide)], rfl⟩), Or.inr ⟨rfl, ?_⟩⟩
      unfold pr_F
      rw [ps_rI_ne _ _ (by decide)]
      exact hF
  · refine pr2.lt rfl ?_
    rw [eB]
    exact no 7 0 _ σ1 τ1 (by decide) (by omega) hF c1.l d1.l
end HEAD
