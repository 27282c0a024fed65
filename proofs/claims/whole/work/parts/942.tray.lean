/-! trays -/
theorem ps_rL_1 (σ : ps_S) (k : Nat) (f : Nat → Int64) : (ps_rL σ k f).1 = σ.1 := rfl
theorem ps_rL_22 (σ : ps_S) (k : Nat) (f : Nat → Int64) : (ps_rL σ k f).2.2 = σ.2.2 := rfl
theorem ps_rL_at (σ : ps_S) (k : Nat) (f : Nat → Int64) : (ps_rL σ k f).2.1 k = f := by simp [ps_rL]
theorem ps_rL_ne (σ : ps_S) {k j : Nat} (f : Nat → Int64) (h : j ≠ k) : (ps_rL σ k f).2.1 j = σ.2.1 j := by simp [ps_rL, h]
theorem vl_self (f : Nat → Int64) (k : Nat) (v : Int64) : vp_updL f k v k = v := by simp [vp_updL]
theorem vl_ne (f : Nat → Int64) {k j : Nat} (v : Int64) (h : j ≠ k) : vp_updL f k v j = f j := by simp [vp_updL, h]
def pa_trs (tr : pa_Tr) (i : Nat) (y : Int32 × Nat × (Nat → Int64)) : pa_Tr := fun j => if j = i then some y else tr j
def pa_cut (v : Int64) (s : Int32) : Int64 := if s = 0 then v.toInt32.toInt8.toInt32.toInt64 else if s = 1 then v.toInt32.toInt16.toInt32.toInt64 else if s = 2 then v.toInt32.toInt64 else v
theorem pz_rdN {β : Type} {x : Int32} {n k : Nat} {P : β → ps_S → Prop} {inst : Decidable (ps_in x n = true)} {f : Nat → Nat} {g : Nat → Option (β × ps_S)} (hx : x = nI k) (hk : k < n) (hn : n ≤ 2147483648) (h : ps_ok (g (f k)) P) : ps_ok (@ite _ (ps_in x n = true) inst (ps_let (f x.toNatClampNeg) g) none) P := by
  subst hx
  rw [if_pos (pz_ini hk hn), nI_clamp (by omega)]
  exact h
theorem pz_wrL {β : Type} {x : Int32} {n k c : Nat} {σ : ps_S} {P : β → ps_S → Prop} {inst : Decidable (ps_in x n = true)} {w : Int64} {f : ps_S → Option (β × ps_S)} (hx : x = nI k) (hk : k < n) (hn : n ≤ 2147483648) (h : ∀ τ, τ = ps_rL σ c (vp_updL (σ.2.1 c) k w) → ps_ok (f τ) P) : ps_ok (@ite _ (ps_in x n = true) inst (ps_let (ps_rL σ c (vp_updL (σ.2.1 c) x.toNatClampNeg w)) f) none) P := by
  subst hx
  rw [if_pos (pz_ini hk hn), nI_clamp (by omega)]
  exact h _ rfl
theorem pw_change {α : Type} {T' : Nat} {H H' : pa_H} {x x' : pa_X} {n n' : Nat} {P P' : Nat → pa_X} {im im' : pa_Im} {tr tr' : pa_Tr} {tp tp' : pa_Tp} {fl fl' : Int32 × Int32} {σ : ps_S} {qc qg : ps_S → Option (α × ps_S)} {a : α} (hW : pa_W T' H' x' n' P' im' tr' tp') (hg : pg_W H x n P im tr tp fl σ)
    (cl : ps_ok (qc σ) (fun v τ => v = a ∧ pc_W H' x' n' P' im' tr' tp' fl' τ ∧ pw_r σ τ)) (rf : ∀ τ, pg_W H x n P im tr tp fl τ → ps_ok (qg τ) (fun v υ => v = a ∧ pg_W H' x' n' P' im' tr' tp' fl' υ ∧ pw_c τ υ)) : pw_call T' qc qg σ := by
  refine pz_im cl (fun v τ h1 => ?_)
  obtain ⟨rfl, k1, k2⟩ := h1
  refine pz_im (rf τ (k2.W hg)) (fun v' υ h2 => ?_)
  obtain ⟨rfl, k3, k4⟩ := h2
  exact ⟨rfl, H', x', n', P', im', tr', tp', fl', hW, k4.W k1, k3⟩
section TRAY
variable {H : pa_H} {x : pa_X} {n : Nat} {P : Nat → pa_X} {im : pa_Im} {tr : pa_Tr} {tp : pa_Tp} {fl : Int32 × Int32} {σ0 σ τ : ps_S} {p : pa_P} {y : pa_X} {t T : Nat}
theorem pc_W.setTr {tr' : pa_Tr} (w : pc_W H x n P im tr tp fl σ) (h : ∀ k, (k < 265 ∨ (273 ≤ k ∧ k < 327)) → τ.1 k = σ.1 k ∧ τ.2.2 k = σ.2.2 k) (ht : pc_Wt tr' τ) : pc_W H x n P im tr' tp fl τ := by
  obtain ⟨⟨w1, w2, w0⟩, w3, w4, w5, w6, w7⟩ := w
  refine ⟨⟨w1.congr (fun o ho => (h _ (by omega)).1) (h _ (by omega)).2, w2.congr (fun o ho => (h _ (by omega)).1), ?_⟩, w3.congr (fun k hk => h k (by omega)) (fun j hj => by rw [(h 0 (by omega)).1]), w4.congr (fun k hk => h k (by omega)), ht, w6.congr (h 1 (by omega)).1 (by rw [(h 0 (by omega)).1]), by rw [(h 11 (by omega)).1]; exact w7⟩
  unfold pc_O at w0 ⊢
  rw [(h 23 (by omega)).1, (h 24 (by omega)).1]
  exact w0
theorem pc_Wt.set {i : Nat} {y : Int32 × Nat × (Nat → Int64)} (g : pc_Wt tr σ) (hi : i < 4) (h : ∀ k, 265 ≤ k → k < 273 → k ≠ 265 + 2 * i → k ≠ 266 + 2 * i → τ.1 k = σ.1 k ∧ τ.2.1 k = σ.2.1 k) (h1 : τ.1 (265 + 2 * i) 1 = 0) (h2 : τ.1 (265 + 2 * i) 2 = y.1) (h3 : τ.1 (265 + 2 * i) 3 = nI y.2.1) (h4 : ∀ j, j < y.2.1 → τ.2.1 (266 + 2 * i) j = y.2.2 j) : pc_Wt (pa_trs tr i y) τ := by
  intro j hj
  unfold pa_trs
  by_cases c : j = i
  · subst c
    rw [if_pos rfl]
    refine ⟨(fun hh => by cases hh), fun z hz => ?_⟩
    cases hz
    exact ⟨h1, h2, h3, h4⟩
  · rw [if_neg c, (h (265 + 2 * j) (by omega) (by omega) (by omega) (by omega)).1, (h (266 + 2 * j) (by omega) (by omega) (by omega) (by omega)).2]
    exact g j hj
theorem pg_Wt.set {i : Nat} {y : Int32 × Nat × (Nat → Int64)} (hT : ∀ i, i < 4 → ∀ y, tr i = some y → y.2.1 ≤ 40) (hy : y.2.1 ≤ 40) (g : pg_Wt tr σ) (hi : i < 4) (h : ∀ j, j ≠ i → τ.1 342 j = σ.1 342 j ∧ τ.1 343 j = σ.1 343 j) (hl : ∀ k, k < 40 * i ∨ 40 * i + 40 ≤ k → τ.2.1 344 k = σ.2.1 344 k) (h2 : τ.1 342 i = y.1) (h3 : τ.1 343 i = nI y.2.1) (h4 : ∀ j, j < y.2.1 → τ.2.1 344 (40 * i + j) = y.2.2 j) : pg_Wt (pa_trs tr i y) τ := by
  intro j hj
  unfold pa_trs
  by_cases c : j = i
  · subst c
    rw [if_pos rfl]
    refine ⟨(fun hh => by cases hh), fun z hz => ?_⟩
    cases hz
    exact ⟨h2, h3, h4⟩
  · rw [if_neg c, (h j c).1, (h j c).2]
    refine ⟨(g j hj).1, fun z hz => ?_⟩
    obtain ⟨a1, a2, a3⟩ := (g j hj).2 z hz
    have := hT j hj z hz
    exact ⟨a1, a2, fun k hk => by rw [hl _ (by omega)]; exact a3 k hk⟩
theorem pg_W.setTr {tr' : pa_Tr} (w : pg_W H x n P im tr tp fl σ) (h1 : ∀ k, k = 328 ∨ k = 330 ∨ k = 331 → τ.1 k = σ.1 k) (h2 : τ.2.2 329 = σ.2.2 329) (h3 : ∀ j, j = 6 ∨ j = 14 ∨ j = 15 → τ.1 327 j = σ.1 327 j) (ht : pg_Wt tr' τ) : pg_W H x n P im tr' tp fl τ := by
  obtain ⟨w1, w3, w4, w5, w6, w7⟩ := w
  refine ⟨pg_Wx (h1 328 (by omega)) h2 w1, ?_, ?_, ht, w6.congr (h1 331 (by omega)) (h3 6 (by omega)), by rw [h3 14 (by omega), h3 15 (by omega)]; exact w7⟩
  · unfold pg_Wp pg_Ws pg_nr pg_ne at *
    rw [h1 328 (by omega), h2]
    exact w3
  · unfold pg_Wi pg_Ws pg_nr pg_ne pg_hh at *
    rw [h1 328 (by omega), h1 330 (by omega), h2]
    exact w4
theorem pa_W.setTr {i : Nat} {y : Int32 × Nat × (Nat → Int64)} (w : pa_W T H x n P im tr tp) (h1 : ∃ s, s < 4 ∧ y.1 = nI s) (h2 : y.2.1 ≤ 40) : pa_W T H x n P im (pa_trs tr i y) tp := by
  obtain ⟨w1, w2, w3, w4, w5, w6⟩ := w
  refine ⟨w1, w2, w3, w4, fun j hj z hz => ?_, w6⟩
  unfold pa_trs at hz
  by_cases c : j = i
  · rw [if_pos c] at hz
    cases hz
    exact ⟨h1, h2⟩
  · rw [if_neg c] at hz
    exact w5 j hj z hz
/-- rows of longs filled -/
theorem pz_fiL {F : Nat → Int32 → ps_S → Option (Int32 × ps_S)} {N cd m2 B : Nat} {nN : Int32} {v : Int64} {b : Int32 → Int32}
    (hF : ∀ n x σ, F (n + 1) x σ = if nN ≤ x then some (x, σ) else if ps_in (b x) m2 = true then ps_let (ps_rL σ cd (vp_updL (σ.2.1 cd) (b x).toNatClampNeg v)) fun σ3 => ps_let (x + 1) fun v4 => F n v4 σ3 else none)
    (hN : nN = nI N) (hN2 : N < 2 ^ 31) (hb : ∀ k, k < N → b (nI k) = nI (B + k)) (h2 : B + N ≤ m2) (h4 : m2 ≤ 2147483648) :
    ∀ (m i fuel : Nat) (f : Nat → Int64) (τ : ps_S), i + m = N → m < fuel → τ = ps_rL σ cd f → ps_ok (F fuel (nI i) τ) (fun _ υ => ∃ f', υ = ps_rL σ cd f' ∧ ∀ j, f' j = if B + i ≤ j ∧ j < B + N then v else f j) := by
  intro m
  induction m with
  | zero =>
    intro i fuel f τ e1 e2 e
    obtain ⟨fu, rfl⟩ : ∃ f, fuel = f + 1 := ⟨fuel - 1, by omega⟩
    rw [hF, hN]
    exact pz_t (nI_le (by omega) (by omega)) (pz_done ⟨f, e, fun j => by rw [if_neg (by omega)]⟩)
  | succ m ih =>
    intro i fuel f τ e1 e2 e
    obtain ⟨fu, rfl⟩ : ∃ f, fuel = f + 1 := ⟨fuel - 1, by omega⟩
    rw [hF, hN]
    refine pz_e (nI_ge (by omega) hN2) ?_
    refine pz_wrL (k := B + i) (hb i (by omega)) (by omega) h4 (fun υ eu => ?_)
    rw [pz_lt, nI_1]
    have eu' : υ = ps_rL σ cd (vp_updL f (B + i) v) := by
      rw [eu, e, ps_rL_at]
      unfold ps_rL
      refine Prod.ext rfl (Prod.ext ?_ rfl)
      funext a
      show (if a = cd then _ else if a = cd then f else σ.2.1 a) = if a = cd then _ else σ.2.1 a
      by_cases c : a = cd
      · rw [if_pos c, if_pos c]
      · rw [if_neg c, if_neg c, if_neg c]
    refine pz_im (ih (i + 1) fu (vp_updL f (B + i) v) υ (by omega) (by omega) eu') (fun _ ω hω => ?_)
    obtain ⟨f', e3, e4⟩ := hω
    refine ⟨f', e3, fun j => ?_⟩
    rw [e4 j]
    by_cases c : j = B + i
    · rw [c, vl_self, if_neg (by omega), if_pos (by omega)]
    · rw [vl_ne _ _ c]
      by_cases c2 : B + (i + 1) ≤ j ∧ j < B + N
      · rw [if_pos c2, if_pos (by omega)]
      · rw [if_neg c2, if_neg (by omega)]
theorem ps_rL_id (σ : ps_S) (k : Nat) : σ = ps_rL σ k (σ.2.1 k) := by
  unfold ps_rL
  refine Prod.ext rfl (Prod.ext ?_ rfl)
  funext a
  show σ.2.1 a = if a = k then σ.2.1 k else σ.2.1 a
  by_cases c : a = k
  · rw [if_pos c, c]
  · rw [if_neg c]
end TRAY
theorem pw_numbers {T : Nat} {σ : ps_S} {p1 p2 p3 : Int32} (w : pw_W T σ) : pw_call T (qX8_numbers p1 p2 p3) (qX9_numbers p1 p2 p3) σ := by
  obtain ⟨H, x, n, P, im, tr, tp, fl, hW, hc, hg⟩ := w
  have hT40 : ∀ i, i < 4 → ∀ y, tr i = some y → y.2.1 ≤ 40 := fun i hi y hy => (hW.2.2.2.2.1 i hi y hy).2
  by_cases c1 : p1 < 0 ∨ 4 ≤ p1
  · refine pw_query (a := -2) hW hc hg ?_ (fun τ hg => ?_)
    · unfold qX8_numbers
      refine pz_bd' (pc_tf c1) ?_
      exact pz_t rfl (pz_done ⟨rfl, pc_kp.rf _, hc.1.2.2⟩)
    · unfold qX9_numbers
      refine pg_th hg (fun τ1 hg1 k1 => ?_)
      refine pz_bd' (pg_i0 (lo := 0) (hi := 3) (by decide) (by decide) (c1.imp id (fun h => (nI_dm1 (n := 4) (by decide)).mpr h))) ?_
      exact pz_t rfl (pz_done ⟨rfl, k1⟩)
  obtain ⟨i, hi, rfl⟩ := pa_idx (n := 4) (by decide) c1
  have t1 : ¬ (3 : Int32) < nI i := nI_nlt (a := 3) (b := i) (by omega) (by omega)
  by_cases c2 : p2 < 0 ∨ 3 < p2
  · refine pw_query (a := -2) hW hc hg ?_ (fun τ hg => ?_)
    · unfold qX8_numbers
      refine pz_bd' (pc_tt c1) ?_
      refine pz_e (by decide) ?_
      refine pz_bd' (pc_i0 c2) ?_
      exact pz_t rfl (pz_done ⟨rfl, pc_kp.rf _, hc.1.2.2⟩)
    · unfold qX9_numbers
      refine pg_th hg (fun τ1 hg1 k1 => ?_)
      refine pz_bd' (pg_i1 (lo := 0) (hi := 3) (by decide) (by decide) (fun hh => c1 (Or.inl hh)) t1) ?_
      refine pz_e (by decide) ?_
      refine pz_bd' (pg_i0 (lo := 0) (hi := 3) (by decide) (by decide) c2) ?_
      exact pz_t rfl (pz_done ⟨rfl, k1⟩)
  by_cases c3 : p3 < 0 ∨ 40 < p3
  · refine pw_query (a := -3) hW hc hg ?_ (fun τ hg => ?_)
    · unfold qX8_numbers
      refine pz_bd' (pc_tt c1) ?_
      refine pz_e (by decide) ?_
      refine pz_bd' (pc_i1 (fun hh => c2 (Or.inl hh)) (fun hh => c2 (Or.inr hh))) ?_
      refine pz_e (by decide) ?_
      refine pz_bd' (pc_i0 c3) ?_
      exact pz_t rfl (pz_done ⟨rfl, pc_kp.rf _, hc.1.2.2⟩)
    · unfold qX9_numbers
      refine pg_th hg (fun τ1 hg1 k1 => ?_)
      refine pz_bd' (pg_i1 (lo := 0) (hi := 3) (by decide) (by decide) (fun hh => c1 (Or.inl hh)) t1) ?_
      refine pz_e (by decide) ?_
      refine pz_bd' (pg_i1 (lo := 0) (hi := 3) (by decide) (by decide) (fun hh => c2 (Or.inl hh)) (fun hh => c2 (Or.inr hh))) ?_
      refine pz_e (by decide) ?_
      refine pz_bd' (pg_i0 (lo := 0) (hi := 40) (by decide) (by decide) c3) ?_
      exact pz_t rfl (pz_done ⟨rfl, k1⟩)
  obtain ⟨s, -, hs, rfl⟩ := pa_num 0 3 (by decide) (by decide) c2
  obtain ⟨m, -, hm, rfl⟩ := pa_num 0 40 (by decide) (by decide) c3
  refine pw_change (a := 0) (fl' := fl) (hW.setTr (i := i) (y := (nI s, m, fun _ => 0)) ⟨s, by omega, rfl⟩ hm) hg ?_ (fun τ hg => ?_)
  · unfold qX8_numbers
    refine pz_bd' (pc_tt c1) ?_
    refine pz_e (by decide) ?_
    refine pz_bd' (pc_i1 (fun hh => c2 (Or.inl hh)) (fun hh => c2 (Or.inr hh))) ?_
    refine pz_e (by decide) ?_
    refine pz_bd' (pc_i1 (fun hh => c3 (Or.inl hh)) (fun hh => c3 (Or.inr hh))) ?_
    refine pz_e (by decide) ?_
    refine pz_rdN (k := i) (f := fun k => 265 + 2 * k) rfl hi (by decide) ?_
    have hb : ps_ok (qX7_begin (265 + 2 * i) (nI s) (nI m) σ) (fun _ τ => ∃ f, τ = ps_rL (ps_rI σ (265 + 2 * i) (upd (upd (upd (σ.1 (265 + 2 * i)) 1 0) 2 (nI s)) 3 (nI m))) (265 + 2 * i + 1) f ∧ ∀ j, j < 40 → f j = 0) := by
      unfold qX7_begin
      rw [pz_lt, pz_lt, pz_lt, ps_rI_2', ps_rI_2', ps_rI_at, ps_rI_at]
      unfold qJ7_fill_d0a16
      rw [pz_lt]
      generalize ps_rI σ (265 + 2 * i) (upd (upd (upd (σ.1 (265 + 2 * i)) 1 0) 2 (nI s)) 3 (nI m)) = σ3
      have hfi := pz_fiL (σ := σ3) (F := qJ7_fill_d0a16_6 (265 + 2 * i + 1) 40 0 (Int32.ofNat 40)) (N := 40) (cd := 265 + 2 * i + 1) (m2 := 40) (B := 0) (nN := Int32.ofNat 40) (v := 0) (b := fun x => x) (fun n x σ => rfl) rfl (by decide) (fun k _ => by rw [Nat.zero_add]) (by decide) (by decide) 40 0 ps_N (σ3.2.1 (265 + 2 * i + 1)) σ3 (by decide) (by unfold ps_N; decide) (ps_rL_id _ _)
      refine pz_bd (pz_bd hfi (fun _ υ hu => ?_)) (fun _ υ hu => pz_done hu)
      obtain ⟨f', e1, e2⟩ := hu
      exact pz_done ⟨f', e1, fun j hj => by rw [e2 j, if_pos (by omega)]⟩
    refine pz_bd hb (fun _ τ ht => ?_)
    obtain ⟨f, e, hf⟩ := ht
    have e1 : ∀ k, k ≠ 265 + 2 * i → τ.1 k = σ.1 k := fun k hk => by rw [e, ps_rL_1, ps_rI_ne _ _ hk]
    have e2 : ∀ k, k ≠ 266 + 2 * i → τ.2.1 k = σ.2.1 k := fun k hk => by rw [e, ps_rL_ne _ _ (by omega)]; rfl
    have e3 : ∀ k, τ.2.2 k = σ.2.2 k := fun k => by rw [e]; rfl
    have eB : τ.1 (265 + 2 * i) = upd (upd (upd (σ.1 (265 + 2 * i)) 1 0) 2 (nI s)) 3 (nI m) := by rw [e, ps_rL_1, ps_rI_at]
    refine pz_done ⟨rfl, hc.setTr (fun k hk => ⟨e1 k (by omega), e3 k⟩) (hc.2.2.2.1.set hi (fun k k1 k2 k3 k4 => ⟨e1 k k3, e2 k k4⟩) ?_ ?_ ?_ (fun j hj => ?_)), fun k hk => ⟨e1 k (by omega), e2 k (by omega), e3 k⟩⟩
    · rw [eB, upd_ne _ _ (by decide), upd_ne _ _ (by decide), upd_self]
    · rw [eB, upd_ne _ _ (by decide), upd_self]
    · rw [eB, upd_self]
    · have hj' : j < m := hj
      rw [e, show 266 + 2 * i = 265 + 2 * i + 1 by omega, ps_rL_at]
      exact hf j (by omega)
  · unfold qX9_numbers
    refine pg_th hg (fun τ1 hg1 k1 => ?_)
    refine pz_bd' (pg_i1 (lo := 0) (hi := 3) (by decide) (by decide) (fun hh => c1 (Or.inl hh)) t1) ?_
    refine pz_e (by decide) ?_
    refine pz_bd' (pg_i1 (lo := 0) (hi := 3) (by decide) (by decide) (fun hh => c2 (Or.inl hh)) (fun hh => c2 (Or.inr hh))) ?_
    refine pz_e (by decide) ?_
    refine pz_bd' (pg_i1 (lo := 0) (hi := 40) (by decide) (by decide) (fun hh => c3 (Or.inl hh)) (fun hh => c3 (Or.inr hh))) ?_
    refine pz_e (by decide) ?_
    refine pz_wr (k := i) rfl hi (by decide) (fun τ2 e2 => ?_)
    refine pz_wr (k := i) rfl hi (by decide) (fun τ3 e3 => ?_)
    have hfi := pz_fiL (σ := τ3) (F := qX9_numbers_64 (nI i) (nI s) (nI m)) (N := m) (cd := 344) (m2 := 160) (B := 40 * i) (nN := nI m) (v := 0) (b := fun x => 40 * nI i + x) (fun n x σ => rfl) rfl (by omega) (fun k _ => by
      show (40 : Int32) * nI i + nI k = _
      rw [show (40 : Int32) * nI i = nI (40 * i) from nI_mul 40 i, nI_add]) (by omega) (by decide) m 0 ps_N (τ3.2.1 344) τ3 (by omega) (by unfold ps_N; omega) (ps_rL_id _ _)
    refine pz_bd hfi (fun _ υ hu => ?_)
    obtain ⟨f', f1, f2⟩ := hu
    have a1 : ∀ k, k ≠ 342 → k ≠ 343 → υ.1 k = τ1.1 k := fun k h1 h2 => by rw [f1, ps_rL_1, e3, ps_rI_ne _ _ h2, e2, ps_rI_ne _ _ h1]
    have a2 : ∀ k, k ≠ 344 → υ.2.1 k = τ1.2.1 k := fun k h1 => by rw [f1, ps_rL_ne _ _ h1, e3, e2]; rfl
    have a3 : υ.2.2 = τ1.2.2 := by rw [f1, e3, e2]; rfl
    have a4 : τ3.2.1 344 = τ1.2.1 344 := by rw [e3, e2]; rfl
    have b1 : υ.1 342 = upd (τ1.1 342) i (nI s) := by rw [f1, ps_rL_1, e3, ps_rI_ne _ _ (by decide), e2, ps_rI_at]
    have b2 : υ.1 343 = upd (τ1.1 343) i (nI m) := by rw [f1, ps_rL_1, e3, ps_rI_at, e2, ps_rI_ne _ _ (by decide)]
    have b3 : υ.2.1 344 = f' := by rw [f1, ps_rL_at]
    refine pz_done ⟨rfl, hg1.setTr (fun k hk => a1 k (by omega) (by omega)) (by rw [a3]) (fun j _ => by rw [a1 327 (by decide) (by decide)]) (hg1.2.2.2.1.set hT40 hm hi (fun j hj => ⟨by rw [b1, upd_ne _ _ hj], by rw [b2, upd_ne _ _ hj]⟩) (fun k hk => ?_) ?_ ?_ (fun j hj => ?_)), fun k hk => ?_⟩
    · rw [b3, f2, if_neg (by omega), a4]
    · rw [b1, upd_self]
    · rw [b2, upd_self]
    · have hj' : j < m := hj
      rw [b3, f2, if_pos (by omega)]
    · have := k1.1 k hk
      exact ⟨(a1 k (by omega) (by omega)).trans this.1, (a2 k (by omega)).trans this.2.1, by rw [a3]; exact this.2.2⟩
