/-! which word, and the reference's whole step -/
def tk_ps : Nat → Nat
  | 0 => 1
  | k + 1 => tk_ps k + (tk_KW.getD k []).length + 1
theorem tk_p1 : ∀ k, k < 24 → (∀ i, i < (tk_KW.getD k []).length → tk_ch 25 (tk_ps k + i) = (tk_KW.getD k []).getD i 0 ∧ tk_ch 25 (tk_ps k + i) ≠ 32) ∧ tk_ch 25 (tk_ps k + (tk_KW.getD k []).length) = 32 ∧ tk_ps k + (tk_KW.getD k []).length < 127 ∧ tk_KW.idxOf (tk_KW.getD k []) = k ∧ (tk_KW.getD k []).length < 11 := by decide +kernel
theorem tk_wlen {b : Nat → Nat} {st sp : Nat} : (tk_w b st sp).length = sp - st := by
  unfold tk_w
  rw [List.length_map, List.length_range]
theorem tk_wat {b : Nat → Nat} {st sp i : Nat} (h : i < sp - st) : (tk_w b st sp).getD i 0 = b (st + i) := by
  unfold tk_w
  rw [List.getD_eq_getElem?_getD, List.getElem?_map, List.getElem?_range h]
  rfl
theorem tk_weq {b : Nat → Nat} {st sp : Nat} {w : List Nat} : tk_w b st sp = w ↔ sp - st = w.length ∧ ∀ i, i < w.length → b (st + i) = w.getD i 0 := by
  constructor
  · intro h
    subst h
    rw [tk_wlen]
    exact ⟨rfl, fun i hi => (tk_wat hi).symm⟩
  · rintro ⟨h1, h2⟩
    refine List.ext_getElem (by rw [tk_wlen]; exact h1) (fun i a1 a2 => ?_)
    have e1 : (tk_w b st sp)[i] = (tk_w b st sp).getD i 0 := by rw [List.getD_eq_getElem?_getD, List.getElem?_eq_getElem a1]; rfl
    have e2 : w[i] = w.getD i 0 := by rw [List.getD_eq_getElem?_getD, List.getElem?_eq_getElem a2]; rfl
    rw [e1, e2, tk_wat (by rw [tk_wlen] at a1; exact a1), h2 i a2]
section KEY
variable {n : Nat} {b : Nat → Nat} {σ τ : ps_S} {s st sp k : Nat}
theorem pg_key15 {y1 : Int32} (t : pg_tx n b σ) (h7 : σ.1 327 7 = nI st) (h8 : σ.1 327 8 = nI sp) (h1 : st ≤ sp) (h2 : sp ≤ n) (hk : k < 24) : ∀ (m i fuel : Nat), i + m = (tk_KW.getD k []).length → m < fuel → i ≤ sp - st → (∀ j, j < i → b (st + j) = (tk_KW.getD k []).getD j 0) → ∃ v, qX9_keyAt_15 y1 (nI (tk_ps k)) fuel (nI i) σ = some (nI v, σ) ∧ v ≤ (tk_KW.getD k []).length ∧ v ≤ sp - st ∧ (∀ j, j < v → b (st + j) = (tk_KW.getD k []).getD j 0) ∧ (v = (tk_KW.getD k []).length ∨ v = sp - st ∨ b (st + v) ≠ (tk_KW.getD k []).getD v 0) := by
  obtain ⟨p1, p2, p3, p4, p5⟩ := tk_p1 k hk
  have n9 := t.1.1
  have hl : pm_len.getD 25 0 = 127 := rfl
  intro m
  induction m with
  | zero =>
    intro i fuel e1 e2 e3 e4
    obtain ⟨f, rfl⟩ : ∃ f, fuel = f + 1 := ⟨fuel - 1, by omega⟩
    have : i = (tk_KW.getD k []).length := by omega
    subst this
    refine ⟨_, ?_, Nat.le_refl _, e3, e4, Or.inl rfl⟩
    rw [qX9_keyAt_15, nI_add, pq_char (by decide) (by rw [hl]; exact p3), pz_bds, p2, if_pos (show nI 32 = (32 : Int32) from rfl)]
  | succ m ih =>
    intro i fuel e1 e2 e3 e4
    obtain ⟨f, rfl⟩ : ∃ f, fuel = f + 1 := ⟨fuel - 1, by omega⟩
    obtain ⟨q1, q2⟩ := p1 i (by omega)
    have hch := tk_ch1 25 (by decide) (tk_ps k + i) (by rw [hl]; omega)
    have ne32 : ¬ nI (tk_ch 25 (tk_ps k + i)) = 32 := pc_lit (k := 32) (by omega) (by decide) q2
    rw [qX9_keyAt_15, nI_add, pq_char (by decide) (by rw [hl]; omega), pz_bds, if_neg ne32, pz_lt, pz_lt, h7, h8, nI_add]
    by_cases c1 : sp ≤ st + i
    · rw [if_pos (nI_le c1 (by omega))]
      exact ⟨i, rfl, by omega, e3, e4, Or.inr (Or.inl (by omega))⟩
    · rw [if_neg (nI_ge (by omega) (by omega)), pz_lt, nI_add, if_pos (pz_ini (by omega) (by decide)), nI_clamp (by omega), pz_lt, pq_char (by decide) (by rw [hl]; omega), pz_bds, t.2.2 _ (by omega)]
      by_cases c2 : b (st + i) = tk_ch 25 (tk_ps k + i)
      · rw [if_pos (by rw [c2]), pz_lt, nI_1]
        refine ih (i + 1) f (by omega) (by omega) (by omega) (fun j hj => ?_)
        by_cases e : j = i
        · subst e; rw [c2, q1]
        · exact e4 j (by omega)
      · have := t.1.2 (st + i) (by omega)
        rw [if_neg (pc_lit (by omega) (by omega) c2)]
        exact ⟨i, rfl, by omega, e3, e4, Or.inr (Or.inr (by rw [← q1]; exact c2))⟩
theorem pg_key97 {y1 y3 : Int32} (hk : k < 24) : ∀ (m i fuel : Nat), i + m = (tk_KW.getD k []).length → m < fuel → qX9_keyAt_97 y1 y3 fuel (nI (tk_ps k + i)) σ = some (nI (tk_ps k + (tk_KW.getD k []).length), σ) := by
  obtain ⟨p1, p2, p3, p4, p5⟩ := tk_p1 k hk
  have hl : pm_len.getD 25 0 = 127 := rfl
  intro m
  induction m with
  | zero =>
    intro i fuel e1 e2
    obtain ⟨f, rfl⟩ : ∃ f, fuel = f + 1 := ⟨fuel - 1, by omega⟩
    have : i = (tk_KW.getD k []).length := by omega
    subst this
    rw [qX9_keyAt_97, pq_char (by decide) (by rw [hl]; exact p3), pz_bds, p2, if_pos (show nI 32 = (32 : Int32) from rfl)]
  | succ m ih =>
    intro i fuel e1 e2
    obtain ⟨f, rfl⟩ : ∃ f, fuel = f + 1 := ⟨fuel - 1, by omega⟩
    obtain ⟨q1, q2⟩ := p1 i (by omega)
    have hch := tk_ch1 25 (by decide) (tk_ps k + i) (by rw [hl]; omega)
    have ne32 : ¬ nI (tk_ch 25 (tk_ps k + i)) = 32 := pc_lit (k := 32) (by omega) (by decide) q2
    rw [qX9_keyAt_97, pq_char (by decide) (by rw [hl]; omega), pz_bds, if_neg ne32, pz_lt, nI_1]
    exact ih (i + 1) f (by omega) (by omega)
theorem tk_no (h : ∀ j, j < 24 → tk_w b st sp ≠ tk_KW.getD j []) : tk_KW.idxOf (tk_w b st sp) = 24 := by
  refine List.idxOf_eq_length (fun hm => ?_)
  obtain ⟨j, hj, e⟩ := List.mem_iff_getElem.mp hm
  have hj' : j < 24 := hj
  refine h j hj' ?_
  rw [← e, List.getD_eq_getElem?_getD, List.getElem?_eq_getElem hj]
  rfl
theorem pg_key4 (t : pg_tx n b σ) (h7 : σ.1 327 7 = nI st) (h8 : σ.1 327 8 = nI sp) (h1 : st ≤ sp) (h2 : sp ≤ n) : ∀ (m k fuel : Nat), k + m = 24 → m < fuel → (∀ j, j < k → tk_w b st sp ≠ tk_KW.getD j []) → (qX9_keyAt_4 fuel (nI k) (nI (tk_ps k)) σ = some (.inl (nI (tk_KW.idxOf (tk_w b st sp))), σ)) ∨ (∃ z, qX9_keyAt_4 fuel (nI k) (nI (tk_ps k)) σ = some (.inr z, σ) ∧ tk_KW.idxOf (tk_w b st sp) = 24) := by
  have n9 := t.1.1
  have hl : pm_len.getD 25 0 = 127 := rfl
  intro m
  induction m with
  | zero =>
    intro k fuel e1 e2 e3
    obtain ⟨f, rfl⟩ : ∃ f, fuel = f + 1 := ⟨fuel - 1, by omega⟩
    have : k = 24 := by omega
    subst this
    refine Or.inr ⟨(nI 24, nI (tk_ps 24)), ?_, tk_no e3⟩
    have q : nI 127 ≤ nI (tk_ps 24) := by decide
    rw [qX9_keyAt_4, pq_len (by decide), hl, pz_bds, if_pos q]
  | succ m ih =>
    intro k fuel e1 e2 e3
    obtain ⟨f, rfl⟩ : ∃ f, fuel = f + 1 := ⟨fuel - 1, by omega⟩
    have hk : k < 24 := by omega
    obtain ⟨p1, p2, p3, p4, p5⟩ := tk_p1 k hk
    obtain ⟨v, v1, v2, v3, v4, v5⟩ := pg_key15 (y1 := nI k) t h7 h8 h1 h2 hk (tk_KW.getD k []).length 0 ps_N (by omega) (by unfold ps_N; omega) (by omega) (fun j hj => by omega)
    have v1' : qX9_keyAt_15 (nI k) (nI (tk_ps k)) ps_N 0 σ = some (nI v, σ) := v1
    have q : ¬ nI 127 ≤ nI (tk_ps k) := nI_ge (by omega) (by omega)
    have nx : ∀ z, tk_w b st sp ≠ tk_KW.getD k [] → (ps_bd (qX9_keyAt_97 (nI k) z ps_N (nI (tk_ps k)) σ) (fun res σ33 => match res with | v34 => ps_let (v34 + 1) fun v35 => ps_let (nI k + 1) fun v36 => qX9_keyAt_4 f v36 v35 σ33) = some (.inl (nI (tk_KW.idxOf (tk_w b st sp))), σ)) ∨ (∃ z', ps_bd (qX9_keyAt_97 (nI k) z ps_N (nI (tk_ps k)) σ) (fun res σ33 => match res with | v34 => ps_let (v34 + 1) fun v35 => ps_let (nI k + 1) fun v36 => qX9_keyAt_4 f v36 v35 σ33) = some (.inr z', σ) ∧ tk_KW.idxOf (tk_w b st sp) = 24) := by
      intro z hne
      have l := pg_key97 (σ := σ) (y1 := nI k) (y3 := z) hk (tk_KW.getD k []).length 0 ps_N (by omega) (by unfold ps_N; omega)
      have l' : qX9_keyAt_97 (nI k) z ps_N (nI (tk_ps k)) σ = some (nI (tk_ps k + (tk_KW.getD k []).length), σ) := l
      rw [l', pz_bds]
      show (qX9_keyAt_4 f (nI k + 1) (nI (tk_ps k + (tk_KW.getD k []).length) + 1) σ = _) ∨ ∃ z', qX9_keyAt_4 f (nI k + 1) (nI (tk_ps k + (tk_KW.getD k []).length) + 1) σ = some (.inr z', σ) ∧ _
      rw [nI_1, nI_1]
      refine ih (k + 1) f (by omega) (by omega) (fun j hj => ?_)
      by_cases e : j = k
      · subst e; exact hne
      · exact e3 j (by omega)
    rw [qX9_keyAt_4, pq_len (by decide), hl, pz_bds, if_neg q, v1', pz_bds]
    have hcv : tk_ps k + v < 127 := by omega
    have hch := tk_ch1 25 (by decide) (tk_ps k + v) (by rw [hl]; exact hcv)
    simp only
    rw [nI_add, pq_char (by decide) (by rw [hl]; exact hcv), pz_bds]
    by_cases cv : v = (tk_KW.getD k []).length
    · have e32 : nI (tk_ch 25 (tk_ps k + v)) = 32 := by rw [cv, p2]; rfl
      rw [if_pos e32, pz_lt, pz_lt, h7, h8, nI_add]
      by_cases cs : st + v = sp
      · have hw : tk_w b st sp = tk_KW.getD k [] := tk_weq.mpr ⟨by omega, fun i hi => v4 i (by omega)⟩
        rw [if_pos (by rw [cs]), hw, p4]
        exact Or.inl rfl
      · rw [if_neg (fun hh => cs ((nI_eq (by omega) (by omega)).mp hh))]
        exact nx (nI v) (fun hw => by
          have := (tk_weq.mp hw).1
          omega)
    · have hlt : v < (tk_KW.getD k []).length := by omega
      have ne32 : ¬ nI (tk_ch 25 (tk_ps k + v)) = 32 := pc_lit (k := 32) (by omega) (by decide) (p1 v hlt).2
      rw [if_neg ne32]
      refine nx (nI v) (fun hw => ?_)
      obtain ⟨w1, w2⟩ := tk_weq.mp hw
      rcases v5 with h | h | h
      · exact cv h
      · omega
      · exact h (w2 v hlt)
theorem pg_key (t : pg_tx n b σ) (h7 : σ.1 327 7 = nI st) (h8 : σ.1 327 8 = nI sp) (h1 : st ≤ sp) (h2 : sp ≤ n) : qX9_keyAt σ = some (nI (tk_KW.idxOf (tk_w b st sp)), σ) := by
  unfold qX9_keyAt
  have h := pg_key4 t h7 h8 h1 h2 24 0 ps_N (by decide) (by unfold ps_N; decide) (fun j hj => by omega)
  rcases h with h | ⟨z, h, e⟩
  · have h' : qX9_keyAt_4 ps_N 0 1 σ = some (.inl (nI (tk_KW.idxOf (tk_w b st sp))), σ) := h
    rw [h', pz_bds]
  · have h' : qX9_keyAt_4 ps_N 0 1 σ = some (.inr z, σ) := h
    rw [h', pz_bds, e]
    rfl
theorem pg_step (t : pg_tx n b σ) (hs : σ.1 327 8 = nI s) (hn : s ≤ n) : ps_ok (qX9_steps σ) (fun _ τ => pg_K n b (tk_st n b s) τ ∧ pf_g σ τ) := by
  have n9 := t.1.1
  unfold qX9_steps
  refine pz_l hs ?_
  rw [pz_lt]
  have a0 := pf_g.I σ (j := 7) (nI s) (by omega)
  have a1 : (ps_rI σ 327 (upd (σ.1 327) 7 (nI s))).1 327 7 = nI s := by rw [ps_rI_at, upd_self]
  generalize ps_rI σ 327 (upd (σ.1 327) 7 (nI s)) = σ1 at a0 a1 ⊢
  refine pz_bd (pg_st8 n9 (n - s) s ps_N σ1 rfl (by unfold ps_N; omega) hn (t.a a0) a1) (fun _ σ2 h2 => ?_)
  obtain ⟨b0, b1⟩ := h2
  have b1' : σ2.1 327 7 = nI (tk_st n b s) := b1
  have hst := tk_st_n (b := b) hn
  generalize tk_st n b s = st at b1' hst ⊢
  refine pz_l b1' ?_
  rw [pz_lt]
  have c0 := (a0.tr b0).tr (pf_g.I σ2 (j := 8) (nI st) (by omega))
  have c7 : (ps_rI σ2 327 (upd (σ2.1 327) 8 (nI st))).1 327 7 = nI st := by rw [ps_rI_at, upd_ne _ _ (by decide)]; exact b1'
  have c8 : (ps_rI σ2 327 (upd (σ2.1 327) 8 (nI st))).1 327 8 = nI st := by rw [ps_rI_at, upd_self]
  generalize ps_rI σ2 327 (upd (σ2.1 327) 8 (nI st)) = σ3 at c0 c7 c8 ⊢
  have t3 := t.a c0
  refine pz_l c7 ?_
  refine pz_l t3.2.1 ?_
  have hspn := tk_sp_n (b := b) hst
  have hsple := tk_sp_le (n := n) (b := b) (st := st)
  by_cases ce : st < n
  · refine pz_t (Int32.not_le.mp (nI_ge ce (by omega))) ?_
    have hb := t.1.2 st ce
    refine pz_l c7 ?_
    refine pz_bd' (pg_see1 t3 ce) ?_
    refine pz_bd' (pg_isLe hb) ?_
    by_cases cl : tk_le (b st) = true
    · have hsp : tk_sp n b st = tk_go tk_le n b (n - st) st := by unfold tk_sp; rw [if_neg (by omega), if_pos cl]
      have hcd : tk_cd n b st = tk_KW.idxOf (tk_w b st (tk_sp n b st)) := by
        unfold tk_cd
        rw [if_neg (by omega), if_pos cl]
      have h24 := tk_KWlen (tk_w b st (tk_sp n b st))
      rw [if_pos cl]
      refine pz_e (by decide) ?_
      refine pz_bd (pg_st89 n9 (n - st) st ps_N σ3 rfl (by unfold ps_N; omega) (by omega) t3 c8) (fun _ σ4 h4 => ?_)
      obtain ⟨d0, d8, d7⟩ := h4
      rw [← hsp] at d8
      refine pz_bd' (pg_key (t.a (c0.tr d0)) (d7.trans c7) d8 hsple hspn) ?_
      rw [pz_lt, ← hcd]
      have g0 := (c0.tr d0).tr (pf_g.I σ4 (j := 10) (nI (tk_cd n b st)) (by omega))
      refine pz_done ⟨⟨t.a g0, ?_, ?_, ?_, fun hh => by omega, hst⟩, g0⟩
      · rw [ps_rI_at, upd_ne _ _ (by decide)]; exact d7.trans c7
      · rw [ps_rI_at, upd_ne _ _ (by decide)]; exact d8
      · rw [ps_rI_at, upd_self]
    · rw [if_neg cl]
      refine pz_t rfl ?_
      refine pz_l c7 ?_
      refine pz_bd' (pg_see1 t3 ce) ?_
      refine pz_bd' (pg_isDi hb) ?_
      by_cases cd : tk_di (b st) = true
      · have hsp : tk_sp n b st = tk_go tk_di n b (n - st) st := by unfold tk_sp; rw [if_neg (by omega), if_neg cl, if_pos cd]
        have hcd : tk_cd n b st = if tk_sp n b st - st ≤ 3 then 25 else 27 := by unfold tk_cd; rw [if_neg (by omega), if_neg cl, if_pos cd]
        rw [if_pos cd]
        refine pz_e (by decide) ?_
        rw [pz_lt]
        have d0 := c0.tr (pf_g.I σ3 (j := 11) 0 (by omega))
        have d7 : (ps_rI σ3 327 (upd (σ3.1 327) 11 0)).1 327 7 = nI st := by rw [ps_rI_at, upd_ne _ _ (by decide)]; exact c7
        have d8 : (ps_rI σ3 327 (upd (σ3.1 327) 11 0)).1 327 8 = nI st := by rw [ps_rI_at, upd_ne _ _ (by decide)]; exact c8
        have d11 : (ps_rI σ3 327 (upd (σ3.1 327) 11 0)).1 327 11 = 0 := by rw [ps_rI_at, upd_self]
        generalize ps_rI σ3 327 (upd (σ3.1 327) 11 0) = σ4 at d0 d7 d8 d11 ⊢
        refine pz_bd (pg_st146 (st := st) n9 (n - st) 0 ps_N σ4 rfl (by unfold ps_N; omega) (by omega) (fun i hi => by omega) (fun _ => d11) (t.a d0) d8 d7) (fun z σ5 h5 => ?_)
        rw [Nat.add_zero, ← hsp] at h5
        obtain ⟨e0, e8, e7, ev⟩ := h5
        refine pz_l e8 ?_
        refine pz_l e7 ?_
        rw [nI_sub hsple]
        have f0 := d0.tr e0
        by_cases c3 : tk_sp n b st - st ≤ 3
        · refine pz_t (nI_le (b := 3) c3 (by decide)) ?_
          rw [pz_lt]
          rw [if_pos c3] at hcd
          have g0 := f0.tr (pf_g.I σ5 (j := 10) 25 (by omega))
          refine pz_done ⟨⟨t.a g0, ?_, ?_, ?_, fun _ => ?_, hst⟩, g0⟩
          · rw [ps_rI_at, upd_ne _ _ (by decide)]; exact e7
          · rw [ps_rI_at, upd_ne _ _ (by decide)]; exact e8
          · rw [ps_rI_at, upd_self, hcd]; rfl
          · rw [ps_rI_at, upd_ne _ _ (by decide)]; exact ev c3
        · refine pz_e (nI_ge (a := 3) (by omega) (by omega)) ?_
          rw [pz_lt]
          rw [if_neg c3] at hcd
          have g0 := f0.tr (pf_g.I σ5 (j := 10) 27 (by omega))
          refine pz_done ⟨⟨t.a g0, ?_, ?_, ?_, fun hh => by omega, hst⟩, g0⟩
          · rw [ps_rI_at, upd_ne _ _ (by decide)]; exact e7
          · rw [ps_rI_at, upd_ne _ _ (by decide)]; exact e8
          · rw [ps_rI_at, upd_self, hcd]; rfl
      · have hsp : tk_sp n b st = st + 1 := by unfold tk_sp; rw [if_neg (by omega), if_neg cl, if_neg cd]
        have hcd : tk_cd n b st = tk_sgn (b st) 12 := by
          unfold tk_cd tk_sgn
          rw [if_neg (by omega), if_neg cl, if_neg cd]
          by_cases q : b st ∈ tk_SG
          · rw [if_pos q, if_pos ⟨q, (tk_sg2 _ hb q).1⟩]
          · rw [if_neg q, if_neg (fun hh => q hh.1)]
        have h25 : tk_sgn (b st) 12 ≠ 25 := by
          unfold tk_sgn
          split <;> omega
        rw [if_neg cd]
        refine pz_t rfl ?_
        refine pz_l c8 ?_
        rw [pz_lt, pz_lt, nI_1]
        have d0 := (c0.tr (pf_g.I σ3 (j := 8) (nI (st + 1)) (by omega))).tr (pf_g.I (ps_rI σ3 327 (upd (σ3.1 327) 8 (nI (st + 1)))) (j := 10) 27 (by omega))
        have d7 : (ps_rI (ps_rI σ3 327 (upd (σ3.1 327) 8 (nI (st + 1)))) 327 (upd ((ps_rI σ3 327 (upd (σ3.1 327) 8 (nI (st + 1)))).1 327) 10 27)).1 327 7 = nI st := by rw [ps_rI_at, upd_ne _ _ (by decide), ps_rI_at, upd_ne _ _ (by decide)]; exact c7
        have d8 : (ps_rI (ps_rI σ3 327 (upd (σ3.1 327) 8 (nI (st + 1)))) 327 (upd ((ps_rI σ3 327 (upd (σ3.1 327) 8 (nI (st + 1)))).1 327) 10 27)).1 327 8 = nI (st + 1) := by rw [ps_rI_at, upd_ne _ _ (by decide), ps_rI_at, upd_self]
        have d10 : (ps_rI (ps_rI σ3 327 (upd (σ3.1 327) 8 (nI (st + 1)))) 327 (upd ((ps_rI σ3 327 (upd (σ3.1 327) 8 (nI (st + 1)))).1 327) 10 27)).1 327 10 = nI (tk_sgn (b st) 0) := by
          rw [ps_rI_at, upd_self]
          unfold tk_sgn
          rw [if_neg (by omega)]
          rfl
        generalize ps_rI (ps_rI σ3 327 (upd (σ3.1 327) 8 (nI (st + 1)))) 327 _ = σ4 at d0 d7 d8 d10 ⊢
        refine pz_bd (pg_st254 ce 12 0 ps_N σ4 (by decide) (by unfold ps_N; decide) (t.a d0) d7 d10) (fun _ σ5 h5 => ?_)
        obtain ⟨e0, e8, e7, e10⟩ := h5
        refine pz_done ⟨⟨t.a (d0.tr e0), e7, by rw [e8, hsp]; exact d8, by rw [e10, hcd], fun hh => absurd (hcd.symm.trans hh) h25, hst⟩, d0.tr e0⟩
  · refine pz_e (Int32.not_lt.mpr (nI_le (by omega) (by omega))) ?_
    have hcd : tk_cd n b st = 26 := by unfold tk_cd; rw [if_pos (by omega)]
    have hsp : tk_sp n b st = st := by unfold tk_sp; rw [if_pos (by omega)]
    rw [pz_lt]
    have g0 := c0.tr (pf_g.I σ3 (j := 10) 26 (by omega))
    refine pz_done ⟨⟨t.a g0, ?_, ?_, ?_, fun hh => by omega, hst⟩, g0⟩
    · rw [ps_rI_at, upd_ne _ _ (by decide)]; exact c7
    · rw [ps_rI_at, upd_ne _ _ (by decide), hsp]; exact c8
    · rw [ps_rI_at, upd_self, hcd]; rfl
end KEY
