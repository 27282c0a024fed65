/-! the class's reader steps -/
theorem tk_KWlen : ∀ w : List Nat, tk_KW.idxOf w ≤ 24 := fun w => List.idxOf_le_length
section ADV
variable {n : Nat} {b : Nat → Nat} {σ τ : ps_S} {s st : Nat}
theorem tk_st_n (h : s ≤ n) : tk_st n b s ≤ n := tk_go_n _ _ h
theorem tk_st_le : s ≤ tk_st n b s := tk_go_le _ _
theorem tk_sp_n (h : st ≤ n) : tk_sp n b st ≤ n := by
  unfold tk_sp
  split
  · exact h
  · split
    · exact tk_go_n _ _ h
    · split
      · exact tk_go_n _ _ h
      · omega
theorem tk_sp_gt (h : st < n) : st < tk_sp n b st := by
  unfold tk_sp
  rw [if_neg (by omega)]
  by_cases c1 : tk_le (b st) = true
  · rw [if_pos c1, tk_go_st h c1]
    have := tk_go_le (p := tk_le) (n := n) (b := b) (n - (st + 1)) (st + 1)
    omega
  · rw [if_neg c1]
    by_cases c2 : tk_di (b st) = true
    · rw [if_pos c2, tk_go_st h c2]
      have := tk_go_le (p := tk_di) (n := n) (b := b) (n - (st + 1)) (st + 1)
      omega
    · rw [if_neg c2]; omega
theorem tk_sp_le : st ≤ tk_sp n b st := by
  by_cases c : st < n
  · have := tk_sp_gt (b := b) c; omega
  · unfold tk_sp
    rw [if_pos (by omega)]
    exact Nat.le_refl _
theorem pc_adv (t : pc_tx n b σ) (hs : σ.1 11 7 = nI s) (hn : s ≤ n) : ps_ok (qX5_advance σ) (fun _ τ => pc_K n b (tk_st n b s) τ ∧ pf_a σ τ) := by
  have n9 := t.1.1
  unfold qX5_advance
  refine pz_l hs ?_
  rw [pz_lt]
  have a0 := pf_a.I σ (j := 6) (nI s) (by omega)
  have a1 : (ps_rI σ 11 (upd (σ.1 11) 6 (nI s))).1 11 6 = nI s := by rw [ps_rI_at, upd_self]
  generalize ps_rI σ 11 (upd (σ.1 11) 6 (nI s)) = σ1 at a0 a1 ⊢
  refine pz_bd (pc_adv10 n9 (n - s) 0 s ps_N σ1 rfl (by omega) (by unfold ps_N; omega) hn (t.a a0) a1) (fun _ σ2 h2 => ?_)
  obtain ⟨b0, b1⟩ := h2
  have b1' : σ2.1 11 6 = nI (tk_st n b s) := b1
  have hst := tk_st_n (b := b) hn
  generalize tk_st n b s = st at b1' hst ⊢
  refine pz_l b1' ?_
  rw [pz_lt]
  have o0 := (a0.tr b0).tr (pf_a.I σ2 (j := 7) (nI st) (by omega))
  have o6 : (ps_rI σ2 11 (upd (σ2.1 11) 7 (nI st))).1 11 6 = nI st := by rw [ps_rI_at, upd_ne _ _ (by decide)]; exact b1'
  have o7 : (ps_rI σ2 11 (upd (σ2.1 11) 7 (nI st))).1 11 7 = nI st := by rw [ps_rI_at, upd_self]
  generalize ps_rI σ2 11 (upd (σ2.1 11) 7 (nI st)) = σo at o0 o6 o7 ⊢
  rw [pz_lt]
  have c0 := o0.tr (pf_a.I σo (j := 8) 0 (by omega))
  have c6 : (ps_rI σo 11 (upd (σo.1 11) 8 0)).1 11 6 = nI st := by rw [ps_rI_at, upd_ne _ _ (by decide)]; exact o6
  have c7 : (ps_rI σo 11 (upd (σo.1 11) 8 0)).1 11 7 = nI st := by rw [ps_rI_at, upd_ne _ _ (by decide)]; exact o7
  have c8 : (ps_rI σo 11 (upd (σo.1 11) 8 0)).1 11 8 = 0 := by rw [ps_rI_at, upd_self]
  generalize ps_rI σo 11 (upd (σo.1 11) 8 0) = σ3 at c0 c6 c7 c8 ⊢
  have t3 := t.a c0
  refine pz_l c6 ?_
  refine pz_l t3.2.1 ?_
  by_cases ce : st < n
  · refine pz_t (Int32.not_le.mp (nI_ge ce (by omega))) ?_
    have hb := t.1.2 st ce
    refine pz_l c6 ?_
    refine pz_rd rfl (by omega) (by decide) (t3.2.2 st ce) ?_
    refine pz_bd' (pc_isLe hb) ?_
    by_cases cl : tk_le (b st) = true
    · have hsp : tk_sp n b st = tk_go tk_le n b (n - st) st := by unfold tk_sp; rw [if_neg (by omega), if_pos cl]
      have hcd : tk_cd n b st ≤ 24 := by
        unfold tk_cd
        rw [if_neg (by omega), if_pos cl]
        exact tk_KWlen _
      rw [if_pos cl]
      refine pz_e (by decide) ?_
      refine pz_l c6 ?_
      refine pz_bd (pc_adv111 n9 (n - st) st ps_N σ3 rfl (by unfold ps_N; omega) (by omega) t3 c7) (fun _ σ5 h5 => ?_)
      obtain ⟨e0, e7, -, e6⟩ := h5
      refine pz_l rfl ?_
      have g0 := (c0.tr e0).tr (pf_a.I σ5 (j := 5) 1 (by omega))
      refine pz_done ⟨⟨t.a g0, ?_, ?_, ?_, fun hh => by omega, by omega⟩, g0⟩
      · rw [ps_rI_at, upd_ne _ _ (by decide), e6]; exact c6
      · rw [ps_rI_at, upd_ne _ _ (by decide), e7, hsp]
      · rw [ps_rI_at, upd_self]
        unfold tk_kd
        rw [if_pos hcd]
    · rw [if_neg cl]
      refine pz_t rfl ?_
      refine pz_l c6 ?_
      refine pz_rd rfl (by omega) (by decide) (t3.2.2 st ce) ?_
      refine pz_bd' (pc_isDi hb) ?_
      by_cases cd : tk_di (b st) = true
      · have hsp : tk_sp n b st = tk_go tk_di n b (n - st) st := by unfold tk_sp; rw [if_neg (by omega), if_neg cl, if_pos cd]
        have hcd : tk_cd n b st = if tk_sp n b st - st ≤ 3 then 25 else 27 := by unfold tk_cd; rw [if_neg (by omega), if_neg cl, if_pos cd]
        have hspn := tk_sp_n (b := b) hst
        have hsple := tk_sp_le (n := n) (b := b) (st := st)
        rw [if_pos cd]
        refine pz_e (by decide) ?_
        refine pz_l c6 ?_
        refine pz_bd (pc_dig7 (st := st) n9 (n - st) 0 ps_N σ3 rfl (by unfold ps_N; omega) (by omega) (fun i hi => by omega) (fun _ => c8.trans rfl) t3 c7) (fun z σ4 h4 => ?_)
        rw [Nat.add_zero, ← hsp] at h4
        obtain ⟨e0, e7, e6, ev⟩ := h4
        refine pz_l e7 ?_
        refine pz_l (e6.trans c6) ?_
        rw [nI_sub hsple]
        have f0 := c0.tr e0
        by_cases c3 : tk_sp n b st - st ≤ 3
        · refine pz_t (nI_le (b := 3) c3 (by decide)) ?_
          rw [pz_lt]
          rw [if_pos c3] at hcd
          have g0 := f0.tr (pf_a.I σ4 (j := 5) 2 (by omega))
          refine pz_done ⟨⟨t.a g0, ?_, ?_, ?_, fun _ => ?_, hst⟩, g0⟩
          · rw [ps_rI_at, upd_ne _ _ (by decide), e6]; exact c6
          · rw [ps_rI_at, upd_ne _ _ (by decide)]; exact e7
          · rw [ps_rI_at, upd_self, hcd]; rfl
          · rw [ps_rI_at, upd_ne _ _ (by decide)]; exact ev c3
        · refine pz_e (nI_ge (a := 3) (by omega) (by omega)) ?_
          rw [pz_lt]
          rw [if_neg c3] at hcd
          have g0 := f0.tr (pf_a.I σ4 (j := 5) 4 (by omega))
          refine pz_done ⟨⟨t.a g0, ?_, ?_, ?_, fun hh => ?_, hst⟩, g0⟩
          · rw [ps_rI_at, upd_ne _ _ (by decide), e6]; exact c6
          · rw [ps_rI_at, upd_ne _ _ (by decide)]; exact e7
          · rw [ps_rI_at, upd_self, hcd]; rfl
          · rw [hcd] at hh; exact absurd hh (by decide)
      · have hsp : tk_sp n b st = st + 1 := by unfold tk_sp; rw [if_neg (by omega), if_neg cl, if_neg cd]
        have hcd : tk_cd n b st = if b st ∈ tk_SG then 30 + tk_SG.idxOf (b st) else 27 := by unfold tk_cd; rw [if_neg (by omega), if_neg cl, if_neg cd]
        rw [if_neg cd]
        refine pz_t rfl ?_
        refine pz_l c6 ?_
        rw [pz_lt, nI_1]
        have d0 := c0.tr (pf_a.I σ3 (j := 7) (nI (st + 1)) (by omega))
        have d6 : (ps_rI σ3 11 (upd (σ3.1 11) 7 (nI (st + 1)))).1 11 6 = nI st := by rw [ps_rI_at, upd_ne _ _ (by decide)]; exact c6
        have d7 : (ps_rI σ3 11 (upd (σ3.1 11) 7 (nI (st + 1)))).1 11 7 = nI (st + 1) := by rw [ps_rI_at, upd_self]
        generalize ps_rI σ3 11 (upd (σ3.1 11) 7 (nI (st + 1))) = σ4 at d0 d6 d7 ⊢
        have t4 := t.a d0
        refine pz_l d6 ?_
        refine pz_rd rfl (by omega) (by decide) (t4.2.2 st ce) ?_
        by_cases cz : b st = 0 ∨ 128 ≤ b st
        · refine pz_t ((tk_sg4 _ hb).mpr cz) ?_
          rw [if_neg (tk_sg5 hb cz)] at hcd
          rw [pz_lt]
          have g0 := d0.tr (pf_a.I σ4 (j := 5) 4 (by omega))
          refine pz_done ⟨⟨t.a g0, ?_, ?_, ?_, fun hh => by omega, hst⟩, g0⟩
          · rw [ps_rI_at, upd_ne _ _ (by decide)]; exact d6
          · rw [ps_rI_at, upd_ne _ _ (by decide), hsp]; exact d7
          · rw [ps_rI_at, upd_self, hcd]; rfl
        · refine pz_e (fun h => cz ((tk_sg4 _ hb).mp h)) ?_
          refine pz_l d6 ?_
          refine pz_rd rfl (by omega) (by decide) (t4.2.2 st ce) ?_
          obtain ⟨v, ev, hv⟩ := pc_ixSg (σ := σ4) hb cz
          refine pz_bd' ev ?_
          by_cases cs : b st ∈ tk_SG
          · rw [if_pos cs] at hcd
            refine pz_e (fun h => hv.mp h cs) ?_
            rw [pz_lt]
            have g0 := d0.tr (pf_a.I σ4 (j := 5) 3 (by omega))
            refine pz_done ⟨⟨t.a g0, ?_, ?_, ?_, fun hh => by omega, hst⟩, g0⟩
            · rw [ps_rI_at, upd_ne _ _ (by decide)]; exact d6
            · rw [ps_rI_at, upd_ne _ _ (by decide), hsp]; exact d7
            · rw [ps_rI_at, upd_self, hcd]
              unfold tk_kd
              rw [if_neg (by omega), if_neg (by omega), if_neg (by omega), if_neg (by omega)]
          · rw [if_neg cs] at hcd
            refine pz_t (hv.mpr cs) ?_
            rw [pz_lt]
            have g0 := d0.tr (pf_a.I σ4 (j := 5) 4 (by omega))
            refine pz_done ⟨⟨t.a g0, ?_, ?_, ?_, fun hh => by omega, hst⟩, g0⟩
            · rw [ps_rI_at, upd_ne _ _ (by decide)]; exact d6
            · rw [ps_rI_at, upd_ne _ _ (by decide), hsp]; exact d7
            · rw [ps_rI_at, upd_self, hcd]; rfl
  · refine pz_e (Int32.not_lt.mpr (nI_le (by omega) (by omega))) ?_
    have hcd : tk_cd n b st = 26 := by unfold tk_cd; rw [if_pos (by omega)]
    have hsp : tk_sp n b st = st := by unfold tk_sp; rw [if_pos (by omega)]
    rw [pz_lt]
    have g0 := c0.tr (pf_a.I σ3 (j := 5) 0 (by omega))
    refine pz_done ⟨⟨t.a g0, ?_, ?_, ?_, fun hh => by omega, hst⟩, g0⟩
    · rw [ps_rI_at, upd_ne _ _ (by decide)]; exact c6
    · rw [ps_rI_at, upd_ne _ _ (by decide), hsp]; exact c7
    · rw [ps_rI_at, upd_self, hcd]; rfl
end ADV
