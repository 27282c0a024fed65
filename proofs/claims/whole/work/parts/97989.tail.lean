/-! what host does with a text that was read -/
theorem ps_and {α : Type} {o : Option (α × ps_S)} {P Q : α → ps_S → Prop} (h : ps_ok o P) (g : ps_ok o Q) : ps_ok o (fun a s => P a s ∧ Q a s) := by
  obtain ⟨x, e, p⟩ := h
  obtain ⟨y, e2, q⟩ := g
  rw [e] at e2
  injection e2 with e2
  subst e2
  exact ⟨x, e, p, q⟩
def pc_htail (σ6 : ps_S) : Option (Int32 × ps_S) := ps_bd (qX2_copyFrom 12 2 σ6) (fun _ s9 => ps_bd (qX0_forgetLaws s9) (fun _ s11 => ps_bd (qX6_begin 26 12 s11) (fun _ s13 => ps_let (ps_rI s13 0 (upd (s13.1 0) 11 0)) fun s14 => ps_let (s14.1 12 10) fun v15 => some (v15, s14))))
theorem pc_told {H : pa_H} {σ : ps_S} (hI : pa_WH H) (w : pc_Wh H 2 σ) : ps_ok (pc_htail σ) (fun v τ => v = H.1 0 ∧ (∃ sp wt, (∀ d, d < 4 → sp d = σ.1 3 d) ∧ (∀ d, d < 6 → wt d = σ.1 8 d) ∧ pc_Ws H 26 τ (sp_x0 H.2.1 H.2.2.2 sp wt)) ∧ pc_Wh H 12 τ ∧ pc_O H.1 τ ∧ (τ.1 0 11 = 0 ∧ ∀ j, j ≠ 11 → τ.1 0 j = σ.1 0 j) ∧ (∀ k, k ≠ 0 → k < 12 ∨ 44 ≤ k → τ.1 k = σ.1 k) ∧ (∀ k, 44 ≤ k → τ.2.2 k = σ.2.2 k) ∧ τ.2.1 = σ.2.1) := by
  unfold pc_htail
  refine pz_bd (ps_and (pc_hcopy hI (B := 12) (B1 := 2) (by omega) w) (pc_hcp (B := 12) (B1 := 2) (by omega))) (fun _ s9 h9 => ?_)
  obtain ⟨⟨u1, v1, v2⟩, z1, _⟩ := h9
  refine pz_bd (pc_forget (h := H.1)) (fun _ s11 h11 => ?_)
  obtain ⟨x1, x2, x3⟩ := h11
  have u2 : pc_Wh H 12 s11 := u1.congr (fun o ho => x1 _ (by omega))
  refine pz_bd (pc_begin (B := 26) hI (by omega) u2) (fun _ s13 h13 => ?_)
  obtain ⟨s, fb⟩ := h13
  rw [pz_lt]
  have b1 : ∀ j, j ≠ 0 → j < 12 ∨ 44 ≤ j → (ps_rI s13 0 (upd (s13.1 0) 11 0)).1 j = σ.1 j := fun j h0 hj => by rw [ps_rI_ne _ _ h0, fb.1 j (by omega), x1 j (by omega), v1 j (by omega)]
  have b2 : ∀ j, 44 ≤ j → (ps_rI s13 0 (upd (s13.1 0) 11 0)).2.2 j = σ.2.2 j := fun j hj => by rw [ps_rI_2, fb.2.2 j (by omega), x2, v2]
  have b3 : (ps_rI s13 0 (upd (s13.1 0) 11 0)).2.1 = σ.2.1 := by rw [ps_rI_2, fb.2.1, x2, v2]
  have b4 : ∀ j, j ≠ 11 → (ps_rI s13 0 (upd (s13.1 0) 11 0)).1 0 j = σ.1 0 j := fun j hj => by rw [ps_rI_at, upd_ne _ _ hj, fb.1 0 (by omega), x1 0 (by decide), v1 0 (by omega)]
  have b5 : (ps_rI s13 0 (upd (s13.1 0) 11 0)).1 0 11 = 0 := by rw [ps_rI_at, upd_self]
  have b6 : ∀ o, o < 9 → (ps_rI s13 0 (upd (s13.1 0) 11 0)).1 (12 + o) = s11.1 (12 + o) := fun o ho => by rw [ps_rI_ne _ _ (by omega), fb.1 _ (by omega)]
  have b7 : ∀ o, o < 18 → (ps_rI s13 0 (upd (s13.1 0) 11 0)).1 (26 + o) = s13.1 (26 + o) := fun o ho => ps_rI_ne _ _ (by omega)
  have b8 : (ps_rI s13 0 (upd (s13.1 0) 11 0)).1 23 = s11.1 23 := by rw [ps_rI_ne _ _ (by decide), fb.1 23 (by omega)]
  have b9 : (ps_rI s13 0 (upd (s13.1 0) 11 0)).1 24 = s11.1 24 := by rw [ps_rI_ne _ _ (by decide), fb.1 24 (by omega)]
  have b10 : (ps_rI s13 0 (upd (s13.1 0) 11 0)).2.2 (26 + 6) = s13.2.2 (26 + 6) := rfl
  generalize ps_rI s13 0 (upd (s13.1 0) 11 0) = τ at b1 b2 b3 b4 b5 b6 b7 b8 b9 b10 ⊢
  have u3 : pc_Wh H 12 τ := u2.congr b6
  refine pz_l (w := H.1 0) u3.1.1.2.2.2.2.2.2.2.2.2.2 (pz_done ⟨rfl, ⟨_, _, fun d hd => ?_, fun d hd => ?_, pc_S.congr s b7 b10⟩, u3, x3.congr b8 b9, ⟨b5, b4⟩, b1, b2, b3⟩)
  · rw [x1 _ (by decide)]
    exact z1 1 d (pc_kQ23 (by omega))
  · rw [x1 _ (by decide)]
    exact z1 6 d (pc_kQ23 (by omega))
def pg_htail (p1 : Int32) (σ26 : ps_S) : Option (Int32 × ps_S) :=
    ps_let (σ26.1 327 12) fun v27 =>
    ps_let (ps_rI σ26 327 (upd (σ26.1 327) 14 v27)) fun σ28 =>
    ps_let (σ28.1 327 12) fun v29 =>
    if v29 = 0 then
    ps_let (ps_rI σ28 327 (upd (σ28.1 327) 15 ((-1)))) fun σ53 =>
    ps_let (σ53.1 327 12) fun v54 =>
    if v54 = 0 then
    ps_bd (qX9_host_132 p1 ps_N 0 σ53) (fun _ σ56 =>
      ps_bd (qX9_host_159 p1 ps_N 0 σ56) (fun _ σ58 =>
        ps_let (σ58.1 328 0) fun v60 =>
        some (v60, σ58)))
    else
    ps_let (σ53.1 327 12) fun v61 =>
    some ((((-30)) - v61), σ53)
    else
    ps_let (σ28.1 327 13) fun v31 =>
    ps_let (ps_rI σ28 327 (upd (σ28.1 327) 15 v31)) fun σ32 =>
    ps_let (σ32.1 327 12) fun v33 =>
    if v33 = 0 then
    ps_bd (qX9_host_132 p1 ps_N 0 σ32) (fun _ σ41 =>
      ps_bd (qX9_host_159 p1 ps_N 0 σ41) (fun _ σ49 =>
        ps_let (σ49.1 328 0) fun v51 =>
        some (v51, σ49)))
    else
    ps_let (σ32.1 327 12) fun v52 =>
    some ((((-30)) - v52), σ32)
theorem ps_bd_as5 {α : Type} {o1 : Option (Unit × ps_S)} {f2 f3 f4 f5 : ps_S → Option (Unit × ps_S)} {K : Unit → ps_S → Option (α × ps_S)} : ps_bd (ps_bd o1 (fun _ s1 => ps_bd (f2 s1) (fun _ s2 => ps_bd (f3 s2) (fun _ s3 => ps_bd (f4 s3) (fun _ s4 => f5 s4))))) K = ps_bd o1 (fun _ s1 => ps_bd (f2 s1) (fun _ s2 => ps_bd (f3 s2) (fun _ s3 => ps_bd (f4 s3) (fun _ s4 => ps_bd (f5 s4) K)))) := by
  rcases o1 with _ | ⟨_, s1⟩
  · rfl
  · show ps_bd (ps_bd (f2 s1) _) K = ps_bd (f2 s1) _
    rcases f2 s1 with _ | ⟨_, s2⟩
    · rfl
    · show ps_bd (ps_bd (f3 s2) _) K = ps_bd (f3 s2) _
      rcases f3 s2 with _ | ⟨_, s3⟩
      · rfl
      · show ps_bd (ps_bd (f4 s3) _) K = ps_bd (f4 s3) _
        rcases f4 s3 with _ | ⟨_, s4⟩
        · rfl
        · rfl
section TAIL
variable {n : Nat} {tp : pa_Tp} {p1 : Int32} {s υ σ : ps_S}
theorem pg_host0 (hn : n ≤ tp.1) (ht : tp.1 ≤ 900 ∧ ∀ j, j < tp.1 → tp.2 j < 256) (q : pg_Wq tp υ) : ∃ τ9, qX9_host (nI n) υ = ps_bd (pg_text (nI n) τ9) (fun _ s => pg_htail (nI n) s) ∧ pg_tx n tp.2 τ9 ∧ τ9.1 327 8 = 0 ∧ τ9.1 327 12 = 0 ∧ τ9.1 327 6 = 0 ∧ (∀ k, k ≠ 327 → τ9.1 k = υ.1 k) ∧ τ9.2 = υ.2 := by
  have h900 := ht.1
  have e6 : (ps_rI υ 327 (upd (υ.1 327) 0 0)).1 327 6 = nI tp.1 := by rw [ps_rI_at, upd_ne _ _ (by decide)]; exact q.1
  refine ⟨ps_rI υ 327 (upd (upd (upd (upd (upd (υ.1 327) 0 0) 9 (nI n)) 6 0) 8 0) 12 0), ?_, ⟨⟨by omega, fun j hj => ht.2 j (by omega)⟩, ?_, fun j hj => ?_⟩, ?_, ?_, ?_, fun k hk => ps_rI_ne _ _ hk, rfl⟩
  · unfold qX9_host
    rw [pz_lt, pz_lt, e6, pg_i1 (lo := 0) (hi := nI tp.1) (by decide) rfl (nI_pos (by omega)) (nI_nlt hn (by omega)), pz_bds, if_neg (by decide), ps_rI_2', ps_rI_at, pz_lt, ps_rI_2', ps_rI_at, pz_lt, ps_rI_2', ps_rI_at, pz_lt, ps_rI_2', ps_rI_at, pz_lt]
    unfold pg_text
    exact (ps_bd_as5 (K := fun _ s => pg_htail (nI n) s)).symm
  · rw [ps_rI_at, upd_ne _ _ (by decide), upd_ne _ _ (by decide), upd_ne _ _ (by decide), upd_self]
  · rw [ps_rI_ne _ _ (by decide)]; exact q.2 j (by omega)
  · rw [ps_rI_at, upd_ne _ _ (by decide), upd_self]
  · rw [ps_rI_at, upd_self]
  · rw [ps_rI_at, upd_ne _ _ (by decide), upd_ne _ _ (by decide), upd_self]
theorem pg_tail0 (h : ¬ s.1 327 12 = 0) : ps_ok (pg_htail p1 s) (fun v υ => v = (-30) - s.1 327 12 ∧ υ.1 327 14 = s.1 327 12 ∧ υ.1 327 15 = s.1 327 13 ∧ (∀ j, j ≠ 14 → j ≠ 15 → υ.1 327 j = s.1 327 j) ∧ (∀ k, k ≠ 327 → υ.1 k = s.1 k) ∧ υ.2 = s.2) := by
  unfold pg_htail
  rw [pz_lt]
  refine pz_nm (fun s1 h1 => ?_)
  have z1 : s1.1 327 12 = s.1 327 12 := by rw [h1, ps_rI_at, upd_ne _ _ (by decide)]
  have z13 : s1.1 327 13 = s.1 327 13 := by rw [h1, ps_rI_at, upd_ne _ _ (by decide)]
  refine pz_l z1 ?_
  refine pz_e h ?_
  refine pz_l z13 ?_
  refine pz_nm (fun s2 h2 => ?_)
  have z2 : s2.1 327 12 = s.1 327 12 := by rw [h2, ps_rI_at, upd_ne _ _ (by decide), z1]
  refine pz_l z2 ?_
  refine pz_e h ?_
  refine pz_l z2 ?_
  refine pz_done ⟨rfl, ?_, ?_, fun j j1 j2 => ?_, fun k hk => ?_, ?_⟩
  · rw [h2, ps_rI_at, upd_ne _ _ (by decide), h1, ps_rI_at, upd_self]
  · rw [h2, ps_rI_at, upd_self]
  · rw [h2, ps_rI_at, upd_ne _ _ j2, h1, ps_rI_at, upd_ne _ _ j1]
  · rw [h2, ps_rI_ne _ _ hk, h1, ps_rI_ne _ _ hk]
  · rw [h2, ps_rI_2, h1, ps_rI_2]
theorem pg_h159 : ∀ (m k fuel : Nat) (τ : ps_S), k + m = 4 → m < fuel → (∀ i, i < k → τ.2.2 329 i = FP.i2d (σ.1 328 (60 + i))) → (∀ i, k ≤ i → τ.2.2 329 i = σ.2.2 329 i) → (τ.1 = σ.1 ∧ τ.2.1 = σ.2.1 ∧ ∀ c, c ≠ 329 → τ.2.2 c = σ.2.2 c) → ps_ok (qX9_host_159 p1 fuel (nI k) τ) (fun _ τ => (∀ i, i < 4 → τ.2.2 329 i = FP.i2d (σ.1 328 (60 + i))) ∧ (∀ i, 4 ≤ i → τ.2.2 329 i = σ.2.2 329 i) ∧ τ.1 = σ.1 ∧ τ.2.1 = σ.2.1 ∧ ∀ c, c ≠ 329 → τ.2.2 c = σ.2.2 c) := by
  intro m
  induction m with
  | zero =>
    intro k fuel τ e1 e2 g g2 f
    obtain ⟨fu, rfl⟩ : ∃ f, fuel = f + 1 := ⟨fuel - 1, by omega⟩
    have : k = 4 := by omega
    subst this
    rw [qX9_host_159]
    exact pz_t (by decide +kernel) (pz_done ⟨g, g2, f⟩)
  | succ m ih =>
    intro k fuel τ e1 e2 g g2 f
    obtain ⟨fu, rfl⟩ : ∃ f, fuel = f + 1 := ⟨fuel - 1, by omega⟩
    rw [qX9_host_159]
    refine pz_e (nI_ge (a := k) (b := 4) (by omega) (by decide)) ?_
    refine pz_rd (k := 60 + k) (v := σ.1 328 (60 + k)) (nI_add 60 k) (by omega) (by decide) (by rw [f.1]) ?_
    refine pz_wrD (k := k) rfl (by omega) (by decide) (fun τ1 et => ?_)
    rw [pz_lt, nI_1]
    refine ih (k + 1) fu τ1 (by omega) (by omega) (fun i hi => ?_) (fun i hi => ?_) ⟨?_, ?_, fun c hc => ?_⟩
    · rw [et, ps_rD_at]
      by_cases c : i = k
      · subst c
        rw [vf_self]
      · rw [vf_ne _ _ c]
        exact g i (by omega)
    · rw [et, ps_rD_at, vf_ne _ _ (by omega)]
      exact g2 i (by omega)
    · rw [et, ps_rD_1]; exact f.1
    · rw [et, ps_rD_21]; exact f.2.1
    · rw [et, ps_rD_ne _ _ hc]; exact f.2.2 c hc
theorem pg_tail1 (h : s.1 327 12 = 0) : ps_ok (pg_htail p1 s) (fun v υ => v = s.1 332 0 ∧ (υ.1 327 14 = 0 ∧ υ.1 327 15 = -1) ∧ (∀ j, j ≠ 14 → j ≠ 15 → υ.1 327 j = s.1 327 j) ∧ (∀ k, k ≠ 327 → k ≠ 328 → υ.1 k = s.1 k) ∧ (∀ j, j < 1850 → υ.1 328 j = s.1 332 j) ∧ (∀ j, 1850 ≤ j → υ.1 328 j = s.1 328 j) ∧ υ.2.1 = s.2.1 ∧ (∀ k, k ≠ 329 → υ.2.2 k = s.2.2 k) ∧ (∀ d, d < 4 → υ.2.2 329 d = FP.i2d (s.1 332 (60 + d))) ∧ (∀ d, 4 ≤ d → υ.2.2 329 d = s.2.2 329 d)) := by
  unfold pg_htail
  refine pz_l h ?_
  refine pz_nm (fun s1 h1 => ?_)
  have z1 : s1.1 327 12 = 0 := by rw [h1, ps_rI_at, upd_ne _ _ (by decide)]; exact h
  refine pz_l z1 ?_
  refine pz_t rfl ?_
  refine pz_nm (fun s2 h2 => ?_)
  have z2 : s2.1 327 12 = 0 := by rw [h2, ps_rI_at, upd_ne _ _ (by decide)]; exact z1
  refine pz_l z2 ?_
  refine pz_t rfl ?_
  have a14 : s2.1 327 14 = 0 := by rw [h2, ps_rI_at, upd_ne _ _ (by decide), h1, ps_rI_at, upd_self]
  have a15 : s2.1 327 15 = -1 := by rw [h2, ps_rI_at, upd_self]
  have aj : ∀ j, j ≠ 14 → j ≠ 15 → s2.1 327 j = s.1 327 j := fun j j1 j2 => by rw [h2, ps_rI_at, upd_ne _ _ j2, h1, ps_rI_at, upd_ne _ _ j1]
  have ak : ∀ k, k ≠ 327 → s2.1 k = s.1 k := fun k hk => by rw [h2, ps_rI_ne _ _ hk, h1, ps_rI_ne _ _ hk]
  have aq : s2.2 = s.2 := by rw [h2, ps_rI_2, h1, ps_rI_2]
  have l1 : qX9_host_132 p1 ps_N 0 s2 = some (nI 1850, ps_rI s2 328 (pz_cp (s2.1 332) (s2.1 328) 0 0 0 1850)) := pz_cpI (F := qX9_host_132 p1) (a := fun _ x => x) (b := fun _ x => x) (fun _ => True) (fun n x σ => rfl) rfl (by decide) (fun σ k _ _ => by rw [Nat.zero_add]) (fun σ k _ _ => by rw [Nat.zero_add]) (by decide) (by decide) (by decide) (by decide) (Or.inl (by decide)) (fun _ _ _ _ _ => trivial) 1850 0 ps_N s2 (by decide) (by unfold ps_N; decide) trivial
  refine pz_bd' l1 ?_
  have c1 : ∀ j, 1850 ≤ j → (ps_rI s2 328 (pz_cp (s2.1 332) (s2.1 328) 0 0 0 1850)).1 328 j = s.1 328 j := fun j hj => by rw [ps_rI_at, pz_cp_out (by omega), ak 328 (by decide)]
  have c2 : ∀ j, j < 1850 → (ps_rI s2 328 (pz_cp (s2.1 332) (s2.1 328) 0 0 0 1850)).1 328 j = s.1 332 j := fun j hj => by
    have := pz_cp_in (s := s2.1 332) (d := s2.1 328) (A := 0) (B := 0) (i := 0) (N := 1850) (k := j) (by omega) hj
    rw [Nat.zero_add] at this
    rw [ps_rI_at, this, ak 332 (by decide)]
  have c3 : ∀ j, j ≠ 328 → (ps_rI s2 328 (pz_cp (s2.1 332) (s2.1 328) 0 0 0 1850)).1 j = s2.1 j := fun j hj => ps_rI_ne _ _ hj
  have c4 : (ps_rI s2 328 (pz_cp (s2.1 332) (s2.1 328) 0 0 0 1850)).2 = s.2 := aq
  generalize ps_rI s2 328 (pz_cp (s2.1 332) (s2.1 328) 0 0 0 1850) = s3 at c1 c2 c3 c4 ⊢
  have e0 : nI 0 = 0 := rfl
  have l2 := pg_h159 (p1 := p1) (σ := s3) 4 0 ps_N s3 (by decide) (by unfold ps_N; decide) (fun i hi => absurd hi (Nat.not_lt_zero _)) (fun i _ => rfl) ⟨rfl, rfl, fun _ _ => rfl⟩
  rw [e0] at l2
  refine pz_bd l2 (fun _ υ hu => ?_)
  obtain ⟨d1, d2, d3, d4, d5⟩ := hu
  refine pz_l (w := s.1 332 0) (by rw [d3]; exact c2 0 (by decide)) (pz_done ⟨rfl, ⟨?_, ?_⟩, fun j j1 j2 => ?_, fun k k1 k2 => ?_, fun j hj => ?_, fun j hj => ?_, ?_, fun k hk => ?_, fun d hd => ?_, fun d hd => ?_⟩)
  · rw [d3, c3 327 (by decide)]; exact a14
  · rw [d3, c3 327 (by decide)]; exact a15
  · rw [d3, c3 327 (by decide)]; exact aj j j1 j2
  · rw [d3, c3 k k2, ak k k1]
  · rw [d3]; exact c2 j hj
  · rw [d3]; exact c1 j hj
  · rw [d4, c4]
  · rw [d5 k hk, c4]
  · rw [d1 d hd, c2 _ (by omega)]
  · rw [d2 d hd, c4]
end TAIL
