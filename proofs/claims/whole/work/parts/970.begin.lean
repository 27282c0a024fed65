/-! the beginning -/
def sp_f0 (sp wt : pa_R) : pa_R := fun k => if 25 ≤ k ∧ k < 29 then sp (k - 25) else if 53 ≤ k ∧ k < 59 then wt (k - 53) else 0
def sp_x0 (D W : Nat) (sp wt : pa_R) : pa_X := (pa_can D W (sp_f0 sp wt), fun k => if k < D then FP.i2d (sp k) else 0)
theorem sp_x0_1 {D W : Nat} {sp wt : pa_R} : (sp_x0 D W sp wt).1 = pa_can D W (sp_f0 sp wt) := rfl
def pc_bv (sp wt : pa_R) (o i : Nat) : Int32 := if o = 2 then sp i else if o = 10 then -1 else if o = 13 then wt i else 0
def pc_bz (B : Nat) (sp wt : pa_R) (S : List Nat) (σ τ : ps_S) : Prop := (∀ o, o ∈ S → ∀ i, i < pc_ln o → τ.1 (B + o) i = pc_bv sp wt o i) ∧ pc_fb B σ τ
section BGN
variable {B B1 : Nat} {sp wt : pa_R} {S : List Nat} {σ τ : ps_S}
theorem pc_bz.st {o : Nat} {f : pa_R} (g : pc_bz B sp wt S σ τ) (ho : o < 18) (hf : ∀ i, i < pc_ln o → f i = pc_bv sp wt o i) : pc_bz B sp wt (o :: S) σ (ps_rI τ (B + o) f) := by
  refine ⟨fun o' h i hi => ?_, g.2.tr (pc_fb.I _ _ _ ho)⟩
  by_cases c : o' = o
  · subst c
    rw [ps_rI_at]
    exact hf i hi
  · rw [ps_rI_ne _ _ (by omega)]
    refine g.1 o' ?_ i hi
    rcases List.mem_cons.mp h with h | h
    · exact absurd h c
    · exact h
theorem pc_bz.fi {o n : Nat} {v : Int32} (g : pc_bz B sp wt S σ τ) (ho : o < 18) (hn : n = pc_ln o) (hv : ∀ i, pc_bv sp wt o i = v) : pc_bz B sp wt (o :: S) σ (ps_rI τ (B + o) (fun j => if j < n then v else τ.1 (B + o) j)) := g.st ho (fun i hi => by
  show (if i < n then v else _) = _
  rw [if_pos (by omega), hv])
theorem pc_bg58 (hd : B1 + 9 ≤ B ∨ B + 18 ≤ B1) : ∀ (m k fuel : Nat) (τ : ps_S), k + m = 4 → m < fuel → (∀ i, i < k → τ.1 (B + 2) i = σ.1 (B1 + 1) i ∧ τ.2.2 (B + 6) i = FP.i2d (σ.1 (B1 + 1) i)) → (∀ c, c ≠ B + 2 → τ.1 c = σ.1 c) ∧ τ.2.1 = σ.2.1 ∧ (∀ c, c ≠ B + 6 → τ.2.2 c = σ.2.2 c) → ps_ok (qX1_begin_58 B B1 fuel (nI k) τ) (fun _ τ => (∀ i, i < 4 → τ.1 (B + 2) i = σ.1 (B1 + 1) i ∧ τ.2.2 (B + 6) i = FP.i2d (σ.1 (B1 + 1) i)) ∧ (∀ c, c ≠ B + 2 → τ.1 c = σ.1 c) ∧ τ.2.1 = σ.2.1 ∧ (∀ c, c ≠ B + 6 → τ.2.2 c = σ.2.2 c)) := by
  intro m
  induction m with
  | zero =>
    intro k fuel τ e1 e2 g f
    obtain ⟨fu, rfl⟩ : ∃ f, fuel = f + 1 := ⟨fuel - 1, by omega⟩
    have : k = 4 := by omega
    subst this
    rw [qX1_begin_58]
    exact pz_t (by decide +kernel) (pz_done ⟨g, f⟩)
  | succ m ih =>
    intro k fuel τ e1 e2 g f
    obtain ⟨fu, rfl⟩ : ∃ f, fuel = f + 1 := ⟨fuel - 1, by omega⟩
    rw [qX1_begin_58]
    refine pz_e (nI_ge (a := k) (b := 4) (by omega) (by decide)) ?_
    refine pz_rd (k := k) rfl (by omega) (by decide) (by rw [f.1 (B1 + 1) (by omega)]) ?_
    refine pz_wr (k := k) rfl (by omega) (by decide) (fun τ1 et => ?_)
    have h1 : τ1.1 (B1 + 1) k = σ.1 (B1 + 1) k := by rw [et, ps_rI_ne _ _ (by omega), f.1 (B1 + 1) (by omega)]
    refine pz_rd (k := k) rfl (by omega) (by decide) h1 ?_
    refine pz_wrD (k := k) rfl (by omega) (by decide) (fun τ2 eu => ?_)
    rw [pz_lt, nI_1]
    refine ih (k + 1) fu τ2 (by omega) (by omega) (fun i hi => ?_) ⟨fun c hc => ?_, ?_, fun c hc => ?_⟩
    · rw [eu, ps_rD_1, ps_rD_at, et, ps_rI_at]
      by_cases c : i = k
      · subst c
        rw [upd_self, vf_self]
        exact ⟨rfl, rfl⟩
      · rw [upd_ne _ _ c, vf_ne _ _ c]
        exact g i (by omega)
    · rw [eu, ps_rD_1, et, ps_rI_ne _ _ hc]; exact f.1 c hc
    · rw [eu, ps_rD_21, et, ps_rI_2]; exact f.2.1
    · rw [eu, ps_rD_ne _ _ hc, et, ps_rI_2]; exact f.2.2 c hc
theorem pc_begin1 (hd : B1 + 9 ≤ B ∨ B + 18 ≤ B1) (hs : σ.1 (B1 + 1) = sp) (hw : σ.1 (B1 + 6) = wt) : ps_ok (qX6_begin B B1 σ) (fun _ τ => (∀ o, 2 ≤ o → o < 18 → o ≠ 6 → ∀ i, i < pc_ln o → τ.1 (B + o) i = pc_bv sp wt o i) ∧ (∀ i, i < 4 → τ.2.2 (B + 6) i = FP.i2d (sp i)) ∧ (τ.1 B 8 = 0 ∧ τ.1 B 9 = 0 ∧ τ.1 B 10 = σ.1 B1 0 ∧ τ.1 B 11 = -1 ∧ τ.1 B 12 = -1 ∧ τ.1 B 13 = 0) ∧ pc_fb B σ τ) := by
  have g0 : pc_bz B sp wt [] σ σ := ⟨fun o h => absurd h List.not_mem_nil, pc_fb.rf _ _⟩
  unfold qX6_begin qX1_begin
  rw [pz_fi (by decide), pz_bds]
  have g1 := g0.fi (o := 3) (n := 4) (v := 0) (by decide) (by decide) (fun i => rfl)
  generalize ps_rI σ (B + 3) _ = σ1 at g1 ⊢
  rw [pz_fi (by decide), pz_bds]
  have g2 := g1.fi (o := 4) (n := 4) (v := 0) (by decide) (by decide) (fun i => rfl)
  generalize ps_rI σ1 (B + 4) _ = σ2 at g2 ⊢
  rw [pz_fi (by decide), pz_bds]
  have g3 := g2.fi (o := 5) (n := 4) (v := 0) (by decide) (by decide) (fun i => rfl)
  generalize ps_rI σ2 (B + 5) _ = σ3 at g3 ⊢
  rw [pz_fi (by decide), pz_bds]
  have g4 := g3.fi (o := 7) (n := 4) (v := 0) (by decide) (by decide) (fun i => rfl)
  generalize ps_rI σ3 (B + 7) _ = σ4 at g4 ⊢
  rw [pz_fi (by decide), pz_bds]
  have g5 := g4.fi (o := 8) (n := 4) (v := 0) (by decide) (by decide) (fun i => rfl)
  generalize ps_rI σ4 (B + 8) _ = σ5 at g5 ⊢
  rw [pz_fi (by decide), pz_bds]
  have g6 := g5.fi (o := 9) (n := 4) (v := 0) (by decide) (by decide) (fun i => rfl)
  generalize ps_rI σ5 (B + 9) _ = σ6 at g6 ⊢
  rw [pz_fi (by decide), pz_bds]
  have g7 := g6.fi (o := 10) (n := 4) (v := -1) (by decide) (by decide) (fun i => rfl)
  generalize ps_rI σ6 (B + 10) _ = σ7 at g7 ⊢
  have l := pc_bg58 (B := B) (B1 := B1) (σ := σ7) hd 4 0 ps_N σ7 (by decide) (by unfold ps_N; decide) (fun i hi => absurd hi (by omega)) ⟨fun _ _ => rfl, rfl, fun _ _ => rfl⟩
  refine pz_bd (Q := fun _ τ => (∀ i, i < 4 → τ.1 (B + 2) i = σ7.1 (B1 + 1) i ∧ τ.2.2 (B + 6) i = FP.i2d (σ7.1 (B1 + 1) i)) ∧ (∀ c, c ≠ B + 2 → τ.1 c = σ7.1 c) ∧ τ.2.1 = σ7.2.1 ∧ (∀ c, c ≠ B + 6 → τ.2.2 c = σ7.2.2 c)) (pz_bd l (fun _ τ ht => pz_done ht)) (fun _ σ8 h8 => ?_)
  obtain ⟨a1, a2, a3, a4⟩ := h8
  have e1 : σ7.1 (B1 + 1) = sp := by rw [g7.2.1 _ (by omega)]; exact hs
  have fb8 : pc_fb B σ σ8 := g7.2.tr ⟨fun k hk => a2 k (by omega), a3, fun k hk => a4 k (by omega)⟩
  have g8 : pc_bz B sp wt [2, 10, 9, 8, 7, 5, 4, 3] σ σ8 := by
    refine ⟨fun o h i hi => ?_, fb8⟩
    by_cases c : o = 2
    · subst c
      rw [(a1 i hi).1, e1]
      rfl
    · rw [a2 _ (by omega)]
      refine g7.1 o ?_ i hi
      rcases List.mem_cons.mp h with h | h
      · exact absurd h c
      · exact h
  have d8 : ∀ i, i < 4 → σ8.2.2 (B + 6) i = FP.i2d (sp i) := fun i hi => by rw [(a1 i hi).2, e1]
  rw [pz_fi (by decide), pz_bds]
  have g9 := g8.fi (o := 11) (n := 12) (v := 0) (by decide) (by decide) (fun i => rfl)
  have d9 : ∀ i, i < 4 → (ps_rI σ8 (B + 11) (fun j => if j < 12 then 0 else σ8.1 (B + 11) j)).2.2 (B + 6) i = FP.i2d (sp i) := d8
  generalize ps_rI σ8 (B + 11) _ = σ9 at g9 d9 ⊢
  rw [pz_fi (by decide), pz_bds]
  have g10 := g9.fi (o := 12) (n := 12) (v := 0) (by decide) (by decide) (fun i => rfl)
  have d10 : ∀ i, i < 4 → (ps_rI σ9 (B + 12) (fun j => if j < 12 then 0 else σ9.1 (B + 12) j)).2.2 (B + 6) i = FP.i2d (sp i) := d9
  generalize ps_rI σ9 (B + 12) _ = σ10 at g10 d10 ⊢
  rw [pz_lt]
  have g11 : pc_bz B sp wt (13 :: _) σ (ps_rI σ10 (B + 13) (va_cpy (σ10.1 (B1 + 6)) (σ10.1 (B + 13)) 0 0 6)) := g10.st (by decide) (fun i hi => by
    rw [va_cpy_in (show i < 6 from hi), g10.2.1 _ (by omega), hw]
    rfl)
  have d11 : ∀ i, i < 4 → (ps_rI σ10 (B + 13) (va_cpy (σ10.1 (B1 + 6)) (σ10.1 (B + 13)) 0 0 6)).2.2 (B + 6) i = FP.i2d (sp i) := d10
  generalize ps_rI σ10 (B + 13) _ = σ11 at g11 d11 ⊢
  rw [pz_fi (by decide), pz_bds]
  have g12 := g11.fi (o := 14) (n := 6) (v := 0) (by decide) (by decide) (fun i => rfl)
  have d12 : ∀ i, i < 4 → (ps_rI σ11 (B + 14) (fun j => if j < 6 then 0 else σ11.1 (B + 14) j)).2.2 (B + 6) i = FP.i2d (sp i) := d11
  generalize ps_rI σ11 (B + 14) _ = σ12 at g12 d12 ⊢
  rw [pz_fi (by decide), pz_bds]
  have g13 := g12.fi (o := 15) (n := 6) (v := 0) (by decide) (by decide) (fun i => rfl)
  have d13 : ∀ i, i < 4 → (ps_rI σ12 (B + 15) (fun j => if j < 6 then 0 else σ12.1 (B + 15) j)).2.2 (B + 6) i = FP.i2d (sp i) := d12
  generalize ps_rI σ12 (B + 15) _ = σ13 at g13 d13 ⊢
  rw [pz_fi (by decide), pz_bds]
  have g14 := g13.fi (o := 16) (n := 6) (v := 0) (by decide) (by decide) (fun i => rfl)
  have d14 : ∀ i, i < 4 → (ps_rI σ13 (B + 16) (fun j => if j < 6 then 0 else σ13.1 (B + 16) j)).2.2 (B + 6) i = FP.i2d (sp i) := d13
  generalize ps_rI σ13 (B + 16) _ = σ14 at g14 d14 ⊢
  rw [pz_fi (by decide), pz_bds]
  have g15 := g14.fi (o := 17) (n := 6) (v := 0) (by decide) (by decide) (fun i => rfl)
  have d15 : ∀ i, i < 4 → (ps_rI σ14 (B + 17) (fun j => if j < 6 then 0 else σ14.1 (B + 17) j)).2.2 (B + 6) i = FP.i2d (sp i) := d14
  generalize ps_rI σ14 (B + 17) _ = σ15 at g15 d15 ⊢
  have hB0 : ∀ {υ : ps_S}, pc_fb B σ υ → υ.1 B1 0 = σ.1 B1 0 := fun h => by rw [h.1 B1 (by omega)]
  rw [pz_lt, pz_lt, ps_rI_2', pz_lt, pz_lt, ps_rI_2', pz_lt, ps_rI_2', pz_lt, ps_rI_2', pz_lt, ps_rI_2']
  have hm : ∀ o, o < 18 → 2 ≤ o → o ≠ 6 → o ∈ [17, 16, 15, 14, 13, 12, 11, 2, 10, 9, 8, 7, 5, 4, 3] := by decide +kernel
  have fB : ∀ f : pa_R, pc_fb B σ15 (ps_rI σ15 B f) := fun f => pc_fb.I (B := B) σ15 0 f (by decide)
  refine pz_done ⟨fun o h1 h2 h3 i hi => ?_, fun i hi => d15 i hi, ⟨?_, ?_, ?_, ?_, ?_, ?_⟩, g15.2.tr (fB _)⟩
  · rw [ps_rI_ne _ _ (by omega)]
    exact g15.1 o (hm o h2 h1 h3) i hi
  · simp only [ps_rI_at, upd_self, upd_ne _ _ (show (8:Nat) ≠ 9 by decide), upd_ne _ _ (show (8:Nat) ≠ 10 by decide), upd_ne _ _ (show (8:Nat) ≠ 11 by decide), upd_ne _ _ (show (8:Nat) ≠ 12 by decide), upd_ne _ _ (show (8:Nat) ≠ 13 by decide)]
  · simp only [ps_rI_at, upd_self, upd_ne _ _ (show (9:Nat) ≠ 10 by decide), upd_ne _ _ (show (9:Nat) ≠ 11 by decide), upd_ne _ _ (show (9:Nat) ≠ 12 by decide), upd_ne _ _ (show (9:Nat) ≠ 13 by decide)]
  · simp only [ps_rI_at, upd_self, upd_ne _ _ (show (10:Nat) ≠ 11 by decide), upd_ne _ _ (show (10:Nat) ≠ 12 by decide), upd_ne _ _ (show (10:Nat) ≠ 13 by decide)]
    rw [ps_rI_ne _ _ (by omega)]
    exact hB0 g15.2
  · simp only [ps_rI_at, upd_self, upd_ne _ _ (show (11:Nat) ≠ 12 by decide), upd_ne _ _ (show (11:Nat) ≠ 13 by decide)]
  · simp only [ps_rI_at, upd_self, upd_ne _ _ (show (12:Nat) ≠ 13 by decide)]
  · simp only [ps_rI_at, upd_self]
end BGN
theorem pc_k0a : ∀ d, d < 4 → pc_lo (25 + d) = 2 ∧ pc_ix (25 + d) = d := by decide +kernel
theorem pc_k0b : ∀ d, d < 6 → pc_lo (53 + d) = 13 ∧ pc_ix (53 + d) = d := by decide +kernel
theorem pc_k0c : ∀ d, d < 4 → pc_lo (41 + d) = 10 := by decide +kernel
theorem pc_k0d : ∀ k, k < 83 → pc_lo k = 2 → 25 ≤ k ∧ k < 29 := by decide +kernel
theorem pc_k0e : ∀ k, k < 83 → pc_lo k = 13 → 53 ≤ k ∧ k < 59 := by decide +kernel
theorem pc_k0f : ∀ k, k < 83 → pc_lo k = 10 → 41 ≤ k ∧ k < 45 := by decide +kernel
theorem pc_k0 (k : Nat) (hk : k < 83) : (25 ≤ k ∧ k < 29 ∧ pc_lo k = 2 ∧ pc_ix k = k - 25 ∧ ¬ (41 ≤ k ∧ k < 45)) ∨ (53 ≤ k ∧ k < 59 ∧ pc_lo k = 13 ∧ pc_ix k = k - 53 ∧ ¬ (41 ≤ k ∧ k < 45)) ∨ (41 ≤ k ∧ k < 45 ∧ pc_lo k = 10) ∨ (¬ (25 ≤ k ∧ k < 29) ∧ ¬ (53 ≤ k ∧ k < 59) ∧ pc_lo k ≠ 2 ∧ pc_lo k ≠ 10 ∧ pc_lo k ≠ 13 ∧ ¬ (41 ≤ k ∧ k < 45)) := by
  by_cases c1 : 25 ≤ k ∧ k < 29
  · obtain ⟨d, rfl⟩ : ∃ d, k = 25 + d := ⟨k - 25, by omega⟩
    have := pc_k0a d (by omega)
    exact Or.inl ⟨by omega, by omega, this.1, by omega, by omega⟩
  by_cases c2 : 53 ≤ k ∧ k < 59
  · obtain ⟨d, rfl⟩ : ∃ d, k = 53 + d := ⟨k - 53, by omega⟩
    have := pc_k0b d (by omega)
    exact Or.inr (Or.inl ⟨by omega, by omega, this.1, by omega, by omega⟩)
  by_cases c3 : 41 ≤ k ∧ k < 45
  · obtain ⟨d, rfl⟩ : ∃ d, k = 41 + d := ⟨k - 41, by omega⟩
    exact Or.inr (Or.inr (Or.inl ⟨c3.1, c3.2, pc_k0c d (by omega)⟩))
  · exact Or.inr (Or.inr (Or.inr ⟨c1, c2, fun h => c1 (pc_k0d k hk h), fun h => c3 (pc_k0f k hk h), fun h => c2 (pc_k0e k hk h), c3⟩))
theorem sp_x0_0 {D W : Nat} {sp wt : pa_R} {k : Nat} (h1 : ¬ (25 ≤ k ∧ k < 29)) (h2 : ¬ (53 ≤ k ∧ k < 59)) : (sp_x0 D W sp wt).1 k = 0 := by
  rw [sp_x0_1]
  unfold pa_can sp_f0
  show (if k < 83 then (if 25 + D ≤ k ∧ k < 29 then (0 : Int32) else if 53 + W ≤ k ∧ k < 59 then 0 else (if 25 ≤ k ∧ k < 29 then sp (k - 25) else if 53 ≤ k ∧ k < 59 then wt (k - 53) else 0)) else 0) = 0
  rw [if_neg h1, if_neg h2]
  split
  · split
    · rfl
    · split <;> rfl
  · rfl
theorem sp_x0_s {D W : Nat} {sp wt : pa_R} {d : Nat} (hd : d < D) (hD : D ≤ 4) : (sp_x0 D W sp wt).1 (25 + d) = sp d := by
  rw [sp_x0_1, pa_can_at ⟨by omega, by omega, by omega⟩]
  unfold sp_f0
  rw [if_pos (by omega), Nat.add_sub_cancel_left]
theorem sp_x0_w {D W : Nat} {sp wt : pa_R} {d : Nat} (hd : d < W) (hD : W ≤ 6) : (sp_x0 D W sp wt).1 (53 + d) = wt d := by
  rw [sp_x0_1, pa_can_at ⟨by omega, by omega, by omega⟩]
  unfold sp_f0
  rw [if_neg (by omega), if_pos (by omega), Nat.add_sub_cancel_left]
theorem sp_x0_sum {D W : Nat} {sp wt : pa_R} : pa_sum (sp_x0 D W sp wt).1 1 12 = 0 ∧ pa_sum (sp_x0 D W sp wt).1 29 4 = 0 ∧ pa_sN (sp_x0 D W sp wt).1 1 12 = 0 ∧ pa_sN (sp_x0 D W sp wt).1 29 4 = 0 := by
  have z : ∀ a n, (∀ i, i < n → ¬ (25 ≤ a + i ∧ a + i < 29) ∧ ¬ (53 ≤ a + i ∧ a + i < 59)) → pa_sum (sp_x0 D W sp wt).1 a n = 0 ∧ pa_sN (sp_x0 D W sp wt).1 a n = 0 := by
    intro a n
    induction n with
    | zero => intro _; exact ⟨rfl, rfl⟩
    | succ n ih =>
      intro h
      obtain ⟨i1, i2⟩ := ih (fun i hi => h i (by omega))
      obtain ⟨j1, j2⟩ := h n (by omega)
      rw [pa_sum, pa_sN, i1, i2]
      unfold pa_N
      rw [sp_x0_0 j1 j2]
      exact ⟨rfl, rfl⟩
  obtain ⟨a1, a2⟩ := z 1 12 (fun i hi => by omega)
  obtain ⟨b1, b2⟩ := z 29 4 (fun i hi => by omega)
  exact ⟨a1, b1, a2, b2⟩
theorem sp_x0_don {D W : Nat} {sp wt h : pa_R} {d : Int32} : ∀ n, n ≤ 12 → pa_don h (sp_x0 D W sp wt).1 d n = 0
  | 0, _ => rfl
  | n + 1, hn => by
    rw [pa_don, sp_x0_don n (by omega), sp_x0_0 (by omega) (by omega)]
    split <;> rfl
/-- the class begins -/
theorem pc_begin {B B1 : Nat} {H : pa_H} {σ : ps_S} (hI : pa_WH H) (hd : B1 + 9 ≤ B ∨ B + 18 ≤ B1) (w : pc_Wh H B1 σ) : ps_ok (qX6_begin B B1 σ) (fun _ τ => pc_Ws H B τ (sp_x0 H.2.1 H.2.2.2 (σ.1 (B1 + 1)) (σ.1 (B1 + 6))) ∧ pc_fb B σ τ) := by
  refine pz_im (pc_begin1 hd rfl rfl) (fun _ τ h => ?_)
  obtain ⟨h1, h2, ⟨a1, a2, a3, a4, a5, a6⟩, fb⟩ := h
  refine ⟨⟨?_, ?_, ?_, ?_, ?_, ?_, ?_, ?_⟩, fb⟩
  · rw [sp_x0_1]
    unfold pc_r
    refine pa_can_ext (fun k hk => ?_)
    unfold pc_f sp_f0
    by_cases c : k = 0
    · subst c
      show τ.1 B 8 + 0 = 0
      rw [a1]; rfl
    · have h83 := pc_k83 k hk
      rcases h83 with ⟨b1, b2⟩ | ⟨b1, b2, b3, b4, b5⟩
      · have : ∀ k, k < 83 → k ≠ 0 → pc_lo k ≠ 0 := by decide +kernel
        exact absurd b1 (this k hk c)
      · rw [h1 _ b1 b2 b3 _ b5]
        rcases pc_k0 k hk with ⟨c1, c2, c3, c4, c5⟩ | ⟨c1, c2, c3, c4, c5⟩ | ⟨c1, c2, c3⟩ | ⟨c1, c2, c3, c4, c5, c6⟩
        · unfold pc_p
          rw [if_neg c5, if_pos (show 25 ≤ k ∧ k < 29 from ⟨c1, c2⟩), c3, c4, Int32.add_zero]
          rfl
        · unfold pc_p
          rw [if_neg c5, if_neg (by omega : ¬ (25 ≤ k ∧ k < 29)), if_pos (show 53 ≤ k ∧ k < 59 from ⟨c1, c2⟩), c3, c4, Int32.add_zero]
          rfl
        · unfold pc_p pc_bv
          rw [if_neg (by omega : ¬ (25 ≤ k ∧ k < 29)), if_neg (by omega : ¬ (53 ≤ k ∧ k < 59)), c3, if_pos (show 41 ≤ k ∧ k < 45 from ⟨c1, c2⟩), if_neg (by decide), if_pos rfl]
          decide
        · unfold pc_p
          rw [if_neg c1, if_neg c2, if_neg c6]
          unfold pc_bv
          rw [if_neg c3, if_neg c4, if_neg c5]
          rfl
  · unfold sp_x0 pc_e
    funext k
    show (if k < H.2.1 then _ else _) = if k < H.2.1 then _ else _
    by_cases c : k < H.2.1
    · have := hI.1.1.2
      rw [if_pos c, if_pos c, h2 k (by omega)]
    · rw [if_neg c, if_neg c]
  · rw [a2]
    unfold pa_all
    rw [sp_x0_sum.1, sp_x0_sum.2.1]
    rfl
  · intro d hd
    rw [h1 4 (by decide) (by decide) (by decide) d hd, sp_x0_don _ (by have := hI.1.2.1.2; omega)]
    rfl
  · rw [a3]; exact w.1.1.1
  · exact a4
  · exact a5
  · exact a6
theorem pf_E0 {n : Nat} (hn : n ≤ 999) : pf_E (FP.i2d (nI n)) 1024 := by
  refine ⟨pf_fin (pf_i2d _) (by omega), ?_, ?_⟩
  · rw [pf_zi, nI_toInt (by omega)]
    exact Int.mul_nonneg (by omega) (Int.le_of_lt pf_Upos)
  · rw [pf_zi, nI_toInt (by omega)]
    exact Int.mul_le_mul_of_nonneg_right (by omega) (Int.le_of_lt pf_Upos)
theorem sp_x0_IV {H : pa_H} {sp wt : pa_R} (hI : pa_WH H) (hs : ∀ d, d < H.2.1 → ∃ n, n ≤ 999 ∧ sp d = nI n) (hw : ∀ d, d < H.2.2.2 → ∃ n, n ≤ 99 ∧ wt d = nI n) : pa_IV H.1 H.2.1 H.2.2.1 H.2.2.2 0 (sp_x0 H.2.1 H.2.2.2 sp wt) := by
  have hD := hI.1.1.2
  have hW := hI.1.2.2.1.2
  have n0 : pa_NN 0 := by unfold pa_NN; decide
  have z : ∀ k, ¬ (25 ≤ k ∧ k < 29) → ¬ (53 ≤ k ∧ k < 59) → (sp_x0 H.2.1 H.2.2.2 sp wt).1 k = 0 := fun k h1 h2 => sp_x0_0 h1 h2
  have ib : ∀ a n N, (∀ i, i < n → ¬ (25 ≤ a + i ∧ a + i < 29) ∧ ¬ (53 ≤ a + i ∧ a + i < 59)) → pa_IB (sp_x0 H.2.1 H.2.2.2 sp wt).1 a n N := fun a n N h i hi => by
    unfold pa_N
    rw [z _ (h i hi).1 (h i hi).2]
    exact ⟨n0, Nat.zero_le _⟩
  refine ⟨⟨⟨fun f hf => ?_, fun d hd => ?_, ?_, fun f h1 h2 => ?_, fun d h1 h2 => ?_⟩, fun d hd => ?_, fun d hd => ?_, fun d hd => ?_, fun v hv => ?_⟩, ?_, fun d hd => ?_, ib _ _ _ (fun i hi => by omega), ib _ _ _ (fun i hi => by omega), ib _ _ _ (fun i hi => by omega), ib _ _ _ (fun i hi => by omega), fun d hd => ?_⟩
  · rw [z _ (by omega) (by omega)]; exact n0
  · rw [z _ (by omega) (by omega)]; exact n0
  · rw [sp_x0_sum.2.2.1, sp_x0_sum.2.2.2]; decide
  · exact z _ (by omega) (by omega)
  · exact z _ (by omega) (by omega)
  · rw [z _ (by omega) (by omega)]; exact ⟨n0, by decide⟩
  · rw [z _ (by omega) (by omega)]; exact ⟨n0, by decide⟩
  · rw [sp_x0_s hd hD]; exact hs d hd
  · rw [sp_x0_w hv hW]; exact hw v hv
  · exact z 0 (by omega) (by omega)
  · unfold pa_N
    rw [z _ (by omega) (by omega)]
    exact ⟨n0, by decide, fun _ => rfl⟩
  · obtain ⟨n, hn, e⟩ := hs d hd
    show pf_E (if d < H.2.1 then FP.i2d (sp d) else 0) _
    rw [if_pos hd, e]
    exact (pf_E0 hn).mono (by omega)
