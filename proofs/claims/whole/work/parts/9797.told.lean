/-! the host told so far -/
def pr_H0 (D F W : Nat) (σ τ : ps_S) : Prop := (σ.1 2 7 = nI D ∧ τ.1 332 1 = nI D ∧ D ≤ 4) ∧ (σ.1 2 8 = nI F ∧ τ.1 332 2 = nI F ∧ F ≤ 12) ∧ (σ.1 2 9 = nI W ∧ τ.1 332 3 = nI W ∧ W ≤ 6)
def pr_H1 (D F W : Nat) (σ τ : ps_S) : Prop := (∀ d, d < D → ∃ s, s ≤ 999 ∧ σ.1 3 d = nI s ∧ τ.1 332 (60 + d) = nI s) ∧ (∀ f, f < F → ∃ d, d < D ∧ σ.1 5 f = nI d ∧ τ.1 332 (17 + f) = nI d) ∧ (∀ w, w < W → ∃ f d, f < F ∧ d < D ∧ σ.1 6 w = nI f ∧ τ.1 332 (29 + w) = nI f ∧ σ.1 7 w = nI d ∧ τ.1 332 (17 + f) = nI d) ∧ (∀ w, w < W → ∃ v, v ≤ 99 ∧ σ.1 8 w = nI v ∧ τ.1 332 (88 + w) = nI v) ∧ (∀ d, d < 4 → σ.1 4 d = pa_on (τ.1 332) (nI d) W)
def pr_H2 (σ τ : ps_S) : Prop := ∃ li bg ag pa wi ch qu : Nat, (σ.1 2 0 = nI li ∧ τ.1 332 10 = nI li ∧ 1 ≤ li ∧ li ≤ 999) ∧ (σ.1 2 1 = nI bg ∧ τ.1 332 11 = nI bg ∧ bg < li) ∧ (σ.1 2 2 = nI ag ∧ τ.1 332 12 = nI ag ∧ 1 ≤ ag ∧ ag ≤ 999) ∧ (σ.1 2 3 = nI pa ∧ τ.1 332 13 = nI pa ∧ 1 ≤ pa ∧ pa ≤ 999) ∧ (σ.1 2 4 = nI wi ∧ τ.1 332 14 = nI wi ∧ 1 ≤ wi ∧ wi ≤ 999) ∧ (σ.1 2 5 = nI ch ∧ τ.1 332 15 = nI ch ∧ 1 ≤ ch ∧ ch ≤ 99) ∧ (σ.1 2 6 = nI qu ∧ τ.1 332 16 = nI qu ∧ 1 ≤ qu ∧ qu ≤ 99)
def pr_H3 (τ : ps_S) : Prop := ∀ k, 35 ≤ k → k < 949 → ¬ (60 ≤ k ∧ k < 64) → ¬ (88 ≤ k ∧ k < 94) → τ.1 332 k = 0
def pr_LW (cs : List Nat) (σ τ : ps_S) : Prop := ∀ k, k < 2 → (τ.1 332 (4 + k) = 0 ∧ σ.1 9 (2 + 2 * k) = σ.1 9 (3 + 2 * k)) ∨ (τ.1 332 (4 + k) = 1 ∧ ∃ fr many, τ.1 332 (6 + k) = nI fr ∧ τ.1 332 (8 + k) = nI many ∧ σ.1 9 (2 + 2 * k) = nI fr ∧ σ.1 9 (3 + 2 * k) = nI (fr + many) ∧ 1 ≤ many ∧ fr + many ≤ cs.length ∧ pa_tyR (k == 0) ((cs.drop fr).take many) [] = some [false])
def pr_T (D F W ln : Nat) (cs : List Nat) (σ τ : ps_S) : Prop := pr_H0 D F W σ τ ∧ pr_H1 D F W σ τ ∧ pr_H2 σ τ ∧ pr_H3 τ ∧ pr_LW cs σ τ ∧ (σ.1 2 10 = nI ln ∧ τ.1 332 0 = nI ln)
def pl_c (σ σ' : ps_S) : Prop := (∀ k, k < 2 ∨ 12 ≤ k → σ'.1 k = σ.1 k) ∧ σ'.1 11 4 = σ.1 11 4 ∧ σ'.2 = σ.2
def pl_g (τ τ' : ps_S) : Prop := (∀ k, k ≠ 327 → k ≠ 332 → τ'.1 k = τ.1 k) ∧ (∀ j, j < 7 ∨ j = 9 ∨ j = 14 ∨ j = 15 → τ'.1 327 j = τ.1 327 j) ∧ τ'.2 = τ.2
theorem pl_c.rf (σ : ps_S) : pl_c σ σ := ⟨fun _ _ => rfl, rfl, rfl⟩
theorem pl_g.rf (σ : ps_S) : pl_g σ σ := ⟨fun _ _ _ => rfl, fun _ _ => rfl, rfl⟩
theorem pl_c.tr {σ τ υ : ps_S} (h : pl_c σ τ) (g : pl_c τ υ) : pl_c σ υ := ⟨fun k a => (g.1 k a).trans (h.1 k a), g.2.1.trans h.2.1, g.2.2.trans h.2.2⟩
theorem pl_g.tr {σ τ υ : ps_S} (h : pl_g σ τ) (g : pl_g τ υ) : pl_g σ υ := ⟨fun k a b => (g.1 k a b).trans (h.1 k a b), fun j a => (g.2.1 j a).trans (h.2.1 j a), g.2.2.trans h.2.2⟩
theorem pe_c.l {σ τ : ps_S} (h : pe_c σ τ) : pl_c σ τ := ⟨fun k hk => h.1 k (by omega) (by omega) (by omega), h.2.2.1 4 (by omega), h.2.2.2⟩
theorem pe_g.l {σ τ : ps_S} (h : pe_g σ τ) : pl_g σ τ := ⟨h.1, fun j hj => h.2.1 j (by omega), h.2.2.2⟩
theorem pa_on_congr {h h' : pa_R} {d : Int32} : ∀ {W F : Nat}, W ≤ 6 → F ≤ 12 → (∀ k, 17 ≤ k → k < 35 → h' k = h k) → (∀ w, w < W → ∃ f, f < F ∧ h (29 + w) = nI f) → pa_on h' d W = pa_on h d W
  | 0, _, _, _, _, _ => rfl
  | W + 1, F, h1, h2, h3, h4 => by
    obtain ⟨f, f1, f2⟩ := h4 W (by omega)
    rw [pa_on, pa_on, pa_on_congr (by omega) h2 h3 (fun w hw => h4 w (by omega)), h3 (29 + W) (by omega) (by omega), f2, nI_clamp (by omega), h3 (17 + f) (by omega) (by omega)]
section TOLD
variable {D F W ln : Nat} {cs l : List Nat} {σ τ σ' τ' : ps_S}
theorem pr_LW.e (h : pr_LW cs σ τ) (h1 : ∀ j, j ≠ 1 → σ'.1 9 j = σ.1 9 j) (h2 : ∀ j, 4 ≤ j → j < 10 → τ'.1 332 j = τ.1 332 j) : pr_LW (cs ++ l) σ' τ' := by
  intro k hk
  rw [h1 _ (by omega), h1 _ (by omega), h2 _ (by omega) (by omega), h2 _ (by omega) (by omega), h2 _ (by omega) (by omega)]
  rcases h k hk with h | ⟨h, fr, many, a1, a2, a3, a4, a5, a6, a7⟩
  · exact Or.inl h
  · refine Or.inr ⟨h, fr, many, a1, a2, a3, a4, a5, by rw [List.length_append]; omega, ?_⟩
    rw [List.drop_append_of_le_length (by omega), List.take_append_of_le_length (by rw [List.length_drop]; omega)]
    exact a7
theorem pr_T.e (h : pr_T D F W ln cs σ τ) (hc : ∀ k, 2 ≤ k → k < 9 → σ'.1 k = σ.1 k) (h9 : ∀ j, j ≠ 1 → σ'.1 9 j = σ.1 9 j) (hg : ∀ j, j < 949 → τ'.1 332 j = τ.1 332 j) : pr_T D F W ln (cs ++ l) σ' τ' := by
  obtain ⟨⟨a1, a2, a3⟩, ⟨b1, b2, b3, b4, b5⟩, c0, d0, e0, f0⟩ := h
  refine ⟨?_, ⟨?_, ?_, ?_, ?_, ?_⟩, ?_, ?_, e0.e h9 (fun j _ hj => hg j (by omega)), ?_⟩
  · unfold pr_H0
    rw [hc 2 (by decide) (by decide), hg 1 (by decide), hg 2 (by decide), hg 3 (by decide)]
    exact ⟨a1, a2, a3⟩
  · intro d hd
    rw [hc 3 (by decide) (by decide), hg _ (by omega)]
    exact b1 d hd
  · intro d hd
    rw [hc 5 (by decide) (by decide), hg _ (by omega)]
    exact b2 d hd
  · intro d hd
    obtain ⟨f, q, x1, x2, x3, x4, x5, x6⟩ := b3 d hd
    rw [hc 6 (by decide) (by decide), hc 7 (by decide) (by decide), hg _ (by omega)]
    exact ⟨f, q, x1, x2, x3, x4, x5, by rw [hg _ (by omega)]; exact x6⟩
  · intro d hd
    rw [hc 8 (by decide) (by decide), hg _ (by omega)]
    exact b4 d hd
  · intro d hd
    rw [hc 4 (by decide) (by decide), b5 d hd]
    exact (pa_on_congr a3.2.2 a2.2.2 (fun k _ hk => hg k (by omega)) (fun w hw => by
      obtain ⟨f, q, x1, x2, x3, x4, _⟩ := b3 w hw
      exact ⟨f, x1, x4⟩)).symm
  · unfold pr_H2
    rw [hc 2 (by decide) (by decide), hg 10 (by decide), hg 11 (by decide), hg 12 (by decide), hg 13 (by decide), hg 14 (by decide), hg 15 (by decide), hg 16 (by decide)]
    exact c0
  · intro k k1 k2 k3 k4
    rw [hg k k2]
    exact d0 k k1 k2 k3 k4
  · rw [hc 2 (by decide) (by decide), hg 0 (by decide)]
    exact f0
theorem pr_T.pe (h : pr_T D F W ln cs σ τ) (hc : pe_c σ σ') (hg : pe_g τ τ') : pr_T D F W ln cs σ' τ' := by
  have := h.e (l := []) (fun k k1 k2 => hc.1 k (by omega) (by omega) (by omega)) hc.2.1 hg.2.2.1
  rw [List.append_nil] at this
  exact this
theorem pr_T.pel (h : pr_T D F W ln cs σ τ) (hc : pe_c σ σ') (hg : pe_g τ τ') : pr_T D F W ln (cs ++ l) σ' τ' := h.e (fun k k1 k2 => hc.1 k (by omega) (by omega) (by omega)) hc.2.1 hg.2.2.1
end TOLD
