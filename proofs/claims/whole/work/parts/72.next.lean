/-! which file is next: the old ones, those in turn -/
def pa_old (h r : pa_R) (d : Int32) : Int32 → Nat → Nat → Int32
  | b, _, 0 => b
  | b, k, m + 1 => pa_old h r d (if h (17 + k) = d then (if r (1 + k) ≤ 0 then b else if r 0 - r (13 + k) < h 12 then b else if b = -1 then nI k else if r (13 + b.toNatClampNeg) ≤ r (13 + k) then b else nI k) else b) (k + 1) m
/-- found so far: none, or a file ahead of k, of this device, with pages -/
def pa_oldI (h r : pa_R) (d b : Int32) (k : Nat) : Prop := b = -1 ∨ ∃ j, j < k ∧ b = nI j ∧ h (17 + j) = d ∧ 0 < r (1 + j)
theorem nI_m1 {j : Nat} (h : j < 2 ^ 31) : ¬ nI j = -1 := by
  intro e
  have h1 := nI_toInt h
  rw [e] at h1
  have : ((-1 : Int32).toInt) = -1 := by decide
  omega
theorem pa_oldS {h r : pa_R} {d b : Int32} {k : Nat} (hb : pa_oldI h r d b k) : pa_oldI h r d (if h (17 + k) = d then (if r (1 + k) ≤ 0 then b else if r 0 - r (13 + k) < h 12 then b else if b = -1 then nI k else if r (13 + b.toNatClampNeg) ≤ r (13 + k) then b else nI k) else b) (k + 1) := by
  have up : pa_oldI h r d b (k + 1) := by
    rcases hb with e | ⟨j, h1, h2⟩
    · exact Or.inl e
    · exact Or.inr ⟨j, by omega, h2⟩
  by_cases c1 : h (17 + k) = d
  · rw [if_pos c1]
    by_cases c2 : r (1 + k) ≤ 0
    · rw [if_pos c2]; exact up
    · have me : pa_oldI h r d (nI k) (k + 1) := Or.inr ⟨k, by omega, rfl, c1, Int32.not_le.mp c2⟩
      rw [if_neg c2]
      by_cases c3 : r 0 - r (13 + k) < h 12
      · rw [if_pos c3]; exact up
      · rw [if_neg c3]
        by_cases c4 : b = -1
        · rw [if_pos c4]; exact me
        · rw [if_neg c4]
          by_cases c5 : r (13 + b.toNatClampNeg) ≤ r (13 + k)
          · rw [if_pos c5]; exact up
          · rw [if_neg c5]; exact me
  · rw [if_neg c1]; exact up
theorem pa_oldE {h r : pa_R} {d : Int32} : ∀ (m k : Nat) (b : Int32), pa_oldI h r d b k → pa_oldI h r d (pa_old h r d b k m) (k + m)
  | 0, _, _, hb => hb
  | m + 1, k, b, hb => by
    have := pa_oldE m (k + 1) _ (pa_oldS hb)
    rw [show k + 1 + m = k + (m + 1) by omega] at this
    exact this
theorem pg_isOld {D W f : Nat} (hf : f < 12) (σ : ps_S) : qX9_isOld (nI f) σ = some (if pg_r D W σ (1 + f) ≤ 0 then 0 else if pg_r D W σ 0 - pg_r D W σ (13 + f) < pg_h σ 12 then 0 else 1, σ) := by
  unfold qX9_isOld
  rw [pg_rd (by omega) (by omega) (by omega), pg_rd (by omega) (by omega) (by omega), pg_rd (by omega) (by omega) (by omega), pg_hd (by omega)]
  simp (disch := omega) only [ps_let, pz_a1, pz_a13, pz_ini, nI_clamp, if_true]
  by_cases c1 : σ.1 335 (1 + f) ≤ 0
  · rw [if_pos c1, if_pos c1]
  · rw [if_neg c1, if_neg c1]
    by_cases c2 : σ.1 335 0 - σ.1 335 (13 + f) < σ.1 328 12
    · rw [if_pos c2, if_pos c2]
    · rw [if_neg c2, if_neg c2]
theorem pg_oldL {D F W : Nat} {σ : ps_S} (hI : pa_HI (pg_h σ) D F W) (d : Int32) : ∀ (m k fuel : Nat) (b : Int32), k + m = F → m < fuel → pa_oldI (pg_h σ) (pg_r D W σ) d b k → qX9_oldOn_4 d fuel b (nI k) σ = some ((pa_old (pg_h σ) (pg_r D W σ) d b k m, nI F), σ) := by
  obtain ⟨-, ⟨hF, hF2⟩, -⟩ := hI
  rw [pg_hd (by omega)] at hF
  intro m
  induction m with
  | zero =>
    intro k fuel b hk hf hb
    obtain ⟨f, rfl⟩ : ∃ f, fuel = f + 1 := ⟨fuel - 1, by omega⟩
    have : k = F := by omega
    subst this
    rw [qX9_oldOn_4]
    simp only [ps_let]
    rw [hF, if_pos (nI_le (Nat.le_refl _) (by omega))]
    rfl
  | succ m ih =>
    intro k fuel b hk hf hb
    obtain ⟨f, rfl⟩ : ∃ f, fuel = f + 1 := ⟨fuel - 1, by omega⟩
    have hi := ih (k + 1) f _ (by omega) (by omega) (pa_oldS hb)
    rw [qX9_oldOn_4]
    simp only [ps_let]
    rw [hF, if_neg (nI_ge (by omega) (by omega)), pz_a17, if_pos (pz_ini (by omega) (by omega)), nI_clamp (by omega), nI_1]
    rw [pa_old]
    have hh : pg_h σ (17 + k) = σ.1 328 (17 + k) := pg_hd (by omega)
    by_cases c1 : σ.1 328 (17 + k) = d
    · rw [if_pos c1, pz_bde (pg_isOld (D := D) (W := W) (by omega) σ)]
      rw [if_pos (hh.trans c1)] at hi ⊢
      by_cases c2 : pg_r D W σ (1 + k) ≤ 0
      · rw [if_pos c2] at hi ⊢
        rw [if_pos c2, if_pos rfl]
        exact hi
      · rw [if_neg c2] at hi ⊢
        rw [if_neg c2]
        by_cases c3 : pg_r D W σ 0 - pg_r D W σ (13 + k) < pg_h σ 12
        · rw [if_pos c3] at hi ⊢
          rw [if_pos c3, if_pos rfl]
          exact hi
        · rw [if_neg c3] at hi ⊢
          rw [if_neg c3, if_neg (by decide)]
          by_cases c4 : b = -1
          · rw [if_pos c4] at hi ⊢
            rw [if_pos c4]
            exact hi
          · rw [if_neg c4] at hi ⊢
            rw [if_neg c4]
            obtain ⟨j, hj, rfl, -⟩ := hb.resolve_left c4
            rw [nI_clamp (by omega)] at hi ⊢
            rw [pz_a13, if_pos (pz_ini (by omega) (by omega)), nI_clamp (by omega), pz_a13, if_pos (pz_ini (by omega) (by omega)), nI_clamp (by omega)]
            rw [pg_rd (k := 13 + j) (by omega) (by omega) (by omega), pg_rd (k := 13 + k) (by omega) (by omega) (by omega)] at hi ⊢
            by_cases c5 : σ.1 335 (13 + j) ≤ σ.1 335 (13 + k)
            · rw [if_pos c5] at hi ⊢
              rw [if_pos c5]
              exact hi
            · rw [if_neg c5] at hi ⊢
              rw [if_neg c5]
              exact hi
    · rw [if_neg c1]
      rw [if_neg (fun e => c1 (hh.symm.trans e))] at hi ⊢
      exact hi
theorem pg_oldOn {D F W : Nat} {σ : ps_S} (hI : pa_HI (pg_h σ) D F W) (d : Int32) : qX9_oldOn d σ = some (pa_old (pg_h σ) (pg_r D W σ) d (-1) 0 F, σ) := by
  unfold qX9_oldOn
  have h : qX9_oldOn_4 d ps_N (-1) 0 σ = _ := pg_oldL hI d F 0 ps_N (-1) (by omega) (by have := hI.2.1.2; unfold ps_N; omega) (Or.inl rfl)
  rw [pz_bde h]
