/-! which file is next: the old ones, those in turn -/
def pa_old (h r : pa_R) (d : Int32) : Int32 → Nat → Nat → Int32
  | b, _, 0 => b
  | b, k, m + 1 => pa_old h r d (if h (17 + k) = d then (if r (1 + k) ≤ 0 then b else if r 0 - r (13 + k) < h 12 then b else if b = -1 then nI k else if r (13 + b.toNatClampNeg) ≤ r (13 + k) then b else nI k) else b) (k + 1) m
/-- found so far: none, or a file ahead of k, of this device, with pages -/
def pa_oldI (h r : pa_R) (d b : Int32) (k : Nat) : Prop := b = -1 ∨ ∃ j, j < k ∧ b = nI j ∧ h (17 + j) = d ∧ 0 < r (1 + j)
theorem nI_m1 {j : Nat} (h : j < 2 ^ 31) : ¬ nI j = -1 := by
  intro e
  have h1 := nI_toInt h
  rw [e] at h1
  have : ((-1 : Int32).toInt) = -1 := by decide
  omega
theorem pa_oldS {h r : pa_R} {d b : Int32} {k : Nat} (hb : pa_oldI h r d b k) : pa_oldI h r d (if h (17 + k) = d then (if r (1 + k) ≤ 0 then b else if r 0 - r (13 + k) < h 12 then b else if b = -1 then nI k else if r (13 + b.toNatClampNeg) ≤ r (13 + k) then b else nI k) else b) (k + 1) := by
  have up : pa_oldI h r d b (k + 1) := by
    rcases hb with e | ⟨j, h1, h2⟩
    · exact Or.inl e
    · exact Or.inr ⟨j, by omega, h2⟩
  by_cases c1 : h (17 + k) = d
  · rw [if_pos c1]
    by_cases c2 : r (1 + k) ≤ 0
    · rw [if_pos c2]; exact up
    · have me : pa_oldI h r d (nI k) (k + 1) := Or.inr ⟨k, by omega, rfl, c1, Int32.not_le.mp c2⟩
      rw [if_neg c2]
      by_cases c3 : r 0 - r (13 + k) < h 12
      · rw [if_pos c3]; exact up
      · rw [if_neg c3]
        by_cases c4 : b = -1
        · rw [if_pos c4]; exact me
        · rw [if_neg c4]
          by_cases c5 : r (13 + b.toNatClampNeg) ≤ r (13 + k)
          · rw [if_pos c5]; exact up
          · rw [if_neg c5]; exact me
  · rw [if_neg c1]; exact up
theorem pa_oldE {h r : pa_R} {d : Int32} : ∀ (m k : Nat) (b : Int32), pa_oldI h r d b k → pa_oldI h r d (pa_old h r d b k m) (k + m)
  | 0, _, _, hb => hb
  | m + 1, k, b, hb => by
    have := pa_oldE m (k + 1) _ (pa_oldS hb)
    rw [show k + 1 + m = k + (m + 1) by omega] at this
    exact this
theorem pg_isOld {D W f : Nat} (hf : f < 12) (σ : ps_S) : qX9_isOld (nI f) σ = some (if pg_r D W σ (1 + f) ≤ 0 then 0 else if pg_r D W σ 0 - pg_r D W σ (13 + f) < pg_h σ 12 then 0 else 1, σ) := by
  unfold qX9_isOld
  rw [pg_rd (by omega) (by omega) (by omega), pg_rd (by omega) (by omega) (by omega), pg_rd (by omega) (by omega) (by omega), pg_hd (by omega)]
  simp (disch := omega) only [ps_let, pz_a1, pz_a13, pz_ini, nI_clamp, if_true]
  by_cases c1 : σ.1 335 (1 + f) ≤ 0
  · rw [if_pos c1, if_pos c1]
  · rw [if_neg c1, if_neg c1]
    by_cases c2 : σ.1 335 0 - σ.1 335 (13 + f) < σ.1 328 12
    · rw [if_pos c2, if_pos c2]
    · rw [if_neg c2, if_neg c2]
theorem pg_oldL {D F W : Nat} {σ : ps_S} (hI : pa_HI (pg_h σ) D F W) (d : Int32) : ∀ (m k fuel : Nat) (b : Int32), k + m = F → m < fuel → pa_oldI (pg_h σ) (pg_r D W σ) d b k → qX9_oldOn_4 d fuel b (nI k) σ = some ((pa_old (pg_h σ) (pg_r D W σ) d b k m, nI F), σ) := by
  obtain ⟨-, ⟨hF, hF2⟩, -⟩ := hI
  rw [pg_hd (by omega)] at hF
  intro m
  induction m with
  | zero =>
    intro k fuel b hk hf hb
    obtain ⟨f, rfl⟩ : ∃ f, fuel = f + 1 := ⟨fuel - 1, by omega⟩
    have : k = F := by omega
    subst this
    rw [qX9_oldOn_4]
    simp only [ps_let]
    rw [hF, if_pos (nI_le (Nat.le_refl _) (by omega))]
    rfl
  | succ m ih =>
    intro k fuel b hk hf hb
    obtain ⟨f, rfl⟩ : ∃ f, fuel = f + 1 := ⟨fuel - 1, by omega⟩
    have hi := ih (k + 1) f _ (by omega) (by omega) (pa_oldS hb)
    rw [qX9_oldOn_4]
    simp only [ps_let]
    rw [hF, if_neg (nI_ge (by omega) (by omega)), pz_a17, if_pos (pz_ini (by omega) (by omega)), nI_clamp (by omega), nI_1]
    rw [pa_old]
    have hh : pg_h σ (17 + k) = σ.1 328 (17 + k) := pg_hd (by omega)
    by_cases c1 : σ.1 328 (17 + k) = d
    · rw [if_pos c1, pz_bde (pg_isOld (D := D) (W := W) (by omega) σ)]
      rw [if_pos (hh.trans c1)] at hi ⊢
      by_cases c2 : pg_r D W σ (1 + k) ≤ 0
      · rw [if_pos c2] at hi ⊢
        rw [if_pos c2, if_pos rfl]
        exact hi
      · rw [if_neg c2] at hi ⊢
        rw [if_neg c2]
        by_cases c3 : pg_r D W σ 0 - pg_r D W σ (13 + k) < pg_h σ 12
        · rw [if_pos c3] at hi ⊢
          rw [if_pos c3, if_pos rfl]
          exact hi
        · rw [if_neg c3] at hi ⊢
          rw [if_neg c3, if_neg (by decide)]
          by_cases c4 : b = -1
          · rw [if_pos c4] at hi ⊢
            rw [if_pos c4]
            exact hi
          · rw [if_neg c4] at hi ⊢
            rw [if_neg c4]
            obtain ⟨j, hj, rfl, -⟩ := hb.resolve_left c4
            rw [nI_clamp (by omega)] at hi ⊢
            rw [pz_a13, if_pos (pz_ini (by omega) (by omega)), nI_clamp (by omega), pz_a13, if_pos (pz_ini (by omega) (by omega)), nI_clamp (by omega)]
            rw [pg_rd (k := 13 + j) (by omega) (by omega) (by omega), pg_rd (k := 13 + k) (by omega) (by omega) (by omega)] at hi ⊢
            by_cases c5 : σ.1 335 (13 + j) ≤ σ.1 335 (13 + k)
            · rw [if_pos c5] at hi ⊢
              rw [if_pos c5]
              exact hi
            · rw [if_neg c5] at hi ⊢
              rw [if_neg c5]
              exact hi
    · rw [if_neg c1]
      rw [if_neg (fun e => c1 (hh.symm.trans e))] at hi ⊢
      exact hi
theorem pg_oldOn {D F W : Nat} {σ : ps_S} (hI : pa_HI (pg_h σ) D F W) (d : Int32) : qX9_oldOn d σ = some (pa_old (pg_h σ) (pg_r D W σ) d (-1) 0 F, σ) := by
  unfold qX9_oldOn
  have h : qX9_oldOn_4 d ps_N (-1) 0 σ = _ := pg_oldL hI d F 0 ps_N (-1) (by omega) (by have := hI.2.1.2; unfold ps_N; omega) (Or.inl rfl)
  rw [pz_bde h]
section PCN
variable {h : pa_R} {D F W B : Nat} {σ : ps_S}
theorem pc_isOld {f : Nat} (hH : pc_H 12 h D F W σ) (hf : f < 12) : qX0_isOld B (nI f) σ = some (if pc_r D W B σ (1 + f) ≤ 0 then 0 else if pc_r D W B σ 0 - pc_r D W B σ (13 + f) < h 12 then 0 else 1, σ) := by
  unfold qX0_isOld
  rw [pc_rd11 (by omega), pc_rd12 (by omega), pc_rdt, ← hH.1.2.2.1]
  simp (disch := omega) only [ps_let, pz_ini, nI_clamp, if_true]
  by_cases c1 : σ.1 (B + 11) f ≤ 0
  · rw [if_pos c1, if_pos c1]
  · rw [if_neg c1, if_neg c1]
    by_cases c2 : σ.1 B 8 - σ.1 (B + 12) f < σ.1 12 2
    · rw [if_pos c2, if_pos c2]
    · rw [if_neg c2, if_neg c2]
theorem pc_oldL (hI : pa_HI h D F W) (hH : pc_H 12 h D F W σ) (d : Int32) : ∀ (m k fuel : Nat) (b : Int32), k + m = F → m < fuel → pa_oldI h (pc_r D W B σ) d b k → qX0_oldestFile_5 B d fuel b (nI k) σ = some ((pa_old h (pc_r D W B σ) d b k m, nI F), σ) := by
  obtain ⟨-, ⟨hF, hF2⟩, -⟩ := hI
  have hF' : σ.1 12 8 = nI F := hH.1.2.2.2.2.2.2.2.2.1.trans hF
  intro m
  induction m with
  | zero =>
    intro k fuel b hk hf hb
    obtain ⟨f, rfl⟩ : ∃ f, fuel = f + 1 := ⟨fuel - 1, by omega⟩
    have : k = F := by omega
    subst this
    rw [qX0_oldestFile_5]
    simp only [ps_let]
    rw [hF', if_pos (nI_le (Nat.le_refl _) (by omega))]
    rfl
  | succ m ih =>
    intro k fuel b hk hf hb
    obtain ⟨f, rfl⟩ : ∃ f, fuel = f + 1 := ⟨fuel - 1, by omega⟩
    have hi := ih (k + 1) f _ (by omega) (by omega) (pa_oldS hb)
    rw [qX0_oldestFile_5]
    simp only [ps_let]
    have hh : σ.1 (12 + 3) k = h (17 + k) := hH.2.2.1 k (by omega)
    rw [hF', if_neg (nI_ge (by omega) (by omega)), if_pos (pz_ini (by omega) (by omega)), nI_clamp (by omega), nI_1, hh]
    rw [pa_old]
    by_cases c1 : h (17 + k) = d
    · rw [if_pos c1, pz_bde (pc_isOld hH (by omega))]
      rw [if_pos c1] at hi ⊢
      by_cases c2 : pc_r D W B σ (1 + k) ≤ 0
      · rw [if_pos c2] at hi ⊢
        rw [if_pos c2, if_pos rfl]
        exact hi
      · rw [if_neg c2] at hi ⊢
        rw [if_neg c2]
        by_cases c3 : pc_r D W B σ 0 - pc_r D W B σ (13 + k) < h 12
        · rw [if_pos c3] at hi ⊢
          rw [if_pos c3, if_pos rfl]
          exact hi
        · rw [if_neg c3] at hi ⊢
          rw [if_neg c3, if_neg (by decide)]
          by_cases c4 : b = -1
          · rw [if_pos c4] at hi ⊢
            rw [if_pos c4]
            exact hi
          · rw [if_neg c4] at hi ⊢
            rw [if_neg c4]
            obtain ⟨j, hj, rfl, -⟩ := hb.resolve_left c4
            rw [nI_clamp (by omega)] at hi ⊢
            rw [if_pos (pz_ini (by omega) (by omega)), if_pos (pz_ini (by omega) (by omega))]
            rw [pc_rd12 (i := j) (by omega), pc_rd12 (i := k) (by omega)] at hi ⊢
            by_cases c5 : σ.1 (B + 12) j ≤ σ.1 (B + 12) k
            · rw [if_pos c5] at hi ⊢
              rw [if_pos c5]
              exact hi
            · rw [if_neg c5] at hi ⊢
              rw [if_neg c5]
              exact hi
    · rw [if_neg c1]
      rw [if_neg c1] at hi ⊢
      exact hi
theorem pc_old (hI : pa_HI h D F W) (hH : pc_H 12 h D F W σ) (d : Int32) : qX0_oldestFile B d σ = some (pa_old h (pc_r D W B σ) d (-1) 0 F, σ) := by
  unfold qX0_oldestFile
  have h1 : qX0_oldestFile_5 B d ps_N (-1) 0 σ = _ := pc_oldL (B := B) hI hH d F 0 ps_N (-1) (by omega) (by have := hI.2.1.2; unfold ps_N; omega) (Or.inl rfl)
  rw [pz_bde h1]
end PCN
/-! in turn -/
theorem nI_rem {a b : Nat} (ha : a < 2 ^ 31) (hb : b < 2 ^ 31) (h0 : 0 < b) : nI a - nI a / nI b * nI b = nI (a % b) := by
  apply Int32.toInt_inj.mp
  have e1 : (nI a / nI b).toInt = ((a / b : Nat) : Int) := by
    rw [Int32.toInt_div, nI_toInt ha, nI_toInt hb]
    rw [← Int.ofNat_tdiv]
    have h3 : a / b ≤ a := Nat.div_le_self a b
    have h4 : (0 : Int) ≤ ((a / b : Nat) : Int) := Int.natCast_nonneg _
    have h5 : ((a / b : Nat) : Int) < 2147483648 := by omega
    generalize ((a / b : Nat) : Int) = z at h4 h5
    rw [Int.bmod_eq_of_le (by omega) (by omega)]
  have e2 : nI a / nI b = nI (a / b) := by
    apply Int32.toInt_inj.mp
    rw [e1, nI_toInt (Nat.lt_of_le_of_lt (Nat.div_le_self a b) ha)]
  rw [e2]
  have e3 : nI (a / b) * nI b = nI (a / b * b) := (Int32.ofNat_mul _ _).symm
  have e4 : a / b * b + a % b = a := by rw [Nat.mul_comm]; exact Nat.div_add_mod a b
  have e5 : nI a = nI (a / b * b) + nI (a % b) := by rw [nI_add, e4]
  rw [e3, e5, Int32.add_comm, Int32.add_sub_cancel]
def pa_turn (h r : pa_R) (d : Int32) (t F : Nat) : Nat → Nat → Int32
  | _, 0 => -1
  | k, m + 1 => if h (17 + (t + k) % F) = d then (if r (1 + (t + k) % F) ≤ 0 then pa_turn h r d t F (k + 1) m else nI ((t + k) % F)) else pa_turn h r d t F (k + 1) m
theorem pa_turnI {h r : pa_R} {d : Int32} {t F : Nat} (hF : 0 < F) : ∀ (m k : Nat), pa_oldI h r d (pa_turn h r d t F k m) F
  | 0, _ => Or.inl rfl
  | m + 1, k => by
    rw [pa_turn]
    by_cases c1 : h (17 + (t + k) % F) = d
    · rw [if_pos c1]
      by_cases c2 : r (1 + (t + k) % F) ≤ 0
      · rw [if_pos c2]; exact pa_turnI hF m (k + 1)
      · rw [if_neg c2]; exact Or.inr ⟨(t + k) % F, Nat.mod_lt _ hF, rfl, c1, Int32.not_le.mp c2⟩
    · rw [if_neg c1]; exact pa_turnI hF m (k + 1)
theorem pg_turnL {D F W : Nat} {σ : ps_S} (hI : pa_HI (pg_h σ) D F W) {d t : Nat} (hd : d < 4) (ht : pg_r D W σ (41 + d) = nI t) (ht2 : t ≤ 12) : ∀ (m k fuel : Nat), k + m = F → m < fuel → ∃ z : Int32 ⊕ Int32, qX9_turnOn_2 (nI d) fuel (nI k) σ = some (z, σ) ∧ ((z = .inl (pa_turn (pg_h σ) (pg_r D W σ) (nI d) t F k m)) ∨ ((∃ v, z = .inr v) ∧ pa_turn (pg_h σ) (pg_r D W σ) (nI d) t F k m = -1)) := by
  obtain ⟨-, ⟨hF, hF2⟩, -⟩ := hI
  rw [pg_hd (by omega)] at hF
  rw [pg_rd (by omega) (by omega) (by omega)] at ht
  intro m
  induction m with
  | zero =>
    intro k fuel hk hf
    obtain ⟨f, rfl⟩ : ∃ f, fuel = f + 1 := ⟨fuel - 1, by omega⟩
    have : k = F := by omega
    subst this
    rw [qX9_turnOn_2]
    simp only [ps_let]
    rw [hF, if_pos (nI_le (Nat.le_refl _) (by omega))]
    exact ⟨_, rfl, Or.inr ⟨⟨_, rfl⟩, rfl⟩⟩
  | succ m ih =>
    intro k fuel hk hf
    obtain ⟨f, rfl⟩ : ∃ f, fuel = f + 1 := ⟨fuel - 1, by omega⟩
    have hi := ih (k + 1) f (by omega) (by omega)
    have hm : (t + k) % F < F := Nat.mod_lt _ (by omega)
    rw [qX9_turnOn_2]
    simp only [ps_let]
    rw [hF, if_neg (nI_ge (by omega) (by omega)), pz_a41, if_pos (pz_ini (by omega) (by omega)), nI_clamp (by omega), if_neg (nI_ne0 (by omega) (by omega)), ht, nI_add, nI_rem (by omega) (by omega) (by omega), nI_1]
    rw [pz_a17, if_pos (pz_ini (by omega) (by omega)), nI_clamp (by omega), pz_a1]
    rw [pa_turn]
    have hh : pg_h σ (17 + (t + k) % F) = σ.1 328 (17 + (t + k) % F) := pg_hd (by omega)
    have hr : pg_r D W σ (1 + (t + k) % F) = σ.1 335 (1 + (t + k) % F) := pg_rd (by omega) (by omega) (by omega)
    rw [hh, hr]
    by_cases c1 : σ.1 328 (17 + (t + k) % F) = nI d
    · rw [if_pos c1, if_pos c1, if_pos (pz_ini (by omega) (by omega)), nI_clamp (by omega)]
      by_cases c2 : σ.1 335 (1 + (t + k) % F) ≤ 0
      · rw [if_pos c2, if_pos c2]; exact hi
      · rw [if_neg c2, if_neg c2]; exact ⟨_, rfl, Or.inl rfl⟩
    · rw [if_neg c1, if_neg c1]; exact hi
theorem pg_turnOn {D F W : Nat} {σ : ps_S} (hI : pa_HI (pg_h σ) D F W) {d t : Nat} (hd : d < 4) (ht : pg_r D W σ (41 + d) = nI t) (ht2 : t ≤ 12) : qX9_turnOn (nI d) σ = some (pa_turn (pg_h σ) (pg_r D W σ) (nI d) t F 0 F, σ) := by
  unfold qX9_turnOn
  have h1 : ∃ z : Int32 ⊕ Int32, qX9_turnOn_2 (nI d) ps_N 0 σ = some (z, σ) ∧ _ := pg_turnL hI hd ht ht2 F 0 ps_N (by omega) (by have := hI.2.1.2; unfold ps_N; omega)
  obtain ⟨z, e, hz⟩ := h1
  rw [pz_bde e]
  rcases hz with rfl | ⟨⟨v, rfl⟩, e2⟩
  · rfl
  · rw [e2]
def pa_next (h r : pa_R) (d : Nat) (t F : Nat) : Int32 := if pa_old h r (nI d) (-1) 0 F = -1 then (if h 11 < pa_all r then pa_turn h r (nI d) t F 0 F else -1) else pa_old h r (nI d) (-1) 0 F
theorem pg_all' {D W : Nat} (σ : ps_S) : pa_all (σ.1 335) = pa_all (pg_r D W σ) := by
  have e : ∀ a n : Nat, (∀ k, k < n → pg_r D W σ (a + k) = σ.1 335 (a + k)) → pa_sum (σ.1 335) a n = pa_sum (pg_r D W σ) a n := by
    intro a n
    induction n with
    | zero => intro _; rfl
    | succ n ih =>
      intro hk
      rw [pa_sum, pa_sum, ih (fun k h => hk k (by omega)), hk n (by omega)]
  unfold pa_all
  rw [e 1 12 (fun k hk => pg_rd (by omega) (by omega) (by omega)), e 29 4 (fun k hk => pg_rd (by omega) (by omega) (by omega))]
theorem pg_nextOn {D F W : Nat} {σ : ps_S} (hI : pa_HI (pg_h σ) D F W) {d t : Nat} (hd : d < 4) (ht : pg_r D W σ (41 + d) = nI t) (ht2 : t ≤ 12) : qX9_nextOn (nI d) σ = some (pa_next (pg_h σ) (pg_r D W σ) d t F, σ) := by
  unfold qX9_nextOn pa_next
  rw [pz_bde (pg_oldOn hI (nI d))]
  by_cases c1 : pa_old (pg_h σ) (pg_r D W σ) (nI d) (-1) 0 F = -1
  · rw [if_pos c1, if_pos c1, pz_bde (pg_all σ)]
    simp only [ps_let]
    rw [pg_all' (D := D) (W := W), ← pg_hd (σ := σ) (k := 11) (by omega)]
    by_cases c2 : pg_h σ 11 < pa_all (pg_r D W σ)
    · rw [if_pos c2, if_pos c2, pz_bde (pg_turnOn hI hd ht ht2)]
    · rw [if_neg c2, if_neg c2, c1]
  · rw [if_neg c1, if_neg c1]
section PCT
variable {h : pa_R} {D F W B : Nat} {σ : ps_S}
theorem pc_turnL (hI : pa_HI h D F W) (hH : pc_H 12 h D F W σ) {d t : Nat} (hd : d < 4) (ht2 : t ≤ 12) : ∀ (m k fuel : Nat), k + m = F → m < fuel → ∃ z : Int32 ⊕ Int32, qX0_fileInTurn_41 B (nI d) (nI t) fuel (nI k) σ = some (z, σ) ∧ ((z = .inl (pa_turn h (pc_r D W B σ) (nI d) t F k m)) ∨ ((∃ v, z = .inr v) ∧ pa_turn h (pc_r D W B σ) (nI d) t F k m = -1)) := by
  obtain ⟨-, ⟨hF, hF2⟩, -⟩ := hI
  have hF' : σ.1 12 8 = nI F := hH.1.2.2.2.2.2.2.2.2.1.trans hF
  intro m
  induction m with
  | zero =>
    intro k fuel hk hf
    obtain ⟨f, rfl⟩ : ∃ f, fuel = f + 1 := ⟨fuel - 1, by omega⟩
    have : k = F := by omega
    subst this
    rw [qX0_fileInTurn_41]
    simp only [ps_let]
    rw [hF', if_pos (nI_le (Nat.le_refl _) (by omega))]
    exact ⟨_, rfl, Or.inr ⟨⟨_, rfl⟩, rfl⟩⟩
  | succ m ih =>
    intro k fuel hk hf
    obtain ⟨f, rfl⟩ : ∃ f, fuel = f + 1 := ⟨fuel - 1, by omega⟩
    have hi := ih (k + 1) f (by omega) (by omega)
    have hm : (t + k) % F < F := Nat.mod_lt _ (by omega)
    rw [qX0_fileInTurn_41]
    simp only [ps_let]
    have hh : σ.1 (12 + 3) ((t + k) % F) = h (17 + (t + k) % F) := hH.2.2.1 _ hm
    have hr : pc_r D W B σ (1 + (t + k) % F) = σ.1 (B + 11) ((t + k) % F) := pc_rd11 (by omega)
    rw [hF', if_neg (nI_ge (by omega) (by omega)), if_neg (nI_ne0 (by omega) (by omega)), nI_add, nI_rem (by omega) (by omega) (by omega), nI_1]
    rw [if_pos (pz_ini (by omega) (by omega)), nI_clamp (by omega), hh]
    rw [pa_turn, hr]
    by_cases c1 : h (17 + (t + k) % F) = nI d
    · rw [if_pos c1, if_pos c1, if_pos (pz_ini (by omega) (by omega))]
      by_cases c2 : σ.1 (B + 11) ((t + k) % F) ≤ 0
      · rw [if_pos c2, if_pos c2]; exact hi
      · rw [if_neg c2, if_neg c2]; exact ⟨_, rfl, Or.inl rfl⟩
    · rw [if_neg c1, if_neg c1]; exact hi
theorem pc_turn (hI : pa_HI h D F W) (hH : pc_H 12 h D F W σ) {d t : Nat} (hd : d < 4) (ht : pc_r D W B σ (41 + d) = nI t) (ht2 : t ≤ 12) (hall : σ.1 B 9 = pa_all (pc_r D W B σ)) : qX0_fileInTurn B (nI d) σ = some (if h 11 < pa_all (pc_r D W B σ) then pa_turn h (pc_r D W B σ) (nI d) t F 0 F else -1, σ) := by
  unfold qX0_fileInTurn
  have hF' : σ.1 12 8 = nI F := hH.1.2.2.2.2.2.2.2.2.1.trans hI.2.1.1
  have hb : σ.1 12 1 = h 11 := hH.1.2.1
  simp only [ps_let]
  rw [hall, hb, hF']
  by_cases c1 : pa_all (pc_r D W B σ) ≤ h 11
  · rw [if_pos c1, if_neg (Int32.not_lt.mpr c1)]
  · rw [if_neg c1, if_pos (Int32.not_le.mp c1)]
    by_cases c2 : 0 < F
    · have c3 : (0 : Int32) < nI F := by
        have := nI_lt c2 (by have := hI.2.1.2; omega)
        rwa [nI_0] at this
      rw [pc_rd10 hd] at ht
      rw [if_pos c3, if_pos (pz_ini (by omega) (by omega)), nI_clamp (by omega), ht]
      have h1 : ∃ z : Int32 ⊕ Int32, qX0_fileInTurn_41 B (nI d) (nI t) ps_N 0 σ = some (z, σ) ∧ _ := pc_turnL hI hH hd ht2 F 0 ps_N (by omega) (by have := hI.2.1.2; unfold ps_N; omega)
      obtain ⟨z, e, hz⟩ := h1
      rw [pz_bde e]
      rcases hz with rfl | ⟨⟨v, rfl⟩, e2⟩
      · rfl
      · rw [e2]
    · have : F = 0 := by omega
      subst this
      rw [if_neg (by rw [nI_0]; decide)]
      rfl
end PCT
