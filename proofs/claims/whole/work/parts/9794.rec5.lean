/-! all levels -/
section LEVS
variable {n : Nat} {b : Nat → Nat} {wr : Bool}
theorem pr_ct.mono {ty : Bool} {w p h h' Nc Ng : Nat} (g : pr_ct n b wr ty w p h Nc Ng) (hh : h ≤ h') : pr_ct n b wr ty w p h' Nc Ng := by
  intro st k cs σ τ e hk
  refine (g st k cs σ τ e hk).im (fun a σ1 _ τ1 q => ?_)
  obtain ⟨c1, d1, ⟨rfl, st1, l1, g1, k1, s1, n1, t1⟩ | ⟨rfl, hF, hm⟩⟩ := q
  · exact ⟨c1, d1, Or.inl ⟨rfl, st1, l1, g1, k1, s1, n1, t1.mono hh⟩⟩
  · exact ⟨c1, d1, Or.inr ⟨rfl, hF, hm⟩⟩
theorem pr_one {p q : Nat} (hp : p + q = 6) (R4 : p < 6 → ∀ Nc Ng, 8 * q ≤ Nc → 8 * q ≤ Ng → pr_ct n b wr true 4 (p + 1) (5 * q + 2) Nc Ng) (R0 : p < 6 → ∀ Nc Ng, 8 * q ≤ Nc → 8 * q ≤ Ng → pr_ct n b wr false 0 (p + 1) (5 * q) Nc Ng) (R6 : p < 6 → ∀ Nc Ng, 8 * q ≤ Nc → 8 * q ≤ Ng → pr_ct n b wr true 6 (p + 1) (5 * q + 5) Nc Ng) :
    (∀ Nc Ng, 8 * q + 4 ≤ Nc → 8 * q + 4 ≤ Ng → pr_ct n b wr false 0 p (5 * q + 4) Nc Ng) ∧ (∀ Nc Ng, 8 * q + 8 ≤ Nc → 8 * q + 8 ≤ Ng → pr_ct n b wr true 4 p (5 * q + 7) Nc Ng) ∧ (∀ Nc Ng, 8 * q + 6 ≤ Nc → 8 * q + 6 ≤ Ng → pr_ct n b wr true 6 p (5 * q + 5) Nc Ng) := by
  have A : ∀ Nc Ng, 8 * q + 2 ≤ Nc → 8 * q + 2 ≤ Ng → pr_ct n b wr false 2 p (5 * q + 2) Nc Ng := by
    intro Nc Ng h1 h2
    obtain ⟨c, rfl⟩ : ∃ c, Nc = c + 1 + 1 := ⟨Nc - 2, by omega⟩
    obtain ⟨g, rfl⟩ : ∃ c, Ng = c + 1 + 1 := ⟨Ng - 2, by omega⟩
    exact pr_c2 (h0 := 5 * q) (by omega) (fun st k cs σ τ e hk hc => pr_c3 (h4 := 5 * q + 2) (h0 := 5 * q) (by omega) (fun h => R4 h c g (by omega) (by omega)) (fun h => R0 h c g (by omega) (by omega)) (fun h => by omega) (by omega) (by omega) e hk hc) (fun h => R0 h (c + 1) (g + 1) (by omega) (by omega)) (by omega) (fun h => by omega)
  have T : ∀ Nc Ng, 8 * q + 3 ≤ Nc → 8 * q + 3 ≤ Ng → pr_ct n b wr false 1 p (5 * q + 3) Nc Ng := by
    intro Nc Ng h1 h2
    obtain ⟨c, rfl⟩ : ∃ c, Nc = c + 1 := ⟨Nc - 1, by omega⟩
    obtain ⟨g, rfl⟩ : ∃ c, Ng = c + 1 := ⟨Ng - 1, by omega⟩
    exact pr_c1 (A c g (by omega) (by omega))
  have S : ∀ Nc Ng, 8 * q + 4 ≤ Nc → 8 * q + 4 ≤ Ng → pr_ct n b wr false 0 p (5 * q + 4) Nc Ng := by
    intro Nc Ng h1 h2
    obtain ⟨c, rfl⟩ : ∃ c, Nc = c + 1 := ⟨Nc - 1, by omega⟩
    obtain ⟨g, rfl⟩ : ∃ c, Ng = c + 1 := ⟨Ng - 1, by omega⟩
    exact pr_c0 (T c g (by omega) (by omega))
  have U : ∀ Nc Ng, 8 * q + 6 ≤ Nc → 8 * q + 6 ≤ Ng → pr_ct n b wr true 6 p (5 * q + 5) Nc Ng := by
    intro Nc Ng h1 h2
    obtain ⟨c, rfl⟩ : ∃ c, Nc = c + 1 + 1 := ⟨Nc - 2, by omega⟩
    obtain ⟨g, rfl⟩ : ∃ c, Ng = c + 1 := ⟨Ng - 1, by omega⟩
    exact pr_c6 (h0 := 5 * q + 4) (h4 := 5 * q + 2) (h6 := 5 * q + 5) (by omega) (S c g (by omega) (by omega)) (S c g (by omega) (by omega)) (fun h => R4 h (c + 1) g (by omega) (by omega)) (fun h => R6 h (c + 1) g (by omega) (by omega)) (by omega) (by omega) (fun h => by omega) (fun h => by omega)
  refine ⟨S, ?_, U⟩
  intro Nc Ng h1 h2
  obtain ⟨c, rfl⟩ : ∃ c, Nc = c + 1 + 1 := ⟨Nc - 2, by omega⟩
  obtain ⟨g, rfl⟩ : ∃ c, Ng = c + 1 + 1 := ⟨Ng - 2, by omega⟩
  exact pr_c4 (pr_c5 (U c g (by omega) (by omega)))
theorem pr_lev : ∀ q p, p + q = 6 → (∀ Nc Ng, 8 * q + 4 ≤ Nc → 8 * q + 4 ≤ Ng → pr_ct n b wr false 0 p (5 * q + 4) Nc Ng) ∧ (∀ Nc Ng, 8 * q + 8 ≤ Nc → 8 * q + 8 ≤ Ng → pr_ct n b wr true 4 p (5 * q + 7) Nc Ng) ∧ (∀ Nc Ng, 8 * q + 6 ≤ Nc → 8 * q + 6 ≤ Ng → pr_ct n b wr true 6 p (5 * q + 5) Nc Ng) := by
  intro q
  induction q with
  | zero =>
    intro p hp
    exact pr_one hp (fun h => by omega) (fun h => by omega) (fun h => by omega)
  | succ q ih =>
    intro p hp
    obtain ⟨i1, i2, i3⟩ := ih (p + 1) (by omega)
    exact pr_one hp (fun _ Nc Ng h1 h2 => (i2 Nc Ng (by omega) (by omega)).mono (by omega)) (fun _ Nc Ng h1 h2 => (i1 Nc Ng (by omega) (by omega)).mono (by omega)) (fun _ Nc Ng h1 h2 => (i3 Nc Ng (by omega) (by omega)).mono (by omega))
/-- a whole sum of a law -/
theorem pr_sum {st k : Nat} {cs : List Nat} {σ τ : ps_S} (g : pr_E n b wr 0 st cs σ τ) (hk : cs.length + k ≤ st) : pr2 (qX5_readSum σ) (qX9_readSum 0 τ) (fun a σ' _ τ' => pr_P n b wr 0 st cs k σ τ false 40 a σ' τ') :=
  (((pr_lev (n := n) (b := b) (wr := wr) 6 0 rfl).1 80 80 (by decide) (by decide)).mono (by decide)) st k cs σ τ g hk
end LEVS
