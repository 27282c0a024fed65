/-! lines that tell a device, a file, a writer -/
def pr_LP (n : Nat) (b : Nat → Nat) (st ln : Nat) (σ0 τ0 : ps_S) (a : Int32) (σ τ : ps_S) : Prop := pl_c σ0 σ ∧ pl_g τ0 τ ∧ ((a = 1 ∧ ∃ st' D F W cs, st + 1 ≤ st' ∧ pr_B n b st' cs σ τ ∧ pr_T D F W ln cs σ τ ∧ cs.length ≤ st') ∨ (a = 0 ∧ pr_F σ τ))
section DEV
variable {n : Nat} {b : Nat → Nat} {st D F W ln : Nat} {cs : List Nat} {σ τ σ' τ' : ps_S}
theorem pr_B.h (g : pr_B n b st cs σ τ) (h1 : ∀ k, k = 1 ∨ k = 9 ∨ k = 10 ∨ k = 11 → σ'.1 k = σ.1 k) (h2 : ∀ k, k = 327 ∨ k = 331 → τ'.1 k = τ.1 k) (h3 : ∀ j, 949 ≤ j → τ'.1 332 j = τ.1 332 j) : pr_B n b st cs σ' τ' := by
  obtain ⟨⟨r1, r2, r3, r4⟩, ⟨c1, c2, c3⟩, h10⟩ := g
  refine ⟨⟨r1.e (h1 11 (by omega)) (h1 1 (by omega)), r2.e (h2 327 (by omega)) (h2 331 (by omega)), by rw [h2 327 (by omega)]; exact r3, by rw [h1 11 (by omega)]; exact r4⟩, ⟨by rw [h1 9 (by omega)]; exact c1, by rw [h3 949 (by omega)]; exact c2, fun j hj => ?_⟩, by rw [h1 11 (by omega)]; exact h10⟩
  rw [h1 10 (by omega), h3 _ (by omega)]
  exact c3 j hj
theorem pr_T.dev {v : Nat} (h : pr_T D F W ln cs σ τ) (hD : D < 4) (hv : v ≤ 999) (h2 : σ'.1 2 = upd (σ.1 2) 7 (nI (D + 1))) (h3 : σ'.1 3 = upd (σ.1 3) D (nI v)) (hc : ∀ k, 4 ≤ k → k < 10 → σ'.1 k = σ.1 k) (hg : τ'.1 332 = upd (upd (τ.1 332) (60 + D) (nI v)) 1 (nI (D + 1))) : pr_T (D + 1) F W ln cs σ' τ' := by
  obtain ⟨⟨a1, a2, a3⟩, ⟨b1, b2, b3, b4, b5⟩, c0, d0, e0, f0⟩ := h
  have g : ∀ j, j ≠ 1 → j ≠ 60 + D → τ'.1 332 j = τ.1 332 j := fun j j1 j2 => by rw [hg, upd_ne _ _ j1, upd_ne _ _ j2]
  have c : ∀ j, j ≠ 7 → σ'.1 2 j = σ.1 2 j := fun j j1 => by rw [h2, upd_ne _ _ j1]
  refine ⟨⟨⟨by rw [h2, upd_self], by rw [hg, upd_self], by omega⟩, ⟨by rw [c 8 (by decide)]; exact a2.1, by rw [g 2 (by decide) (by omega)]; exact a2.2.1, a2.2.2⟩, ⟨by rw [c 9 (by decide)]; exact a3.1, by rw [g 3 (by decide) (by omega)]; exact a3.2.1, a3.2.2⟩⟩, ⟨?_, ?_, ?_, ?_, ?_⟩, ?_, ?_, ?_, ?_⟩
  · intro d hd
    by_cases e : d = D
    · subst e
      exact ⟨v, hv, by rw [h3, upd_self], by rw [hg, upd_ne _ _ (by omega), upd_self]⟩
    · rw [h3, upd_ne _ _ e, g _ (by omega) (by omega)]
      exact b1 d (by omega)
  · intro f hf
    obtain ⟨d, x1, x2, x3⟩ := b2 f hf
    rw [hc 5 (by decide) (by decide), g _ (by omega) (by omega)]
    exact ⟨d, by omega, x2, x3⟩
  · intro w hw
    obtain ⟨f, q, x1, x2, x3, x4, x5, x6⟩ := b3 w hw
    rw [hc 6 (by decide) (by decide), hc 7 (by decide) (by decide), g _ (by omega) (by omega)]
    exact ⟨f, q, x1, by omega, x3, x4, x5, by rw [g _ (by omega) (by omega)]; exact x6⟩
  · intro w hw
    rw [hc 8 (by decide) (by decide), g _ (by omega) (by omega)]
    exact b4 w hw
  · intro d hd
    rw [hc 4 (by decide) (by decide), b5 d hd]
    exact (pa_on_congr a3.2.2 a2.2.2 (fun k k1 k2 => g k (by omega) (by omega)) (fun w hw => by
      obtain ⟨f, q, x1, x2, x3, x4, _⟩ := b3 w hw
      exact ⟨f, x1, x4⟩)).symm
  · unfold pr_H2
    rw [c 0 (by decide), c 1 (by decide), c 2 (by decide), c 3 (by decide), c 4 (by decide), c 5 (by decide), c 6 (by decide), g 10 (by decide) (by omega), g 11 (by decide) (by omega), g 12 (by decide) (by omega), g 13 (by decide) (by omega), g 14 (by decide) (by omega), g 15 (by decide) (by omega), g 16 (by decide) (by omega)]
    exact c0
  · intro k k1 k2 k3 k4
    rw [g k (by omega) (by omega)]
    exact d0 k k1 k2 k3 k4
  · have := e0.e (l := []) (σ' := σ') (τ' := τ') (fun j _ => by rw [hc 9 (by decide) (by decide)]) (fun j j1 j2 => g j (by omega) (by omega))
    rw [List.append_nil] at this
    exact this
  · rw [c 10 (by decide), g 0 (by decide) (by omega)]
    exact f0
end DEV
