/-! the host told, as a world's -/
def pg_fh (τ : ps_S) : pa_R := fun k => if k < 35 ∨ (949 ≤ k ∧ k < 1850) then τ.1 332 k else 0
theorem pg_fh_at {τ : ps_S} {k : Nat} (h : k < 35 ∨ (949 ≤ k ∧ k < 1850)) : pg_fh τ k = τ.1 332 k := if_pos h
theorem pa_tyS_b {wr : Bool} {c : Nat} {T T' : List Bool} (h : pa_tyS wr c T = some T') : c < 4000 := by
  by_cases q : c < 4000
  · exact q
  · unfold pa_tyS at h
    rw [if_neg (by omega), if_neg (by omega), if_neg (by omega), if_neg (by omega), if_neg (by omega), if_neg (by omega), if_neg (by omega)] at h
    cases h
theorem pa_tyR_b {wr : Bool} : ∀ (l : List Nat) (T U : List Bool), pa_tyR wr l T = some U → ∀ c, c ∈ l → c < 4000 := by
  intro l
  induction l with
  | nil => intro T U _ c hc; exact absurd hc List.not_mem_nil
  | cons a l ih =>
    intro T U h c hc
    rw [pa_tyR] at h
    cases e : pa_tyS wr a T with
    | none =>
      rw [e] at h
      cases h
    | some T' =>
      rw [e] at h
      have h' : (if T'.length ≤ 99 then pa_tyR wr l T' else none) = some U := h
      by_cases q : T'.length ≤ 99
      · rw [if_pos q] at h'
        rcases List.mem_cons.mp hc with e2 | hc
        · rw [e2]; exact pa_tyS_b e
        · exact ih T' U h' c hc
      · rw [if_neg q] at h'
        cases h'
section TOLD2
variable {n : Nat} {b : Nat → Nat} {st D F W ln : Nat} {cs : List Nat} {σ τ : ps_S}
theorem pl_lct {fr many t : Nat} (hm : fr + many ≤ cs.length) (ht : t < many) : ((cs.drop fr).take many)[t]? = some (cs.getD (fr + t) 0) := by
  rw [List.getElem?_take, if_pos ht, List.getElem?_drop, List.getD_eq_getElem?_getD, List.getElem?_eq_getElem (show fr + t < cs.length by omega)]
  rfl
theorem pl_lcb {fr many t : Nat} {wr : Bool} (hm : fr + many ≤ cs.length) (ht : t < many) (ty : pa_tyR wr ((cs.drop fr).take many) [] = some [false]) : cs.getD (fr + t) 0 < 4000 := pa_tyR_b _ _ _ ty _ (List.mem_of_getElem? (pl_lct hm ht))
theorem pl_lc {k fr many : Nat} {wr : Bool} (hk : k < 2) (hC : ∀ j, j < cs.length → τ.1 332 (950 + j) = nI (cs.getD j 0)) (h6 : τ.1 332 (6 + k) = nI fr) (h8 : τ.1 332 (8 + k) = nI many) (hm : fr + many ≤ cs.length) (hl : cs.length ≤ 900) (ty : pa_tyR wr ((cs.drop fr).take many) [] = some [false]) : pa_lc (pg_fh τ) k = (cs.drop fr).take many := by
  unfold pa_lc
  rw [pg_fh_at (k := 8 + k) (by omega), pg_fh_at (k := 6 + k) (by omega), h6, h8, nI_clamp (n := many) (by omega), nI_clamp (n := fr) (by omega)]
  refine List.ext_getElem? (fun t => ?_)
  by_cases ht : t < many
  · rw [List.getElem?_map, List.getElem?_range ht, pl_lct hm ht]
    show some (pg_fh τ (950 + fr + t)).toNatClampNeg = _
    rw [pg_fh_at (by omega), Nat.add_assoc, hC _ (by omega), nI_clamp (by have := pl_lcb hm ht ty; omega)]
  · rw [List.getElem?_eq_none (by rw [List.length_map, List.length_range]; omega), List.getElem?_eq_none (by rw [List.length_take]; omega)]
theorem pr_told1 (g : pr_B n b st cs σ τ) (t : pr_T D F W ln cs σ τ) (hk : cs.length ≤ st) : pa_HI (pg_fh τ) D F W ∧ pa_LI (pg_fh τ) := by
  have lt := g.lt
  obtain ⟨⟨a1, a2, a3⟩, ⟨b1, b2, b3, b4, b5⟩, c0, d0, e0, f0⟩ := t
  have ft : ∀ k, k < 35 → pg_fh τ k = τ.1 332 k := fun k hk => pg_fh_at (Or.inl hk)
  have hD := a1.2.2
  have hF := a2.2.2
  have hW := a3.2.2
  refine ⟨⟨⟨by rw [ft 1 (by decide)]; exact a1.2.1, hD⟩, ⟨by rw [ft 2 (by decide)]; exact a2.2.1, hF⟩, ⟨by rw [ft 3 (by decide)]; exact a3.2.1, hW⟩, fun f hf => ?_, fun w hw => ?_, ?_⟩, fun k hk2 => ?_⟩
  · obtain ⟨d, x1, x2, x3⟩ := b2 f hf
    exact ⟨d, x1, by rw [ft _ (by omega)]; exact x3⟩
  · obtain ⟨f, d, x1, x2, x3, x4, x5, x6⟩ := b3 w hw
    exact ⟨f, x1, by rw [ft _ (by omega)]; exact x4⟩
  · obtain ⟨li, bg, ag, pa, wi, ch, qu, l0, l1, l2, l3, l4, l5, l6⟩ := c0
    exact ⟨li, bg, ag, pa, wi, ch, qu, ⟨by rw [ft 10 (by decide)]; exact l0.2.1, l0.2.2⟩, ⟨by rw [ft 11 (by decide)]; exact l1.2.1, l1.2.2⟩, ⟨by rw [ft 12 (by decide)]; exact l2.2.1, l2.2.2⟩, ⟨by rw [ft 13 (by decide)]; exact l3.2.1, l3.2.2⟩, ⟨by rw [ft 14 (by decide)]; exact l4.2.1, l4.2.2⟩, ⟨by rw [ft 15 (by decide)]; exact l5.2.1, l5.2.2⟩, ⟨by rw [ft 16 (by decide)]; exact l6.2.1, l6.2.2⟩⟩
  · rcases e0 k hk2 with ⟨l0, l1⟩ | ⟨l0, fr, many, m1, m2, m3, m4, m5, m6, m7⟩
    · exact Or.inl (by rw [ft _ (by omega)]; exact l0)
    · refine Or.inr ⟨by rw [ft _ (by omega)]; exact l0, fr, many, by rw [ft _ (by omega)]; exact m1, by rw [ft _ (by omega)]; exact m2, m5, by omega, fun t ht => ?_, ?_⟩
      · have := pl_lcb m6 ht m7
        rw [pg_fh_at (by omega), Nat.add_assoc, (g.2.1.2.2 (fr + t) (by omega)).2]
        exact nI_pos (by omega)
      · rw [pl_lc hk2 (fun j hj => (g.2.1.2.2 j hj).2) m1 m2 m6 (by omega) m7]
        exact m7
theorem pr_told2 (g : pr_B n b st cs σ τ) (t : pr_T D F W ln cs σ τ) (hk : cs.length ≤ st) : pc_H 2 (pg_fh τ) D F W σ ∧ pc_L 2 (pg_fh τ) σ := by
  have lt := g.lt
  obtain ⟨⟨a1, a2, a3⟩, ⟨b1, b2, b3, b4, b5⟩, c0, d0, e0, f0⟩ := t
  have ft : ∀ k, k < 35 → pg_fh τ k = τ.1 332 k := fun k hk => pg_fh_at (Or.inl hk)
  have hD := a1.2.2
  have hF := a2.2.2
  have hW := a3.2.2
  obtain ⟨li, bg, ag, pa, wi, ch, qu, l0, l1, l2, l3, l4, l5, l6⟩ := c0
  refine ⟨⟨⟨by rw [ft 10 (by decide), l0.1, l0.2.1], by rw [ft 11 (by decide), l1.1, l1.2.1], by rw [ft 12 (by decide), l2.1, l2.2.1], by rw [ft 13 (by decide), l3.1, l3.2.1], by rw [ft 14 (by decide), l4.1, l4.2.1], by rw [ft 15 (by decide), l5.1, l5.2.1], by rw [ft 16 (by decide), l6.1, l6.2.1], by rw [ft 1 (by decide), a1.1, a1.2.1], by rw [ft 2 (by decide), a2.1, a2.2.1], by rw [ft 3 (by decide), a3.1, a3.2.1], by rw [ft 0 (by decide), f0.1, f0.2]⟩, fun d hd => ?_, fun f hf => ?_, fun w hw => ?_, fun w hw => ?_⟩, fun k hk2 => ?_⟩
  · show σ.1 4 d = _
    rw [b5 d hd]
    exact (pa_on_congr hW hF (fun k _ k2 => ft k k2) (fun w hw => by
      obtain ⟨f, q, x1, x2, x3, x4, _⟩ := b3 w hw
      exact ⟨f, x1, x4⟩)).symm
  · obtain ⟨d, x1, x2, x3⟩ := b2 f hf
    show σ.1 5 f = _
    rw [ft _ (by omega), x2, x3]
  · obtain ⟨f, d, x1, x2, x3, x4, x5, x6⟩ := b3 w hw
    show σ.1 6 w = _
    rw [ft _ (by omega), x3, x4]
  · obtain ⟨f, d, x1, x2, x3, x4, x5, x6⟩ := b3 w hw
    show σ.1 7 w = _
    rw [ft (29 + w) (by omega), x4, nI_clamp (by omega), ft _ (by omega), x5, x6]
  · rcases e0 k hk2 with ⟨l0, l1⟩ | ⟨l0, fr, many, m1, m2, m3, m4, m5, m6, m7⟩
    · refine ⟨fun _ => l1, fun h1 => ?_⟩
      rw [ft _ (by omega), l0] at h1
      exact absurd h1 (by decide)
    · refine ⟨fun h1 => ?_, fun _ => ⟨?_, ?_, fun t ht => ?_⟩⟩
      · rw [ft _ (by omega), l0] at h1
        exact absurd h1 (by decide)
      · show σ.1 9 (2 + 2 * k) = _
        rw [ft _ (by omega), m1]
        exact m3
      · show σ.1 9 (3 + 2 * k) = _
        rw [ft _ (by omega), ft _ (by omega), m1, m2, nI_add]
        exact m4
      · rw [ft _ (by omega), m2, nI_clamp (by omega)] at ht
        have hc := pl_lcb m6 ht m7
        obtain ⟨y1, y2⟩ := g.2.1.2.2 (fr + t) (by omega)
        show σ.1 10 _ = _
        rw [ft (6 + k) (by omega), m1, nI_clamp (n := fr) (by omega), pg_fh_at (by omega), Nat.add_assoc, y2, nI_clamp (by omega), y1]
theorem pr_told (g : pr_B n b st cs σ τ) (t : pr_T D F W ln cs σ τ) (hk : cs.length ≤ st) : pa_WH (pg_fh τ, D, F, W) ∧ pc_Wh (pg_fh τ, D, F, W) 2 σ := ⟨pr_told1 g t hk, pr_told2 g t hk⟩
end TOLD2
