/-! images -/
theorem pz_fi5 {k n : Nat} {v : Int32} (hn : n ≤ 9999) : ∀ (m i fuel : Nat) (σ : ps_S), i + m = n → m < fuel → qJ7_fill_53178_5 k n v (nI n) fuel (nI i) σ = some (nI n, ps_rI σ k (fun j => if i ≤ j ∧ j < n then v else σ.1 k j)) := by
  intro m
  induction m with
  | zero =>
    intro i fuel σ e1 e2
    obtain ⟨f, rfl⟩ : ∃ f, fuel = f + 1 := ⟨fuel - 1, by omega⟩
    have : i = n := by omega
    subst this
    rw [qJ7_fill_53178_5, if_pos (nI_le (Nat.le_refl _) (by omega)), ps_rI_id]
    funext j
    rw [if_neg (by omega)]
  | succ m ih =>
    intro i fuel σ e1 e2
    obtain ⟨f, rfl⟩ : ∃ f, fuel = f + 1 := ⟨fuel - 1, by omega⟩
    rw [qJ7_fill_53178_5, if_neg (nI_ge (by omega) (by omega)), if_pos (pz_ini (by omega) (by omega)), nI_clamp (by omega), pz_lt, pz_lt, nI_1, ih (i + 1) f _ (by omega) (by omega), ps_rI_2']
    congr 3
    funext j
    by_cases c1 : j = i
    · subst c1
      rw [if_neg (by omega), if_pos (by omega), ps_rI_at, upd_self]
    · by_cases c2 : i + 1 ≤ j ∧ j < n
      · rw [if_pos c2, if_pos (by omega)]
      · rw [if_neg c2, if_neg (by omega), ps_rI_at, upd_ne _ _ c1]
theorem pz_fi {k n : Nat} {v : Int32} {σ : ps_S} (hn : n ≤ 9999) : qJ7_fill_53178 k n v σ = some ((), ps_rI σ k (fun j => if j < n then v else σ.1 k j)) := by
  unfold qJ7_fill_53178
  have e : (Int32.ofNat n) = nI n := rfl
  have hl := pz_fi5 (k := k) (v := v) hn n 0 ps_N σ (by omega) (by unfold ps_N; omega)
  have e0 : nI 0 = 0 := rfl
  rw [e0] at hl
  rw [pz_lt, e, hl, pz_bds]
  show some ((), _) = _
  congr 3
  funext j
  by_cases c : j < n
  · rw [if_pos c, if_pos (by omega)]
  · rw [if_neg c, if_neg (by omega)]
/-- a host of the class copied -/
def pc_h9 (B : Nat) (σ τ : ps_S) : Prop := (∀ k, k < B ∨ B + 9 ≤ k → τ.1 k = σ.1 k) ∧ τ.2 = σ.2
def pc_kz (B B1 : Nat) (Q : Nat → Nat → Prop) (σ τ : ps_S) : Prop := (∀ o i, Q o i → τ.1 (B + o) i = σ.1 (B1 + o) i) ∧ pc_h9 B σ τ
section HCP
variable {B B1 : Nat} {Q : Nat → Nat → Prop} {σ τ : ps_S}
theorem pc_kz.u (g : pc_kz B B1 Q σ τ) (hd : B1 + 9 ≤ B ∨ B + 9 ≤ B1) (o j : Nat) (ho : o < 9) : pc_kz B B1 (fun o' i' => Q o' i' ∨ (o' = o ∧ i' = j)) σ (ps_rI τ (B + o) (upd (τ.1 (B + o)) j (τ.1 (B1 + o) j))) := by
  refine ⟨fun o' i' h => ?_, fun k hk => ?_, g.2.2⟩
  · by_cases c : o' = o
    · subst c
      rw [ps_rI_at]
      by_cases c2 : i' = j
      · subst c2
        rw [upd_self, g.2.1 _ (by omega)]
      · rw [upd_ne _ _ c2]
        exact g.1 _ _ (h.resolve_right (fun hh => c2 hh.2))
    · rw [ps_rI_ne _ _ (by omega)]
      exact g.1 _ _ (h.resolve_right (fun hh => c hh.1))
  · rw [ps_rI_ne _ _ (by omega)]
    exact g.2.1 k hk
theorem pc_kz.c (g : pc_kz B B1 Q σ τ) (hd : B1 + 9 ≤ B ∨ B + 9 ≤ B1) (o n : Nat) (ho : o < 9) (hQ : ∀ i, ¬ Q o i) : pc_kz B B1 (fun o' i' => Q o' i' ∨ (o' = o ∧ i' < n)) σ (ps_rI τ (B + o) (va_cpy (τ.1 (B1 + o)) (τ.1 (B + o)) 0 0 n)) := by
  refine ⟨fun o' i' h => ?_, fun k hk => ?_, g.2.2⟩
  · by_cases c : o' = o
    · subst c
      have := h.resolve_left (hQ _)
      rw [ps_rI_at, va_cpy_in this.2, g.2.1 _ (by omega)]
    · rw [ps_rI_ne _ _ (by omega)]
      exact g.1 _ _ (h.resolve_right (fun hh => c hh.1))
  · rw [ps_rI_ne _ _ (by omega)]
    exact g.2.1 k hk
def pc_hl (o : Nat) : Nat := if o < 3 then 4 else if o = 3 then 12 else 6
def pc_kQ (m o i : Nat) : Prop := (o = 0 ∧ i < 11 ∧ i < m) ∨ (1 ≤ o ∧ o ≤ 6 ∧ o + 10 < m ∧ i < pc_hl o) ∨ (o = 8 ∧ 17 < m ∧ i < 900) ∨ (o = 7 ∧ 1 ≤ i ∧ i < 6 ∧ i + 17 < m)
theorem pc_kz.mono {R : Nat → Nat → Prop} (g : pc_kz B B1 Q σ τ) (h : ∀ o i, R o i → Q o i) : pc_kz B B1 R σ τ := ⟨fun o i hh => g.1 o i (h o i hh), g.2⟩
theorem pc_kz.f {m : Nat} (g : pc_kz B B1 (pc_kQ m) σ τ) (hd : B1 + 9 ≤ B ∨ B + 9 ≤ B1) (hm : m < 11) : pc_kz B B1 (pc_kQ (m + 1)) σ (ps_rI τ B (upd (τ.1 B) m (τ.1 B1 m))) := (g.u hd 0 m (by decide)).mono (fun o i h => by unfold pc_kQ at h ⊢; omega)
theorem pc_kz.r {m : Nat} (g : pc_kz B B1 (pc_kQ m) σ τ) (hd : B1 + 9 ≤ B ∨ B + 9 ≤ B1) (o n : Nat) (hm : m = 10 + o) (ho : 1 ≤ o ∧ o ≤ 6) (hn : n = pc_hl o) : pc_kz B B1 (pc_kQ (m + 1)) σ (ps_rI τ (B + o) (va_cpy (τ.1 (B1 + o)) (τ.1 (B + o)) 0 0 n)) := (g.c hd o n (by omega) (fun i h => by unfold pc_kQ at h; omega)).mono (fun o' i h => by
  unfold pc_kQ at h ⊢
  subst hn
  by_cases c : o' = o
  · subst c; omega
  · omega)
theorem pc_kz.e (g : pc_kz B B1 (pc_kQ 17) σ τ) (hd : B1 + 9 ≤ B ∨ B + 9 ≤ B1) : pc_kz B B1 (pc_kQ 18) σ (ps_rI τ (B + 8) (va_cpy (τ.1 (B1 + 8)) (τ.1 (B + 8)) 0 0 900)) := (g.c hd 8 900 (by omega) (fun i h => by unfold pc_kQ at h; omega)).mono (fun o' i h => by unfold pc_kQ at h ⊢; omega)
theorem pc_kz.w {m : Nat} (g : pc_kz B B1 (pc_kQ m) σ τ) (hd : B1 + 9 ≤ B ∨ B + 9 ≤ B1) (j : Nat) (hm : m = 17 + j) (hj : 1 ≤ j ∧ j < 6) : pc_kz B B1 (pc_kQ (m + 1)) σ (ps_rI τ (B + 7) (upd (τ.1 (B + 7)) j (τ.1 (B1 + 7) j))) := (g.u hd 7 j (by decide)).mono (fun o i h => by unfold pc_kQ at h ⊢; omega)
theorem pc_hcp (hd : B1 + 9 ≤ B ∨ B + 9 ≤ B1) : ps_ok (qX2_copyFrom B B1 σ) (fun _ τ => pc_kz B B1 (pc_kQ 23) σ τ) := by
  have g0 : pc_kz B B1 (pc_kQ 0) σ σ := ⟨fun o i h => by unfold pc_kQ at h; omega, fun _ _ => rfl, rfl⟩
  unfold qX2_copyFrom
  rw [pz_lt, pz_lt]
  have g1 := g0.f hd (by decide)
  generalize ps_rI σ B (upd (σ.1 B) 0 (σ.1 B1 0)) = σ1 at g1 ⊢
  rw [pz_lt, pz_lt]
  have g2 := g1.f hd (by decide)
  generalize ps_rI σ1 B (upd (σ1.1 B) 1 (σ1.1 B1 1)) = σ2 at g2 ⊢
  rw [pz_lt, pz_lt]
  have g3 := g2.f hd (by decide)
  generalize ps_rI σ2 B (upd (σ2.1 B) 2 (σ2.1 B1 2)) = σ3 at g3 ⊢
  rw [pz_lt, pz_lt]
  have g4 := g3.f hd (by decide)
  generalize ps_rI σ3 B (upd (σ3.1 B) 3 (σ3.1 B1 3)) = σ4 at g4 ⊢
  rw [pz_lt, pz_lt]
  have g5 := g4.f hd (by decide)
  generalize ps_rI σ4 B (upd (σ4.1 B) 4 (σ4.1 B1 4)) = σ5 at g5 ⊢
  rw [pz_lt, pz_lt]
  have g6 := g5.f hd (by decide)
  generalize ps_rI σ5 B (upd (σ5.1 B) 5 (σ5.1 B1 5)) = σ6 at g6 ⊢
  rw [pz_lt, pz_lt]
  have g7 := g6.f hd (by decide)
  generalize ps_rI σ6 B (upd (σ6.1 B) 6 (σ6.1 B1 6)) = σ7 at g7 ⊢
  rw [pz_lt, pz_lt]
  have g8 := g7.f hd (by decide)
  generalize ps_rI σ7 B (upd (σ7.1 B) 7 (σ7.1 B1 7)) = σ8 at g8 ⊢
  rw [pz_lt, pz_lt]
  have g9 := g8.f hd (by decide)
  generalize ps_rI σ8 B (upd (σ8.1 B) 8 (σ8.1 B1 8)) = σ9 at g9 ⊢
  rw [pz_lt, pz_lt]
  have g10 := g9.f hd (by decide)
  generalize ps_rI σ9 B (upd (σ9.1 B) 9 (σ9.1 B1 9)) = σ10 at g10 ⊢
  rw [pz_lt, pz_lt]
  have g11 := g10.f hd (by decide)
  generalize ps_rI σ10 B (upd (σ10.1 B) 10 (σ10.1 B1 10)) = σ11 at g11 ⊢
  rw [pz_lt]
  have g12 := g11.r hd 1 4 (by decide) (by decide) (by decide)
  generalize ps_rI σ11 (B + 1) (va_cpy (σ11.1 (B1 + 1)) (σ11.1 (B + 1)) 0 0 4) = σ12 at g12 ⊢
  rw [pz_lt]
  have g13 := g12.r hd 2 4 (by decide) (by decide) (by decide)
  generalize ps_rI σ12 (B + 2) (va_cpy (σ12.1 (B1 + 2)) (σ12.1 (B + 2)) 0 0 4) = σ13 at g13 ⊢
  rw [pz_lt]
  have g14 := g13.r hd 3 12 (by decide) (by decide) (by decide)
  generalize ps_rI σ13 (B + 3) (va_cpy (σ13.1 (B1 + 3)) (σ13.1 (B + 3)) 0 0 12) = σ14 at g14 ⊢
  rw [pz_lt]
  have g15 := g14.r hd 4 6 (by decide) (by decide) (by decide)
  generalize ps_rI σ14 (B + 4) (va_cpy (σ14.1 (B1 + 4)) (σ14.1 (B + 4)) 0 0 6) = σ15 at g15 ⊢
  rw [pz_lt]
  have g16 := g15.r hd 5 6 (by decide) (by decide) (by decide)
  generalize ps_rI σ15 (B + 5) (va_cpy (σ15.1 (B1 + 5)) (σ15.1 (B + 5)) 0 0 6) = σ16 at g16 ⊢
  rw [pz_lt]
  have g17 := g16.r hd 6 6 (by decide) (by decide) (by decide)
  generalize ps_rI σ16 (B + 6) (va_cpy (σ16.1 (B1 + 6)) (σ16.1 (B + 6)) 0 0 6) = σ17 at g17 ⊢
  unfold qX3_copyFrom
  rw [pz_lt]
  have g18 := g17.e hd
  generalize ps_rI σ17 (B + 8) (va_cpy (σ17.1 (B1 + 8)) (σ17.1 (B + 8)) 0 0 900) = σ18 at g18 ⊢
  rw [pz_lt, pz_lt]
  have g19 := g18.w hd 1 (by decide) (by decide)
  generalize ps_rI σ18 (B + 7) (upd (σ18.1 (B + 7)) 1 (σ18.1 (B1 + 7) 1)) = σ19 at g19 ⊢
  rw [pz_lt, pz_lt]
  have g20 := g19.w hd 2 (by decide) (by decide)
  generalize ps_rI σ19 (B + 7) (upd (σ19.1 (B + 7)) 2 (σ19.1 (B1 + 7) 2)) = σ20 at g20 ⊢
  rw [pz_lt, pz_lt]
  have g21 := g20.w hd 3 (by decide) (by decide)
  generalize ps_rI σ20 (B + 7) (upd (σ20.1 (B + 7)) 3 (σ20.1 (B1 + 7) 3)) = σ21 at g21 ⊢
  rw [pz_lt, pz_lt]
  have g22 := g21.w hd 4 (by decide) (by decide)
  generalize ps_rI σ21 (B + 7) (upd (σ21.1 (B + 7)) 4 (σ21.1 (B1 + 7) 4)) = σ22 at g22 ⊢
  rw [pz_lt, pz_lt]
  have g23 := g22.w hd 5 (by decide) (by decide)
  generalize ps_rI σ22 (B + 7) (upd (σ22.1 (B + 7)) 5 (σ22.1 (B1 + 7) 5)) = σ23 at g23 ⊢
  rw [pz_bds]
  exact pz_done g23
theorem pc_kQ23 {o i : Nat} (h : (o = 0 ∧ i < 11) ∨ ((o = 1 ∨ o = 2) ∧ i < 4) ∨ (o = 3 ∧ i < 12) ∨ ((o = 4 ∨ o = 5 ∨ o = 6) ∧ i < 6) ∨ (o = 7 ∧ 1 ≤ i ∧ i < 6) ∨ (o = 8 ∧ i < 900)) : pc_kQ 23 o i := by
  unfold pc_kQ pc_hl
  by_cases c1 : o < 3
  · rw [if_pos c1]; omega
  · rw [if_neg c1]
    by_cases c2 : o = 3
    · rw [if_pos c2]; omega
    · rw [if_neg c2]; omega
theorem pc_hcopy {H : pa_H} (hI : pa_WH H) (hd : B1 + 9 ≤ B ∨ B + 9 ≤ B1) (w : pc_Wh H B1 σ) : ps_ok (qX2_copyFrom B B1 σ) (fun _ τ => pc_Wh H B τ ∧ pc_h9 B σ τ) := by
  refine pz_im (pc_hcp hd) (fun _ τ h => ⟨⟨?_, ?_⟩, h.2⟩)
  · obtain ⟨⟨a0, a1, a2, a3, a4, a5, a6, a7, a8, a9, a10⟩, b1, b2, b3, b4⟩ := w.1
    have hF := hI.1.2.1.2
    have hW := hI.1.2.2.1.2
    have q : ∀ i, i < 11 → τ.1 B i = σ.1 B1 i := fun i hi => h.1 0 i (pc_kQ23 (by omega))
    refine ⟨⟨?_, ?_, ?_, ?_, ?_, ?_, ?_, ?_, ?_, ?_, ?_⟩, fun d hd => ?_, fun f hf => ?_, fun v hv => ?_, fun v hv => ?_⟩
    · rw [q 0 (by decide)]; exact a0
    · rw [q 1 (by decide)]; exact a1
    · rw [q 2 (by decide)]; exact a2
    · rw [q 3 (by decide)]; exact a3
    · rw [q 4 (by decide)]; exact a4
    · rw [q 5 (by decide)]; exact a5
    · rw [q 6 (by decide)]; exact a6
    · rw [q 7 (by decide)]; exact a7
    · rw [q 8 (by decide)]; exact a8
    · rw [q 9 (by decide)]; exact a9
    · rw [q 10 (by decide)]; exact a10
    · rw [h.1 2 d (pc_kQ23 (by omega))]; exact b1 d hd
    · rw [h.1 3 f (pc_kQ23 (by omega))]; exact b2 f hf
    · rw [h.1 4 v (pc_kQ23 (by omega))]; exact b3 v hv
    · rw [h.1 5 v (pc_kQ23 (by omega))]; exact b4 v hv
  · intro k hk
    have q : ∀ i, 1 ≤ i → i < 6 → τ.1 (B + 7) i = σ.1 (B1 + 7) i := fun i h1 h2 => h.1 7 i (pc_kQ23 (by omega))
    rw [q (2 + 2 * k) (by omega) (by omega), q (3 + 2 * k) (by omega) (by omega)]
    refine ⟨(w.2 k hk).1, fun e => ?_⟩
    obtain ⟨c1, c2, c3⟩ := (w.2 k hk).2 e
    refine ⟨c1, c2, fun t ht => ?_⟩
    rcases hI.2 k hk with e0 | ⟨-, fr, many, h6, h8, hm, hb, hn, hty⟩
    · rw [e0] at e; exact absurd e (by decide)
    · have h6' : (h : pa_R) → h (6 + k) = nI fr → (h (6 + k)).toNatClampNeg = fr := fun h e => by rw [e, nI_clamp (by omega)]
      have h8' : (H.1 (8 + k)).toNatClampNeg = many := by rw [h8, nI_clamp (by omega)]
      have h66 := h6' H.1 h6
      rw [h.1 8 _ (pc_kQ23 (by omega))]
      exact c3 t ht
end HCP
