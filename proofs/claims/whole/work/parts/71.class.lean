/-! a state of the class as a row of the reference's kind -/
def pc_lo (k : Nat) : Nat := if k = 0 then 0 else if k < 13 then 11 else if k < 25 then 12 else if k < 29 then 2 else if k < 33 then 3 else if k < 37 then 5 else if k < 41 then 7 else if k < 45 then 10 else if k < 49 then 8 else if k < 53 then 9 else if k < 59 then 13 else if k < 65 then 14 else if k < 71 then 15 else if k < 77 then 16 else 17
def pc_ix (k : Nat) : Nat := if k = 0 then 8 else if k < 13 then (k - 1) else if k < 25 then (k - 13) else if k < 29 then (k - 25) else if k < 33 then (k - 29) else if k < 37 then (k - 33) else if k < 41 then (k - 37) else if k < 45 then (k - 41) else if k < 49 then (k - 45) else if k < 53 then (k - 49) else if k < 59 then (k - 53) else if k < 65 then (k - 59) else if k < 71 then (k - 65) else if k < 77 then (k - 71) else (k - 77)
theorem pc_inj : ∀ j, j < 83 → ∀ k, k < 83 → pc_lo j = pc_lo k → pc_ix j = pc_ix k → j = k := by decide +kernel
theorem pc_lo18 : ∀ k, k < 83 → pc_lo k < 18 := by decide +kernel
def pc_p (k : Nat) : Int32 := if 41 ≤ k ∧ k < 45 then 1 else 0
def pc_f (B : Nat) (σ : ps_S) : pa_R := fun k => σ.1 (B + pc_lo k) (pc_ix k) + pc_p k
def pc_r (D W B : Nat) (σ : ps_S) : pa_R := pa_can D W (pc_f B σ)
def pc_e (D B : Nat) (σ : ps_S) : pa_D := fun k => if k < D then σ.2.2 (B + 6) k else 0
theorem pc_rdG {D W B k : Nat} {σ : ps_S} (h : pa_live D W k) : pc_r D W B σ k = σ.1 (B + pc_lo k) (pc_ix k) + pc_p k := by
  unfold pc_r
  rw [pa_can_at h]
  rfl
theorem pc_upG {D W B k : Nat} {σ : ps_S} {v : Int32} (h : pa_live D W k) : pc_r D W B (ps_rI σ (B + pc_lo k) (upd (σ.1 (B + pc_lo k)) (pc_ix k) v)) = upd (pc_r D W B σ) k (v + pc_p k) := by
  unfold pc_r
  rw [← pa_can_upd h]
  refine pa_can_congr (fun j hj => ?_)
  unfold pc_f
  by_cases hjk : j = k
  · subst hjk
    rw [ps_rI_at, upd_self, upd_self]
  · rw [upd_ne _ _ hjk]
    by_cases h1 : pc_lo j = pc_lo k
    · rw [h1, ps_rI_at, upd_ne _ _ (fun h2 => hjk (pc_inj j hj.1 k h.1 h1 h2))]
    · rw [ps_rI_ne _ _ (by omega)]
theorem pc_upN {D W B o i : Nat} {σ : ps_S} {v : Int32} (h : ∀ k, k < 83 → ¬ (pc_lo k = o ∧ pc_ix k = i)) : pc_r D W B (ps_rI σ (B + o) (upd (σ.1 (B + o)) i v)) = pc_r D W B σ := by
  unfold pc_r
  refine pa_can_congr (fun j hj => ?_)
  unfold pc_f
  by_cases h1 : pc_lo j = o
  · subst h1
    rw [ps_rI_at, upd_ne _ _ (fun h2 => h j hj.1 ⟨rfl, h2⟩)]
  · rw [ps_rI_ne _ _ (by omega)]
theorem pc_upO {D W B c : Nat} {σ : ps_S} {f : pa_R} (h : c < B ∨ B + 18 ≤ c) : pc_r D W B (ps_rI σ c f) = pc_r D W B σ := by
  unfold pc_r
  refine pa_can_congr (fun j hj => ?_)
  unfold pc_f
  have := pc_lo18 j hj.1
  rw [ps_rI_ne _ _ (by omega)]
theorem pc_congr {D W B B' : Nat} {σ τ : ps_S} (h : ∀ o, o < 18 → τ.1 (B' + o) = σ.1 (B + o)) : pc_r D W B' τ = pc_r D W B σ := by
  unfold pc_r
  refine pa_can_congr (fun j hj => ?_)
  unfold pc_f
  rw [h _ (pc_lo18 j hj.1)]
theorem pc_rDr {D W B k : Nat} {σ : ps_S} {f : pa_D} : pc_r D W B (ps_rD σ k f) = pc_r D W B σ := rfl
theorem pc_eI {D B k : Nat} {σ : ps_S} {f : pa_R} : pc_e D B (ps_rI σ k f) = pc_e D B σ := rfl
theorem pc_eO {D B k : Nat} {σ : ps_S} {f : pa_D} (h : k ≠ B + 6) : pc_e D B (ps_rD σ k f) = pc_e D B σ := by unfold pc_e; rw [ps_rD_ne _ _ (Ne.symm h)]
theorem pc_eU {D B d : Nat} {σ : ps_S} {v : UInt64} (h : d < D) : pc_e D B (ps_rD σ (B + 6) (vf_upd (σ.2.2 (B + 6)) d v)) = vf_upd (pc_e D B σ) d v := by
  funext k
  unfold pc_e
  rw [ps_rD_at]
  unfold vf_upd
  by_cases hk : k = d
  · subst hk; rw [if_pos h, if_pos rfl, if_pos rfl]
  · rw [if_neg hk, if_neg hk]
theorem pg_eU {D d : Nat} {σ : ps_S} {v : UInt64} (h : d < D) : pg_e D (ps_rD σ 336 (vf_upd (σ.2.2 336) d v)) = vf_upd (pg_e D σ) d v := by
  funext k
  unfold pg_e
  rw [ps_rD_at]
  unfold vf_upd
  by_cases hk : k = d
  · subst hk; rw [if_pos h, if_pos rfl, if_pos rfl]
  · rw [if_neg hk, if_neg hk]
theorem pc_xt : pc_lo 0 = 0 ∧ pc_ix 0 = 8 := by decide
theorem pc_rdt {D W B : Nat} {σ : ps_S} : pc_r D W B σ 0 = σ.1 B 8 := by
  rw [pc_rdG ⟨by decide, by omega, by omega⟩, pc_xt.1, pc_xt.2]
  exact Int32.add_zero _
theorem pc_upt {D W B : Nat} {σ : ps_S} {v : Int32} : pc_r D W B (ps_rI σ B (upd (σ.1 B) 8 v)) = upd (pc_r D W B σ) 0 v := by
  have h := pc_upG (D := D) (W := W) (B := B) (k := 0) (σ := σ) (v := v) ⟨by decide, by omega, by omega⟩
  rw [pc_xt.1, pc_xt.2] at h
  rw [show v + pc_p 0 = v from Int32.add_zero _] at h
  exact h
theorem pc_up0 {D W B i : Nat} {σ : ps_S} {v : Int32} (h : i ≠ 8) : pc_r D W B (ps_rI σ B (upd (σ.1 B) i v)) = pc_r D W B σ := by
  have e : ∀ k, k < 83 → pc_lo k = 0 → pc_ix k = 8 := by decide +kernel
  exact pc_upN (o := 0) (fun k hk hh => h (hh.2.symm.trans (e k hk hh.1)))
theorem pc_up4 {D W B i : Nat} {σ : ps_S} {v : Int32} : pc_r D W B (ps_rI σ (B + 4) (upd (σ.1 (B + 4)) i v)) = pc_r D W B σ := by
  have e : ∀ k, k < 83 → pc_lo k ≠ 4 := by decide +kernel
  exact pc_upN (o := 4) (fun k hk hh => e k hk hh.1)
theorem pc_x11 : ∀ i, i < 12 → pc_lo (1 + i) = 11 ∧ pc_ix (1 + i) = i ∧ pc_p (1 + i) = 0 := by decide +kernel
theorem pc_rd11 {D W B i : Nat} {σ : ps_S} (h : i < 12) : pc_r D W B σ (1 + i) = σ.1 (B + 11) i := by
  rw [pc_rdG ⟨by omega, by omega, by omega⟩, (pc_x11 i (by omega)).1, (pc_x11 i (by omega)).2.1, (pc_x11 i (by omega)).2.2]
  exact Int32.add_zero _
theorem pc_up11 {D W B i : Nat} {σ : ps_S} {v : Int32} (h : i < 12) : pc_r D W B (ps_rI σ (B + 11) (upd (σ.1 (B + 11)) i v)) = upd (pc_r D W B σ) (1 + i) v := by
  have h1 := pc_upG (D := D) (W := W) (B := B) (k := 1 + i) (σ := σ) (v := v) ⟨by omega, by omega, by omega⟩
  rw [(pc_x11 i (by omega)).1, (pc_x11 i (by omega)).2.1, (pc_x11 i (by omega)).2.2, Int32.add_zero] at h1
  exact h1
theorem pc_x12 : ∀ i, i < 12 → pc_lo (13 + i) = 12 ∧ pc_ix (13 + i) = i ∧ pc_p (13 + i) = 0 := by decide +kernel
theorem pc_rd12 {D W B i : Nat} {σ : ps_S} (h : i < 12) : pc_r D W B σ (13 + i) = σ.1 (B + 12) i := by
  rw [pc_rdG ⟨by omega, by omega, by omega⟩, (pc_x12 i (by omega)).1, (pc_x12 i (by omega)).2.1, (pc_x12 i (by omega)).2.2]
  exact Int32.add_zero _
theorem pc_up12 {D W B i : Nat} {σ : ps_S} {v : Int32} (h : i < 12) : pc_r D W B (ps_rI σ (B + 12) (upd (σ.1 (B + 12)) i v)) = upd (pc_r D W B σ) (13 + i) v := by
  have h1 := pc_upG (D := D) (W := W) (B := B) (k := 13 + i) (σ := σ) (v := v) ⟨by omega, by omega, by omega⟩
  rw [(pc_x12 i (by omega)).1, (pc_x12 i (by omega)).2.1, (pc_x12 i (by omega)).2.2, Int32.add_zero] at h1
  exact h1
theorem pc_x2 : ∀ i, i < 4 → pc_lo (25 + i) = 2 ∧ pc_ix (25 + i) = i ∧ pc_p (25 + i) = 0 := by decide +kernel
theorem pc_rd2 {D W B i : Nat} {σ : ps_S} (hD : D ≤ 4) (h : i < D) : pc_r D W B σ (25 + i) = σ.1 (B + 2) i := by
  rw [pc_rdG ⟨by omega, by omega, by omega⟩, (pc_x2 i (by omega)).1, (pc_x2 i (by omega)).2.1, (pc_x2 i (by omega)).2.2]
  exact Int32.add_zero _
theorem pc_up2 {D W B i : Nat} {σ : ps_S} {v : Int32} (hD : D ≤ 4) (h : i < D) : pc_r D W B (ps_rI σ (B + 2) (upd (σ.1 (B + 2)) i v)) = upd (pc_r D W B σ) (25 + i) v := by
  have h1 := pc_upG (D := D) (W := W) (B := B) (k := 25 + i) (σ := σ) (v := v) ⟨by omega, by omega, by omega⟩
  rw [(pc_x2 i (by omega)).1, (pc_x2 i (by omega)).2.1, (pc_x2 i (by omega)).2.2, Int32.add_zero] at h1
  exact h1
theorem pc_x3 : ∀ i, i < 4 → pc_lo (29 + i) = 3 ∧ pc_ix (29 + i) = i ∧ pc_p (29 + i) = 0 := by decide +kernel
theorem pc_rd3 {D W B i : Nat} {σ : ps_S} (h : i < 4) : pc_r D W B σ (29 + i) = σ.1 (B + 3) i := by
  rw [pc_rdG ⟨by omega, by omega, by omega⟩, (pc_x3 i (by omega)).1, (pc_x3 i (by omega)).2.1, (pc_x3 i (by omega)).2.2]
  exact Int32.add_zero _
theorem pc_up3 {D W B i : Nat} {σ : ps_S} {v : Int32} (h : i < 4) : pc_r D W B (ps_rI σ (B + 3) (upd (σ.1 (B + 3)) i v)) = upd (pc_r D W B σ) (29 + i) v := by
  have h1 := pc_upG (D := D) (W := W) (B := B) (k := 29 + i) (σ := σ) (v := v) ⟨by omega, by omega, by omega⟩
  rw [(pc_x3 i (by omega)).1, (pc_x3 i (by omega)).2.1, (pc_x3 i (by omega)).2.2, Int32.add_zero] at h1
  exact h1
theorem pc_x5 : ∀ i, i < 4 → pc_lo (33 + i) = 5 ∧ pc_ix (33 + i) = i ∧ pc_p (33 + i) = 0 := by decide +kernel
theorem pc_rd5 {D W B i : Nat} {σ : ps_S} (h : i < 4) : pc_r D W B σ (33 + i) = σ.1 (B + 5) i := by
  rw [pc_rdG ⟨by omega, by omega, by omega⟩, (pc_x5 i (by omega)).1, (pc_x5 i (by omega)).2.1, (pc_x5 i (by omega)).2.2]
  exact Int32.add_zero _
theorem pc_up5 {D W B i : Nat} {σ : ps_S} {v : Int32} (h : i < 4) : pc_r D W B (ps_rI σ (B + 5) (upd (σ.1 (B + 5)) i v)) = upd (pc_r D W B σ) (33 + i) v := by
  have h1 := pc_upG (D := D) (W := W) (B := B) (k := 33 + i) (σ := σ) (v := v) ⟨by omega, by omega, by omega⟩
  rw [(pc_x5 i (by omega)).1, (pc_x5 i (by omega)).2.1, (pc_x5 i (by omega)).2.2, Int32.add_zero] at h1
  exact h1
theorem pc_x7 : ∀ i, i < 4 → pc_lo (37 + i) = 7 ∧ pc_ix (37 + i) = i ∧ pc_p (37 + i) = 0 := by decide +kernel
theorem pc_rd7 {D W B i : Nat} {σ : ps_S} (h : i < 4) : pc_r D W B σ (37 + i) = σ.1 (B + 7) i := by
  rw [pc_rdG ⟨by omega, by omega, by omega⟩, (pc_x7 i (by omega)).1, (pc_x7 i (by omega)).2.1, (pc_x7 i (by omega)).2.2]
  exact Int32.add_zero _
theorem pc_up7 {D W B i : Nat} {σ : ps_S} {v : Int32} (h : i < 4) : pc_r D W B (ps_rI σ (B + 7) (upd (σ.1 (B + 7)) i v)) = upd (pc_r D W B σ) (37 + i) v := by
  have h1 := pc_upG (D := D) (W := W) (B := B) (k := 37 + i) (σ := σ) (v := v) ⟨by omega, by omega, by omega⟩
  rw [(pc_x7 i (by omega)).1, (pc_x7 i (by omega)).2.1, (pc_x7 i (by omega)).2.2, Int32.add_zero] at h1
  exact h1
theorem pc_x10 : ∀ i, i < 4 → pc_lo (41 + i) = 10 ∧ pc_ix (41 + i) = i ∧ pc_p (41 + i) = 1 := by decide +kernel
theorem pc_rd10 {D W B i : Nat} {σ : ps_S} (h : i < 4) : pc_r D W B σ (41 + i) = σ.1 (B + 10) i + 1 := by
  rw [pc_rdG ⟨by omega, by omega, by omega⟩, (pc_x10 i (by omega)).1, (pc_x10 i (by omega)).2.1, (pc_x10 i (by omega)).2.2]
  
theorem pc_up10 {D W B i : Nat} {σ : ps_S} {v : Int32} (h : i < 4) : pc_r D W B (ps_rI σ (B + 10) (upd (σ.1 (B + 10)) i v)) = upd (pc_r D W B σ) (41 + i) (v + 1) := by
  have h1 := pc_upG (D := D) (W := W) (B := B) (k := 41 + i) (σ := σ) (v := v) ⟨by omega, by omega, by omega⟩
  rw [(pc_x10 i (by omega)).1, (pc_x10 i (by omega)).2.1, (pc_x10 i (by omega)).2.2] at h1
  exact h1
theorem pc_x8 : ∀ i, i < 4 → pc_lo (45 + i) = 8 ∧ pc_ix (45 + i) = i ∧ pc_p (45 + i) = 0 := by decide +kernel
theorem pc_rd8 {D W B i : Nat} {σ : ps_S} (h : i < 4) : pc_r D W B σ (45 + i) = σ.1 (B + 8) i := by
  rw [pc_rdG ⟨by omega, by omega, by omega⟩, (pc_x8 i (by omega)).1, (pc_x8 i (by omega)).2.1, (pc_x8 i (by omega)).2.2]
  exact Int32.add_zero _
theorem pc_up8 {D W B i : Nat} {σ : ps_S} {v : Int32} (h : i < 4) : pc_r D W B (ps_rI σ (B + 8) (upd (σ.1 (B + 8)) i v)) = upd (pc_r D W B σ) (45 + i) v := by
  have h1 := pc_upG (D := D) (W := W) (B := B) (k := 45 + i) (σ := σ) (v := v) ⟨by omega, by omega, by omega⟩
  rw [(pc_x8 i (by omega)).1, (pc_x8 i (by omega)).2.1, (pc_x8 i (by omega)).2.2, Int32.add_zero] at h1
  exact h1
theorem pc_x9 : ∀ i, i < 4 → pc_lo (49 + i) = 9 ∧ pc_ix (49 + i) = i ∧ pc_p (49 + i) = 0 := by decide +kernel
theorem pc_rd9 {D W B i : Nat} {σ : ps_S} (h : i < 4) : pc_r D W B σ (49 + i) = σ.1 (B + 9) i := by
  rw [pc_rdG ⟨by omega, by omega, by omega⟩, (pc_x9 i (by omega)).1, (pc_x9 i (by omega)).2.1, (pc_x9 i (by omega)).2.2]
  exact Int32.add_zero _
theorem pc_up9 {D W B i : Nat} {σ : ps_S} {v : Int32} (h : i < 4) : pc_r D W B (ps_rI σ (B + 9) (upd (σ.1 (B + 9)) i v)) = upd (pc_r D W B σ) (49 + i) v := by
  have h1 := pc_upG (D := D) (W := W) (B := B) (k := 49 + i) (σ := σ) (v := v) ⟨by omega, by omega, by omega⟩
  rw [(pc_x9 i (by omega)).1, (pc_x9 i (by omega)).2.1, (pc_x9 i (by omega)).2.2, Int32.add_zero] at h1
  exact h1
theorem pc_x13 : ∀ i, i < 6 → pc_lo (53 + i) = 13 ∧ pc_ix (53 + i) = i ∧ pc_p (53 + i) = 0 := by decide +kernel
theorem pc_rd13 {D W B i : Nat} {σ : ps_S} (hD : W ≤ 6) (h : i < W) : pc_r D W B σ (53 + i) = σ.1 (B + 13) i := by
  rw [pc_rdG ⟨by omega, by omega, by omega⟩, (pc_x13 i (by omega)).1, (pc_x13 i (by omega)).2.1, (pc_x13 i (by omega)).2.2]
  exact Int32.add_zero _
theorem pc_up13 {D W B i : Nat} {σ : ps_S} {v : Int32} (hD : W ≤ 6) (h : i < W) : pc_r D W B (ps_rI σ (B + 13) (upd (σ.1 (B + 13)) i v)) = upd (pc_r D W B σ) (53 + i) v := by
  have h1 := pc_upG (D := D) (W := W) (B := B) (k := 53 + i) (σ := σ) (v := v) ⟨by omega, by omega, by omega⟩
  rw [(pc_x13 i (by omega)).1, (pc_x13 i (by omega)).2.1, (pc_x13 i (by omega)).2.2, Int32.add_zero] at h1
  exact h1
theorem pc_x14 : ∀ i, i < 6 → pc_lo (59 + i) = 14 ∧ pc_ix (59 + i) = i ∧ pc_p (59 + i) = 0 := by decide +kernel
theorem pc_rd14 {D W B i : Nat} {σ : ps_S} (h : i < 6) : pc_r D W B σ (59 + i) = σ.1 (B + 14) i := by
  rw [pc_rdG ⟨by omega, by omega, by omega⟩, (pc_x14 i (by omega)).1, (pc_x14 i (by omega)).2.1, (pc_x14 i (by omega)).2.2]
  exact Int32.add_zero _
theorem pc_up14 {D W B i : Nat} {σ : ps_S} {v : Int32} (h : i < 6) : pc_r D W B (ps_rI σ (B + 14) (upd (σ.1 (B + 14)) i v)) = upd (pc_r D W B σ) (59 + i) v := by
  have h1 := pc_upG (D := D) (W := W) (B := B) (k := 59 + i) (σ := σ) (v := v) ⟨by omega, by omega, by omega⟩
  rw [(pc_x14 i (by omega)).1, (pc_x14 i (by omega)).2.1, (pc_x14 i (by omega)).2.2, Int32.add_zero] at h1
  exact h1
theorem pc_x15 : ∀ i, i < 6 → pc_lo (65 + i) = 15 ∧ pc_ix (65 + i) = i ∧ pc_p (65 + i) = 0 := by decide +kernel
theorem pc_rd15 {D W B i : Nat} {σ : ps_S} (h : i < 6) : pc_r D W B σ (65 + i) = σ.1 (B + 15) i := by
  rw [pc_rdG ⟨by omega, by omega, by omega⟩, (pc_x15 i (by omega)).1, (pc_x15 i (by omega)).2.1, (pc_x15 i (by omega)).2.2]
  exact Int32.add_zero _
theorem pc_up15 {D W B i : Nat} {σ : ps_S} {v : Int32} (h : i < 6) : pc_r D W B (ps_rI σ (B + 15) (upd (σ.1 (B + 15)) i v)) = upd (pc_r D W B σ) (65 + i) v := by
  have h1 := pc_upG (D := D) (W := W) (B := B) (k := 65 + i) (σ := σ) (v := v) ⟨by omega, by omega, by omega⟩
  rw [(pc_x15 i (by omega)).1, (pc_x15 i (by omega)).2.1, (pc_x15 i (by omega)).2.2, Int32.add_zero] at h1
  exact h1
theorem pc_x16 : ∀ i, i < 6 → pc_lo (71 + i) = 16 ∧ pc_ix (71 + i) = i ∧ pc_p (71 + i) = 0 := by decide +kernel
theorem pc_rd16 {D W B i : Nat} {σ : ps_S} (h : i < 6) : pc_r D W B σ (71 + i) = σ.1 (B + 16) i := by
  rw [pc_rdG ⟨by omega, by omega, by omega⟩, (pc_x16 i (by omega)).1, (pc_x16 i (by omega)).2.1, (pc_x16 i (by omega)).2.2]
  exact Int32.add_zero _
theorem pc_up16 {D W B i : Nat} {σ : ps_S} {v : Int32} (h : i < 6) : pc_r D W B (ps_rI σ (B + 16) (upd (σ.1 (B + 16)) i v)) = upd (pc_r D W B σ) (71 + i) v := by
  have h1 := pc_upG (D := D) (W := W) (B := B) (k := 71 + i) (σ := σ) (v := v) ⟨by omega, by omega, by omega⟩
  rw [(pc_x16 i (by omega)).1, (pc_x16 i (by omega)).2.1, (pc_x16 i (by omega)).2.2, Int32.add_zero] at h1
  exact h1
theorem pc_x17 : ∀ i, i < 6 → pc_lo (77 + i) = 17 ∧ pc_ix (77 + i) = i ∧ pc_p (77 + i) = 0 := by decide +kernel
theorem pc_rd17 {D W B i : Nat} {σ : ps_S} (h : i < 6) : pc_r D W B σ (77 + i) = σ.1 (B + 17) i := by
  rw [pc_rdG ⟨by omega, by omega, by omega⟩, (pc_x17 i (by omega)).1, (pc_x17 i (by omega)).2.1, (pc_x17 i (by omega)).2.2]
  exact Int32.add_zero _
theorem pc_up17 {D W B i : Nat} {σ : ps_S} {v : Int32} (h : i < 6) : pc_r D W B (ps_rI σ (B + 17) (upd (σ.1 (B + 17)) i v)) = upd (pc_r D W B σ) (77 + i) v := by
  have h1 := pc_upG (D := D) (W := W) (B := B) (k := 77 + i) (σ := σ) (v := v) ⟨by omega, by omega, by omega⟩
  rw [(pc_x17 i (by omega)).1, (pc_x17 i (by omega)).2.1, (pc_x17 i (by omega)).2.2, Int32.add_zero] at h1
  exact h1
/-- the told host's cells, by the canonical host's numbers -/
def pa_on (h : pa_R) (d : Int32) : Nat → Int32
  | 0 => 0
  | n + 1 => pa_on h d n + (if h (17 + (h (29 + n)).toNatClampNeg) = d then 1 else 0)
def pc_H (Hb : Nat) (h : pa_R) (D F W : Nat) (σ : ps_S) : Prop :=
  (σ.1 Hb 0 = h 10 ∧ σ.1 Hb 1 = h 11 ∧ σ.1 Hb 2 = h 12 ∧ σ.1 Hb 3 = h 13 ∧ σ.1 Hb 4 = h 14 ∧ σ.1 Hb 5 = h 15 ∧ σ.1 Hb 6 = h 16 ∧ σ.1 Hb 7 = h 1 ∧ σ.1 Hb 8 = h 2 ∧ σ.1 Hb 9 = h 3 ∧ σ.1 Hb 10 = h 0) ∧
  (∀ d, d < 4 → σ.1 (Hb + 2) d = pa_on h (nI d) W) ∧ (∀ f, f < F → σ.1 (Hb + 3) f = h (17 + f)) ∧ (∀ w, w < W → σ.1 (Hb + 4) w = h (29 + w)) ∧ (∀ w, w < W → σ.1 (Hb + 5) w = h (17 + (h (29 + w)).toNatClampNeg))
