/-! the first world -/
def pg_pl (j : Nat) : Int32 := if j = 10 then 100 else if j = 11 then 10 else if j = 12 then 30 else if j = 13 then 20 else if j = 14 then 10 else if j = 15 then 4 else if j = 16 then 8 else 0
section PLN
variable {k n : Nat}
theorem pg_plL (hn : 1850 ≤ n) (hn2 : n ≤ 9999) : ∀ (m i fuel : Nat) (σ : ps_S), i + m = 1850 → m < fuel → qX9_plain_2 k n fuel (nI i) σ = some (nI 1850, ps_rI σ k (fun j => if i ≤ j ∧ j < 1850 then 0 else σ.1 k j)) := by
  intro m
  induction m with
  | zero =>
    intro i fuel σ e1 e2
    obtain ⟨f, rfl⟩ : ∃ f, fuel = f + 1 := ⟨fuel - 1, by omega⟩
    have : i = 1850 := by omega
    subst this
    have h : (1850 : Int32) ≤ nI 1850 := nI_le (a := 1850) (b := 1850) (by omega) (by omega)
    rw [qX9_plain_2, if_pos h, ps_rI_id]
    funext j
    rw [if_neg (by omega)]
  | succ m ih =>
    intro i fuel σ e1 e2
    obtain ⟨f, rfl⟩ : ∃ f, fuel = f + 1 := ⟨fuel - 1, by omega⟩
    have h : ¬ (1850 : Int32) ≤ nI i := nI_ge (a := i) (b := 1850) (by omega) (by omega)
    rw [qX9_plain_2, if_neg h, if_pos (pz_ini (by omega) (by omega)), nI_clamp (by omega), pz_lt, pz_lt, nI_1, ih (i + 1) f _ (by omega) (by omega), ps_rI_2']
    congr 3
    funext j
    by_cases c1 : j = i
    · subst c1
      rw [if_neg (by omega), if_pos (by omega), ps_rI_at, upd_self]
    · by_cases c2 : i + 1 ≤ j ∧ j < 1850
      · rw [if_pos c2, if_pos (by omega)]
      · rw [if_neg c2, if_neg (by omega), ps_rI_at, upd_ne _ _ c1]
theorem pg_plain {σ : ps_S} (hn : 1850 ≤ n) (hn2 : n ≤ 9999) : ps_ok (qX9_plain k n σ) (fun _ τ => ∃ f, τ = ps_rI σ k f ∧ ∀ j, j < 1850 → f j = pg_pl j) := by
  unfold qX9_plain
  have e0 : nI 0 = 0 := rfl
  have hl := pg_plL (k := k) hn hn2 1850 0 ps_N σ (by decide) (by unfold ps_N; decide)
  rw [e0] at hl
  refine pz_bd' hl ?_
  refine pz_wr (k := 10) rfl (by omega) (by omega) (fun τ1 h1 => ?_)
  refine pz_wr (k := 11) rfl (by omega) (by omega) (fun τ2 h2 => ?_)
  refine pz_wr (k := 12) rfl (by omega) (by omega) (fun τ3 h3 => ?_)
  refine pz_wr (k := 13) rfl (by omega) (by omega) (fun τ4 h4 => ?_)
  refine pz_wr (k := 14) rfl (by omega) (by omega) (fun τ5 h5 => ?_)
  refine pz_wr (k := 15) rfl (by omega) (by omega) (fun τ6 h6 => ?_)
  refine pz_wr (k := 16) rfl (by omega) (by omega) (fun τ7 h7 => ?_)
  rw [ps_rI_2', ps_rI_at] at h1
  rw [h1, ps_rI_2', ps_rI_at] at h2
  rw [h2, ps_rI_2', ps_rI_at] at h3
  rw [h3, ps_rI_2', ps_rI_at] at h4
  rw [h4, ps_rI_2', ps_rI_at] at h5
  rw [h5, ps_rI_2', ps_rI_at] at h6
  rw [h6, ps_rI_2', ps_rI_at] at h7
  refine pz_done ⟨_, h7, fun j hj => ?_⟩
  unfold pg_pl
  by_cases c16 : j = 16
  · subst c16; rw [upd_self]; rfl
  rw [upd_ne _ _ c16]
  by_cases c15 : j = 15
  · subst c15; rw [upd_self]; rfl
  rw [upd_ne _ _ c15]
  by_cases c14 : j = 14
  · subst c14; rw [upd_self]; rfl
  rw [upd_ne _ _ c14]
  by_cases c13 : j = 13
  · subst c13; rw [upd_self]; rfl
  rw [upd_ne _ _ c13]
  by_cases c12 : j = 12
  · subst c12; rw [upd_self]; rfl
  rw [upd_ne _ _ c12]
  by_cases c11 : j = 11
  · subst c11; rw [upd_self]; rfl
  rw [upd_ne _ _ c11]
  by_cases c10 : j = 10
  · subst c10; rw [upd_self]; rfl
  rw [upd_ne _ _ c10, if_neg c10, if_neg c11, if_neg c12, if_neg c13, if_neg c14, if_neg c15, if_neg c16, if_pos (by omega)]
end PLN
theorem pg_pl0 {j : Nat} (h : j < 10 ∨ 16 < j) : pg_pl j = 0 := by
  unfold pg_pl
  rw [if_neg (by omega), if_neg (by omega), if_neg (by omega), if_neg (by omega), if_neg (by omega), if_neg (by omega), if_neg (by omega)]
def sp_H0 : pa_H := (pg_pl, 0, 0, 0)
theorem sp_H0I : pa_WH sp_H0 := by
  refine ⟨⟨⟨rfl, by decide⟩, ⟨rfl, by decide⟩, ⟨rfl, by decide⟩, fun f hf => absurd hf (Nat.not_lt_zero _), fun f hf => absurd hf (Nat.not_lt_zero _), 100, 10, 30, 20, 10, 4, 8, ⟨rfl, by decide, by decide⟩, ⟨rfl, by decide⟩, ⟨rfl, by decide, by decide⟩, ⟨rfl, by decide, by decide⟩, ⟨rfl, by decide, by decide⟩, ⟨rfl, by decide, by decide⟩, ⟨rfl, by decide, by decide⟩⟩, fun k hk => Or.inl (pg_pl0 (by omega))⟩
theorem pf_fill_in {f : pa_R} {v : Int32} : ∀ {n i : Nat}, i < n → pf_fill f v n i = v := by
  intro n i hi
  unfold pf_fill
  simp [hi]
theorem sp_Wh0 : pc_Wh sp_H0 12 pw_σ := by
  refine ⟨⟨⟨rfl, rfl, rfl, rfl, rfl, rfl, rfl, rfl, rfl, rfl, rfl⟩, fun d hd => rfl, fun f hf => absurd hf (Nat.not_lt_zero _), fun f hf => absurd hf (Nat.not_lt_zero _), fun f hf => absurd hf (Nat.not_lt_zero _)⟩, fun k hk => ⟨fun _ => rfl, fun h => ?_⟩⟩
  have : sp_H0.1 (4 + k) = 0 := pg_pl0 (by omega)
  rw [this] at h
  exact absurd h (by decide)
theorem pw_mr {σ : ps_S} {k : Nat} (h : k < 327) : (pw_m σ).1 k = σ.1 k ∧ (pw_m σ).2.1 k = σ.2.1 k ∧ (pw_m σ).2.2 k = σ.2.2 k := by
  unfold pw_m
  show (if k < 327 then σ.1 k else pw_σ.1 k) = σ.1 k ∧ (if k < 327 then σ.2.1 k else pw_σ.2.1 k) = σ.2.1 k ∧ (if k < 327 then σ.2.2 k else pw_σ.2.2 k) = σ.2.2 k
  rw [if_pos h, if_pos h, if_pos h]
  exact ⟨rfl, rfl, rfl⟩
theorem pw_mg {σ : ps_S} {k : Nat} (h : 327 ≤ k) : (pw_m σ).1 k = pw_σ.1 k := by
  unfold pw_m
  show (if k < 327 then σ.1 k else pw_σ.1 k) = pw_σ.1 k
  rw [if_neg (by omega)]
theorem pw_first : ps_ok (qX6_begin 26 12 pw_σ) (fun _ σ1 => ps_ok (qX9_plain 328 5550 (pw_m σ1)) (fun _ σ2 => pw_W 0 σ2)) := by
  refine pz_im (pc_begin (B := 26) sp_H0I (by omega) sp_Wh0) (fun _ σ1 h => ?_)
  obtain ⟨s1, fb⟩ := h
  refine pz_im (pg_plain (by decide) (by decide)) (fun _ σ2 h2 => ?_)
  obtain ⟨f, e, hf⟩ := h2
  have c1 : ∀ k, k < 327 → σ2.1 k = σ1.1 k := fun k hk => by rw [e, ps_rI_ne _ _ (by omega), (pw_mr hk).1]
  have c2 : ∀ k, k < 327 → σ2.2.2 k = σ1.2.2 k := fun k hk => by rw [e, ps_rI_2, (pw_mr hk).2.2]
  have c3 : ∀ k, k < 26 ∨ (44 ≤ k ∧ k < 327) → σ2.1 k = pw_σ.1 k := fun k hk => by rw [c1 k (by omega), fb.1 k (by omega)]
  have c4 : ∀ k, 327 ≤ k → k ≠ 328 → σ2.1 k = pw_σ.1 k := fun k hk h8 => by rw [e, ps_rI_ne _ _ h8, pw_mg hk]
  have c5 : ∀ j, j < 1850 → σ2.1 328 j = pg_pl j := fun j hj => by rw [e, ps_rI_at]; exact hf j hj
  refine ⟨sp_H0, sp_x0 0 0 (pw_σ.1 (12 + 1)) (pw_σ.1 (12 + 6)), 0, fun _ => sp_x0 0 0 (pw_σ.1 (12 + 1)) (pw_σ.1 (12 + 6)), fun _ => none, fun _ => none, (0, fun _ => 0), (0, -1), ?_, ?_, ?_⟩
  · refine ⟨sp_H0I, ⟨0, Nat.le_refl _, sp_x0_IV sp_H0I (fun d hd => absurd hd (Nat.not_lt_zero _)) (fun d hd => absurd hd (Nat.not_lt_zero _))⟩, ⟨by decide, fun i hi => absurd hi (Nat.not_lt_zero _)⟩, (fun i hi y hy => by cases hy), (fun i hi y hy => by cases hy), by decide, fun j hj => absurd hj (Nat.not_lt_zero _)⟩
  · refine ⟨⟨pc_S.congr s1 (fun o ho => c1 _ (by omega)) (c2 _ (by omega)), sp_Wh0.congr (fun o ho => c3 _ (by omega)), pc_O.of (fun j hj => ?_)⟩, ⟨0, by decide, ?_, ?_, fun i hi => absurd hi (Nat.not_lt_zero _)⟩, fun i hi => ⟨fun _ => ?_, (fun y hy => by cases hy)⟩, fun i hi => ⟨fun _ => ?_, (fun y hy => by cases hy)⟩, ⟨?_, fun j hj => absurd hj (Nat.not_lt_zero _)⟩, ?_, ?_⟩
    · rw [c3 23 (by omega)]
      show pf_fill (fun _ => 0) (-1) 1000 j = -1
      exact pf_fill_in hj
    · rw [c3 0 (by omega)]; rfl
    · rw [c3 0 (by omega)]; rfl
    · rw [c3 84 (by omega)]; rfl
    · rw [c3 _ (by omega)]
      have : i = 0 ∨ i = 1 ∨ i = 2 ∨ i = 3 := by omega
      rcases this with rfl | rfl | rfl | rfl <;> rfl
    · rw [c3 0 (by omega)]; rfl
    · rw [c3 11 (by omega)]; rfl
    · rw [c3 11 (by omega)]; rfl
  · refine ⟨⟨?_, ?_, ?_⟩, ⟨?_, fun i hi => absurd hi (Nat.not_lt_zero _)⟩, fun i hi => ⟨fun _ => ?_, (fun y hy => by cases hy)⟩, fun i hi => ⟨fun _ => ?_, (fun y hy => by cases hy)⟩, ⟨?_, fun j hj => absurd hj (Nat.not_lt_zero _)⟩, ?_, ?_⟩
    · funext k
      unfold pg_h
      show _ = pg_pl k
      by_cases c : k < 35 ∨ (949 ≤ k ∧ k < 1850)
      · rw [if_pos c, c5 k (by omega)]
      · rw [if_neg c, pg_pl0 (by omega)]
    · unfold pg_nr
      rw [sp_x0_1]
      refine pa_can_congr (fun k hk => ?_)
      obtain ⟨k1, k2, k3⟩ := hk
      have k2' : k < 25 + 0 ∨ 29 ≤ k := k2
      have k3' : k < 53 + 0 ∨ 59 ≤ k := k3
      unfold sp_f0
      rw [c5 _ (by omega), pg_pl0 (by omega), if_neg (by omega), if_neg (by omega)]
    · unfold pg_ne
      funext k
      have a1 : (if k < sp_H0.2.1 then σ2.2.2 329 (0 + k) else (0 : UInt64)) = 0 := if_neg (Nat.not_lt_zero _)
      have a2 : (if k < 0 then FP.i2d (pw_σ.1 (12 + 1) k) else (0 : UInt64)) = 0 := if_neg (Nat.not_lt_zero _)
      exact a1.trans a2.symm
    · rw [c5 118 (by omega)]; rfl
    · rw [c4 330 (by decide) (by decide)]; rfl
    · rw [c4 342 (by decide) (by decide)]
      have : i = 0 ∨ i = 1 ∨ i = 2 ∨ i = 3 := by omega
      rcases this with rfl | rfl | rfl | rfl <;> rfl
    · rw [c4 327 (by decide) (by decide)]; rfl
    · rw [c4 327 (by decide) (by decide)]; rfl
    · rw [c4 327 (by decide) (by decide)]; rfl
