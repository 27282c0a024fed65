/-! tokens, further: strings, signs, numbers -/
def tk_ch (i j : Nat) : Nat := ((pm_byt.getD i []).getD j 0).toNatClampNeg
theorem tk_ch1 : ∀ i, i < 26 → ∀ j, j < pm_len.getD i 0 → (pm_byt.getD i []).getD j 0 = nI (tk_ch i j) ∧ ((((nI (tk_ch i j)) &&& 255)).toUInt32 % 65536).toInt32 = nI (tk_ch i j) ∧ ps_c16 (nI (tk_ch i j)) = true ∧ tk_ch i j < 128 := by decide +kernel
theorem tk_len1 : ∀ i, i < 26 → pm_len.getD i 0 < 128 ∧ ((Int32.ofNat (pm_len.getD i 0))) >>> ((0 : Int32) &&& 31) = nI (pm_len.getD i 0) := by decide +kernel
section STR
variable {i j : Nat} {σ : ps_S}
theorem pq_len (hi : i < 26) : qJ0_length_8abf5 i σ = some (nI (pm_len.getD i 0), σ) := by
  unfold qJ0_length_8abf5 qJ0_coder_7d493
  rw [pz_bds, (tk_len1 i hi).2]
theorem pq_char (hi : i < 26) (hj : j < pm_len.getD i 0) : qJ0_charAt_5068e i (nI j) σ = some (nI (tk_ch i j), σ) := by
  obtain ⟨a1, a2, a3, a4⟩ := tk_ch1 i hi j hj
  have hl := (tk_len1 i hi).1
  have e : Int32.ofNat (pm_len.getD i 0) = nI (pm_len.getD i 0) := rfl
  have n0 : ¬ nI j < 0 := Int32.not_lt.mpr (nI_le (a := 0) (b := j) (by omega) (by omega))
  have n1 : nI j < nI (pm_len.getD i 0) := Int32.not_le.mp (nI_ge hj (by omega))
  unfold qJ0_charAt_5068e qJ0_isLatin1_aae02 qJ1_charAt_3b067 qJ0_checkIndex_df160 qJ3_checkIndex_8e157
  rw [pz_bds, if_neg (by decide), e, if_neg n0, if_pos n1, pz_bds, pz_bds, if_pos (pz_ini hj (by omega)), nI_clamp (by omega), pz_lt, a1, a2, if_pos a3, pz_bds, if_pos a3]
end STR
theorem tk_sg1 : ∀ j, j < 12 → tk_SG.idxOf (tk_ch 0 j) = j ∧ tk_ch 0 j ∈ tk_SG := by decide +kernel
theorem tk_sg2 : ∀ c, c < 256 → c ∈ tk_SG → tk_SG.idxOf c < 12 ∧ tk_ch 0 (tk_SG.idxOf c) = c ∧ c < 128 := by decide +kernel
theorem tk_sg3 : ∀ c, c < 128 → (((nI c).toUInt32 % 65536).toInt32) = nI c ∧ (nI c).toInt8.toInt32 = nI c ∧ pa_sb c = nI c := by decide +kernel
theorem tk_sg4 : ∀ c, c < 256 → (pa_sb c ≤ 0 ↔ c = 0 ∨ 128 ≤ c) := by decide +kernel
section SGN
variable {σ τ : ps_S} {c : Nat}
theorem pq_idxL {y1 y2 : Int32} (hc : c < 128) : ∀ (m i fuel : Nat), i + m = 12 → m < fuel → ((∃ j, i ≤ j ∧ j < 12 ∧ tk_ch 0 j = c) → ∃ j, j < 12 ∧ qJ1_indexOfChar_4cfef_7 0 y1 y2 (nI 12) (nI c) fuel (nI i) σ = some (.inl (nI j), σ)) ∧ ((¬ ∃ j, i ≤ j ∧ j < 12 ∧ tk_ch 0 j = c) → ∃ z, qJ1_indexOfChar_4cfef_7 0 y1 y2 (nI 12) (nI c) fuel (nI i) σ = some (.inr z, σ)) := by
  intro m
  induction m with
  | zero =>
    intro i fuel e1 e2
    obtain ⟨f, rfl⟩ : ∃ f, fuel = f + 1 := ⟨fuel - 1, by omega⟩
    refine ⟨fun ⟨j, h1, h2, _⟩ => by omega, fun _ => ⟨nI i, ?_⟩⟩
    rw [qJ1_indexOfChar_4cfef_7, if_pos (nI_le (by omega) (by omega))]
  | succ m ih =>
    intro i fuel e1 e2
    obtain ⟨f, rfl⟩ : ∃ f, fuel = f + 1 := ⟨fuel - 1, by omega⟩
    have hl : pm_len.getD 0 0 = 12 := rfl
    obtain ⟨a1, a2, a3, a4⟩ := tk_ch1 0 (by decide) i (by rw [hl]; omega)
    have hne : ¬ nI 12 ≤ nI i := nI_ge (by omega) (by decide)
    rw [qJ1_indexOfChar_4cfef_7, if_neg hne, hl, if_pos (pz_ini (by omega) (by decide)), nI_clamp (by omega), pz_lt, a1]
    by_cases q : tk_ch 0 i = c
    · rw [if_pos (by rw [q])]
      exact ⟨fun _ => ⟨i, by omega, rfl⟩, fun h => absurd ⟨i, Nat.le_refl _, by omega, q⟩ h⟩
    · rw [if_neg (pc_lit (by omega) (by omega) q), pz_lt, nI_1]
      obtain ⟨i1, i2⟩ := ih (i + 1) f (by omega) (by omega)
      refine ⟨fun ⟨j, h1, h2, h3⟩ => i1 ⟨j, ?_, h2, h3⟩, fun h => i2 (fun ⟨j, h1, h2, h3⟩ => h ⟨j, by omega, h2, h3⟩)⟩
      by_cases e : j = i
      · subst e; exact absurd h3 q
      · omega
theorem tk_sg5 (hc : c < 256) (c0 : c = 0 ∨ 128 ≤ c) : ¬ c ∈ tk_SG := by
  intro h
  have := (tk_sg2 c hc h).2.2
  have h0 : ¬ 0 ∈ tk_SG := by decide
  rcases c0 with e | e
  · subst e; exact h0 h
  · omega
theorem pc_ixSg (hc : c < 256) (c0 : ¬ (c = 0 ∨ 128 ≤ c)) : ∃ v, qJ0_indexOf_0f7a4 0 ((((pa_sb c)).toUInt32 % 65536).toInt32) σ = some (v, σ) ∧ (v < 0 ↔ ¬ c ∈ tk_SG) := by
  have h128 : c < 128 := by omega
  obtain ⟨b1, b2, b3⟩ := tk_sg3 c h128
  have hl : pm_len.getD 0 0 = 12 := rfl
  have e : Int32.ofNat 12 = nI 12 := rfl
  have n1 : ¬ nI c < 0 := Int32.not_lt.mpr (nI_le (a := 0) (b := c) (by omega) (by omega))
  have n2 : ¬ 255 < nI c := Int32.not_lt.mpr (nI_le (a := c) (b := 255) (by omega) (by decide))
  have n3 : (if (0 : Int32) < 0 then (0 : Int32) else 0) = nI 0 := by decide
  have n4 : (if nI 12 < nI 12 then nI 12 else nI 12) = nI 12 := by decide
  have n5 : nI 0 < nI 12 := by decide
  obtain ⟨i1, i2⟩ := pq_idxL (σ := σ) (y1 := nI c) (y2 := nI 0) h128 12 0 ps_N (by decide) (by unfold ps_N; decide)
  unfold qJ0_indexOf_0f7a4 qJ0_indexOf_7cf53 qJ0_isLatin1_aae02 qJ1_indexOf_4cfef qJ1_canEncode_9a6ad qJ1_indexOfChar_4cfef
  rw [b3, b1, pz_bds, if_neg (by decide), pq_len (by decide), hl, pz_bds, if_neg n1, if_neg n2, pz_bds, if_neg (by decide), n3, pz_lt, e, n4, pz_lt, if_pos n5, b2, pz_lt]
  by_cases q : c ∈ tk_SG
  · obtain ⟨s1, s2, s3⟩ := tk_sg2 c hc q
    obtain ⟨j, hj, ej⟩ := i1 ⟨_, Nat.zero_le _, s1, s2⟩
    have n6 : ¬ nI j < 0 := Int32.not_lt.mpr (nI_le (a := 0) (b := j) (by omega) (by omega))
    rw [ej]
    exact ⟨nI j, rfl, fun h => absurd h n6, fun h => absurd q h⟩
  · obtain ⟨z, ez⟩ := i2 (fun ⟨j, _, h2, h3⟩ => q (by rw [← h3]; exact (tk_sg1 j h2).2))
    rw [ez]
    exact ⟨-1, rfl, fun _ => q, fun _ => by decide⟩
end SGN
theorem tk_val_le {b : Nat → Nat} {st : Nat} : ∀ k, (∀ i, i < k → b (st + i) ≤ 57) → tk_val b st k < 10 ^ k
  | 0, _ => by rw [tk_val]; decide
  | k + 1, h => by
    have := tk_val_le k (fun i hi => h i (by omega))
    have h2 := h k (by omega)
    rw [tk_val, Nat.pow_succ]
    omega
section DIG
variable {n : Nat} {b : Nat → Nat} {σ τ : ps_S} {s st c : Nat}
theorem pc_dig7 (hn : n ≤ 900) : ∀ (m k fuel : Nat) (τ : ps_S), m = n - (st + k) → m < fuel → st + k ≤ n → (∀ i, i < k → tk_di (b (st + i)) = true) → (k ≤ 3 → τ.1 11 8 = nI (tk_val b st k)) → pc_tx n b τ → τ.1 11 7 = nI (st + k) → ps_ok (qX5_advance_172 fuel (nI (st + k)) τ) (fun _ υ => pf_a τ υ ∧ υ.1 11 7 = nI (tk_go tk_di n b (n - (st + k)) (st + k)) ∧ υ.1 11 6 = τ.1 11 6 ∧ (tk_go tk_di n b (n - (st + k)) (st + k) - st ≤ 3 → υ.1 11 8 = nI (tk_val b st (tk_go tk_di n b (n - (st + k)) (st + k) - st)))) := by
  intro m
  induction m with
  | zero =>
    intro k fuel τ e1 e3 e4 hd hv t h7
    obtain ⟨f, rfl⟩ : ∃ f, fuel = f + 1 := ⟨fuel - 1, by omega⟩
    rw [tk_go_no (by omega), qX5_advance_172]
    refine pz_l t.2.1 ?_
    refine pz_t (nI_le (by omega) (by omega)) (pz_done ⟨pf_a.rf _, h7, rfl, fun h => ?_⟩)
    rw [Nat.add_sub_cancel_left] at h ⊢
    exact hv h
  | succ m ih =>
    intro k fuel τ e1 e3 e4 hd hv t h7
    obtain ⟨f, rfl⟩ : ∃ f, fuel = f + 1 := ⟨fuel - 1, by omega⟩
    rw [qX5_advance_172]
    refine pz_l t.2.1 ?_
    refine pz_e (nI_ge (by omega) (by omega)) ?_
    refine pz_rd rfl (by omega) (by decide) (t.2.2 _ (by omega)) ?_
    refine pz_bd' (pc_isDi (t.1.2 _ (by omega))) ?_
    by_cases cb : tk_di (b (st + k)) = true
    · have cb' := cb
      unfold tk_di at cb'
      rw [decide_eq_true_iff] at cb'
      rw [if_pos cb, tk_go_st (by omega) cb]
      refine pz_e (by decide) ?_
      rw [pz_lt]
      refine pz_rd rfl (by omega) (by decide) (t.2.2 _ (by omega)) ?_
      rw [pz_lt, pz_lt, pz_lt, nI_1]
      generalize hw : τ.1 11 8 * 10 + pa_sb (b (st + k)) - 48 = w
      have k1 := pf_a.I τ (j := 8) w (by omega)
      have kk := k1.tr (pf_a.I (ps_rI τ 11 (upd (τ.1 11) 8 w)) (j := 7) (nI (st + k + 1)) (by omega))
      refine pz_im (ih (k + 1) f _ (by omega) (by omega) (by omega) (fun i hi => ?_) (fun hk => ?_) (t.a kk) (by rw [ps_rI_at, upd_self]; rfl)) (fun z υ hu => ⟨kk.tr hu.1, hu.2.1, ?_, hu.2.2.2⟩)
      · by_cases e : i = k
        · subst e; exact cb
        · exact hd i (by omega)
      · have hb := tk_val_le (b := b) (st := st) k (fun i hi => by
          have := hd i hi
          unfold tk_di at this
          rw [decide_eq_true_iff] at this
          exact this.2)
        have h1000 : (10 : Nat) ^ k ≤ 1000 := Nat.le_trans (Nat.pow_le_pow_right (by decide) (show k ≤ 3 by omega)) (by decide)
        rw [ps_rI_at, upd_ne _ _ (by decide), ps_rI_at, upd_self, ← hw]
        rw [hv (by omega), (tk_sg3 _ (by omega : b (st + k) < 128)).2.2, tk_val]
        rw [show nI (tk_val b st k) * 10 = nI (tk_val b st k * 10) from nI_mul _ 10, nI_add, show (48 : Int32) = nI 48 from rfl, nI_sub (by omega)]
        congr 1
        omega
      · rw [hu.2.2.1, ps_rI_at, upd_ne _ _ (by decide), ps_rI_at, upd_ne _ _ (by decide)]
    · rw [if_neg cb, tk_go_no (fun h => cb h.2)]
      refine pz_t rfl (pz_done ⟨pf_a.rf _, h7, rfl, fun h => ?_⟩)
      rw [Nat.add_sub_cancel_left] at h ⊢
      exact hv h
end DIG
