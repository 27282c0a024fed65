/-! both readers at one token -/
def tk_mw (i : Nat) : Nat := if i ≤ 15 then i - 1 else if i = 16 then 15 else if i = 17 then 23 else if i = 18 then 21 else if i = 19 then 22 else i - 4
theorem tk_mw1 : ∀ i, i < 25 → 1 ≤ i → tk_mw i < 24 ∧ pm_len.getD i 0 = (tk_KW.getD (tk_mw i) []).length ∧ ∀ j, j < pm_len.getD i 0 → tk_ch i j = (tk_KW.getD (tk_mw i) []).getD j 0 := by decide +kernel
theorem tk_idx {w : List Nat} {k : Nat} (hk : k < 24) : tk_KW.idxOf w = k ↔ w = tk_KW.getD k [] := by
  constructor
  · intro h
    have hl : tk_KW.idxOf w < tk_KW.length := by rw [h]; exact hk
    have e := List.getElem_idxOf hl
    rw [← e, List.getD_eq_getElem?_getD, List.getElem?_eq_getElem (show k < tk_KW.length from hk)]
    show _ = tk_KW[k]
    congr 1
  · intro h
    rw [h]
    exact (tk_p1 k hk).2.2.2.1
section TOK
variable {n : Nat} {b : Nat → Nat} {σ τ : ps_S} {st : Nat}
theorem tk_cd_w (h : tk_cd n b st ≤ 24) : st < n ∧ tk_cd n b st = tk_KW.idxOf (tk_w b st (tk_sp n b st)) := by
  unfold tk_cd at h ⊢
  by_cases c1 : n ≤ st
  · rw [if_pos c1] at h; omega
  · rw [if_neg c1] at h ⊢
    by_cases c2 : tk_le (b st) = true
    · rw [if_pos c2]; exact ⟨by omega, rfl⟩
    · rw [if_neg c2] at h
      by_cases c3 : tk_di (b st) = true
      · rw [if_pos c3] at h; split at h <;> omega
      · rw [if_neg c3] at h; split at h <;> omega
theorem tk_cd_s (h : 28 ≤ tk_cd n b st) : st < n ∧ b st ∈ tk_SG ∧ tk_cd n b st = 30 + tk_SG.idxOf (b st) := by
  unfold tk_cd at h ⊢
  by_cases c1 : n ≤ st
  · rw [if_pos c1] at h; omega
  · rw [if_neg c1] at h ⊢
    by_cases c2 : tk_le (b st) = true
    · rw [if_pos c2] at h
      have := tk_KWlen (tk_w b st (tk_sp n b st))
      omega
    · rw [if_neg c2] at h ⊢
      by_cases c3 : tk_di (b st) = true
      · rw [if_pos c3] at h; split at h <;> omega
      · rw [if_neg c3] at h ⊢
        by_cases c4 : b st ∈ tk_SG
        · rw [if_pos c4]; exact ⟨by omega, c4, rfl⟩
        · rw [if_neg c4] at h; omega
theorem tk_cd_n (h : tk_cd n b st ≠ 26) : st < n := by
  by_cases c : st < n
  · exact c
  · exact absurd (by unfold tk_cd; rw [if_pos (by omega)]) h
theorem tk_kd1 {c : Nat} : tk_kd c = 1 ↔ c ≤ 24 := by
  unfold tk_kd
  by_cases h : c ≤ 24
  · rw [if_pos h]; exact ⟨fun _ => h, fun _ => rfl⟩
  · rw [if_neg h]
    refine ⟨fun hh => ?_, fun hh => absurd hh h⟩
    exfalso
    revert hh
    split
    · decide
    · split
      · decide
      · split <;> decide
theorem tk_kd2 {c : Nat} : tk_kd c = 2 ↔ c = 25 := by
  unfold tk_kd
  by_cases h : c ≤ 24
  · rw [if_pos h]; exact ⟨fun hh => absurd hh (by decide), fun hh => by omega⟩
  · rw [if_neg h]
    by_cases h2 : c = 25
    · rw [if_pos h2]; exact ⟨fun _ => h2, fun _ => rfl⟩
    · rw [if_neg h2]
      refine ⟨fun hh => ?_, fun hh => absurd hh h2⟩
      exfalso
      revert hh
      split
      · decide
      · split <;> decide
theorem tk_kd0 {c : Nat} : tk_kd c = 0 ↔ c = 26 := by
  unfold tk_kd
  by_cases h : c ≤ 24
  · rw [if_pos h]; exact ⟨fun hh => absurd hh (by decide), fun hh => by omega⟩
  · rw [if_neg h]
    by_cases h2 : c = 25
    · rw [if_pos h2]; exact ⟨fun hh => absurd hh (by decide), fun hh => by omega⟩
    · rw [if_neg h2]
      by_cases h3 : c = 26
      · rw [if_pos h3]; exact ⟨fun _ => h3, fun _ => rfl⟩
      · rw [if_neg h3]
        refine ⟨fun hh => ?_, fun hh => absurd hh h3⟩
        exfalso
        revert hh
        split <;> decide
theorem tk_kd4 {c : Nat} : tk_kd c = 4 ↔ c = 27 := by
  unfold tk_kd
  by_cases h : c ≤ 24
  · rw [if_pos h]; exact ⟨fun hh => absurd hh (by decide), fun hh => by omega⟩
  · rw [if_neg h]
    by_cases h2 : c = 25
    · rw [if_pos h2]; exact ⟨fun hh => absurd hh (by decide), fun hh => by omega⟩
    · rw [if_neg h2]
      by_cases h3 : c = 26
      · rw [if_pos h3]; exact ⟨fun hh => absurd hh (by decide), fun hh => by omega⟩
      · rw [if_neg h3]
        by_cases h4 : c = 27
        · rw [if_pos h4]; exact ⟨fun _ => h4, fun _ => rfl⟩
        · rw [if_neg h4]; exact ⟨fun hh => absurd hh (by decide), fun hh => by omega⟩
theorem tk_kd3 {c : Nat} : tk_kd c = 3 ↔ 28 ≤ c := by
  unfold tk_kd
  by_cases h : c ≤ 24
  · rw [if_pos h]; exact ⟨fun hh => absurd hh (by decide), fun hh => by omega⟩
  · rw [if_neg h]
    by_cases h2 : c = 25
    · rw [if_pos h2]; exact ⟨fun hh => absurd hh (by decide), fun hh => by omega⟩
    · rw [if_neg h2]
      by_cases h3 : c = 26
      · rw [if_pos h3]; exact ⟨fun hh => absurd hh (by decide), fun hh => by omega⟩
      · rw [if_neg h3]
        by_cases h4 : c = 27
        · rw [if_pos h4]; exact ⟨fun hh => absurd hh (by decide), fun hh => by omega⟩
        · rw [if_neg h4]; exact ⟨fun _ => by omega, fun _ => rfl⟩
theorem pa_sb_inj {c d : Nat} (hc : c < 256) (hd : d < 128) : pa_sb c = nI d ↔ c = d := by
  by_cases h : c < 128
  · rw [(tk_sg3 c h).2.2]
    exact nI_eq (by omega) (by omega)
  · refine ⟨fun e => ?_, fun e => by omega⟩
    have : ∀ c, c < 256 → ¬ c < 128 → pa_sb c < 0 := by decide +kernel
    have h1 := this c hc h
    rw [e] at h1
    exact absurd h1 (Int32.not_lt.mpr (nI_le (a := 0) (b := d) (by omega) (by omega)))
theorem pc_word28 {i : Nat} (hi : i < 26) (k : pc_K n b st σ) (hl : st + pm_len.getD i 0 ≤ n) : ∀ (m j fuel : Nat), j + m = pm_len.getD i 0 → m < fuel → ((∀ q, j ≤ q → q < pm_len.getD i 0 → b (st + q) = tk_ch i q) → ∃ z, qX5_isWord_28 i fuel (nI j) σ = some (.inr z, σ)) ∧ ((¬ ∀ q, j ≤ q → q < pm_len.getD i 0 → b (st + q) = tk_ch i q) → qX5_isWord_28 i fuel (nI j) σ = some (.inl 0, σ)) := by
  obtain ⟨t, k6, k7, k5, k8, kn⟩ := k
  have n9 := t.1.1
  intro m
  induction m with
  | zero =>
    intro j fuel e1 e2
    obtain ⟨f, rfl⟩ : ∃ f, fuel = f + 1 := ⟨fuel - 1, by omega⟩
    rw [qX5_isWord_28, pq_len hi, pz_bds, if_pos (nI_le (by omega) (by omega))]
    exact ⟨fun _ => ⟨_, rfl⟩, fun h => absurd (fun q q1 q2 => by omega) h⟩
  | succ m ih =>
    intro j fuel e1 e2
    obtain ⟨f, rfl⟩ : ∃ f, fuel = f + 1 := ⟨fuel - 1, by omega⟩
    have hb := t.1.2 (st + j) (by omega)
    obtain ⟨c1, c2, c3, c4⟩ := tk_ch1 i hi j (by omega)
    rw [qX5_isWord_28, pq_len hi, pz_bds, if_neg (nI_ge (by omega) (by omega)), pz_lt, k6, nI_add, if_pos (pz_ini (by omega) (by decide)), nI_clamp (by omega), pz_lt, pq_char hi (by omega), pz_bds, t.2.2 _ (by omega)]
    obtain ⟨i1, i2⟩ := ih (j + 1) f (by omega) (by omega)
    by_cases q : b (st + j) = tk_ch i j
    · rw [if_pos ((pa_sb_inj hb c4).mpr q), pz_lt, nI_1]
      refine ⟨fun h => i1 (fun a a1 a2 => h a (by omega) a2), fun h => i2 (fun hh => h (fun a a1 a2 => ?_))⟩
      by_cases e : a = j
      · subst e; exact q
      · exact hh a (by omega) a2
    · rw [if_neg (fun hh => q ((pa_sb_inj hb c4).mp hh))]
      exact ⟨fun h => absurd (h j (Nat.le_refl _) (by omega)) q, fun _ => rfl⟩
theorem pc_isW {i : Nat} (h1 : 1 ≤ i) (h2 : i < 25) (k : pc_K n b st σ) : qX5_isWord i σ = some (if tk_cd n b st = tk_mw i then 1 else 0, σ) := by
  obtain ⟨m1, m2, m3⟩ := tk_mw1 i h2 h1
  obtain ⟨t, k6, k7, k5, k8, kn⟩ := k
  have n9 := t.1.1
  unfold qX5_isWord
  rw [pz_lt, k5]
  by_cases c : tk_cd n b st ≤ 24
  · obtain ⟨w1, w2⟩ := tk_cd_w c
    have hsp := tk_sp_n (b := b) kn
    have hsl := tk_sp_le (n := n) (b := b) (st := st)
    rw [if_pos (tk_kd1.mpr c), pq_len (by omega), pz_bds, pz_lt, pz_lt, k7, k6, nI_sub hsl]
    by_cases cl : pm_len.getD i 0 = tk_sp n b st - st
    · rw [if_pos (by rw [cl])]
      obtain ⟨i1, i2⟩ := pc_word28 (i := i) (by omega) ⟨t, k6, k7, k5, k8, kn⟩ (by omega) (pm_len.getD i 0) 0 ps_N (by omega) (by unfold ps_N; omega)
      have e0 : nI 0 = 0 := rfl
      rw [e0] at i1 i2
      by_cases q : ∀ q, 0 ≤ q → q < pm_len.getD i 0 → b (st + q) = tk_ch i q
      · obtain ⟨z, ez⟩ := i1 q
        have hw : tk_w b st (tk_sp n b st) = tk_KW.getD (tk_mw i) [] := tk_weq.mpr ⟨by omega, fun j hj => by rw [q j (by omega) (by omega), m3 j (by omega)]⟩
        rw [ez, pz_bds, if_pos (by rw [w2]; exact (tk_idx m1).mpr hw)]
      · rw [i2 q, pz_bds, if_neg]
        intro hh
        rw [w2] at hh
        obtain ⟨a1, a2⟩ := tk_weq.mp ((tk_idx m1).mp hh)
        exact q (fun j _ hj => by rw [a2 j (by omega), m3 j hj])
    · have hlen := (tk_len1 i (by omega)).1
      rw [if_neg (fun hh => cl ((nI_eq (by omega) (by omega)).mp hh)), if_neg]
      intro hh
      rw [w2] at hh
      obtain ⟨a1, a2⟩ := tk_weq.mp ((tk_idx m1).mp hh)
      omega
  · rw [if_neg (fun hh => c (tk_kd1.mp hh)), if_neg (by omega)]
theorem pc_isS {j : Nat} (hj : j < 12) (k : pc_K n b st σ) : qX5_isSign (nI (tk_ch 0 j)) σ = some (if tk_cd n b st = 30 + j then 1 else 0, σ) := by
  obtain ⟨t, k6, k7, k5, k8, kn⟩ := k
  have n9 := t.1.1
  have hl : pm_len.getD 0 0 = 12 := rfl
  obtain ⟨c1, c2, c3, c4⟩ := tk_ch1 0 (by decide) j (by rw [hl]; exact hj)
  unfold qX5_isSign
  rw [pz_lt, k5]
  by_cases c : 28 ≤ tk_cd n b st
  · obtain ⟨w1, w2, w3⟩ := tk_cd_s c
    have hb := t.1.2 st w1
    rw [if_pos (tk_kd3.mpr c), pz_lt, k6, if_pos (pz_ini (by omega) (by decide)), nI_clamp (by omega), pz_lt, t.2.2 st w1]
    by_cases q : b st = tk_ch 0 j
    · rw [if_pos ((pa_sb_inj hb c4).mpr q), if_pos (by rw [w3, q, (tk_sg1 j hj).1])]
    · rw [if_neg (fun hh => q ((pa_sb_inj hb c4).mp hh)), if_neg]
      intro hh
      have e : tk_SG.idxOf (b st) = j := by omega
      have := (tk_sg2 _ hb w2).2.1
      rw [e] at this
      exact q this.symm
  · rw [if_neg (fun hh => c (tk_kd3.mp hh)), if_neg (by omega)]
theorem pg_is1 {c : Nat} (hc : c < 100) (k : pg_K n b st τ) (hz : τ.1 327 12 = 0) : qX9_is (nI c) τ = some (if tk_cd n b st = c then 1 else 0, τ) := by
  have hb : tk_cd n b st < 100 := by
    have := k.1.1.2
    by_cases c : tk_cd n b st ≤ 27
    · omega
    · obtain ⟨w1, w2, w3⟩ := tk_cd_s (show 28 ≤ tk_cd n b st by omega)
      have := (tk_sg2 _ (this st w1) w2).1
      omega
  unfold qX9_is
  rw [pz_lt, hz, if_pos rfl, pz_lt, k.2.2.2.1]
  by_cases q : tk_cd n b st = c
  · rw [if_pos (by rw [q]), if_pos q]
  · rw [if_neg (pc_lit (by omega) (by omega) q), if_neg q]
theorem pg_is0 {c : Int32} (hz : ¬ τ.1 327 12 = 0) : qX9_is c τ = some (0, τ) := by
  unfold qX9_is
  rw [pz_lt, if_neg hz]
theorem pg_eats0 {c : Int32} (hz : ¬ τ.1 327 12 = 0) : qX9_eats c τ = some (0, τ) := by
  unfold qX9_eats
  rw [pg_is0 hz, pz_bds, if_pos rfl]
theorem pg_fails0 {c : Int32} (hz : ¬ τ.1 327 12 = 0) : qX9_fails c τ = some ((), τ) := by
  unfold qX9_fails
  rw [pz_lt, if_neg hz]
theorem pg_codes0 {c : Int32} (hz : ¬ τ.1 327 12 = 0) : qX9_codes c τ = some ((), τ) := by
  unfold qX9_codes
  rw [pz_lt, if_neg hz]
theorem pg_in0 {c : Int32} (hz : ¬ τ.1 327 12 = 0) : qX9_goesIn c τ = some (0, τ) := by
  unfold qX9_goesIn
  by_cases e : c = 6
  · rw [if_pos e, pg_fails0 hz, pz_bds, pz_lt, if_neg hz, pz_lt, if_neg hz]
  · rw [if_neg e, pz_lt, if_neg hz, pz_lt, if_neg hz]
end TOK
