/-! numbers within; small steps of calls -/
theorem i64_lt {a b : Int32} : a.toInt64 < b.toInt64 ↔ a < b := by
  rw [Int64.lt_iff_toInt_lt, Int32.toInt_toInt64, Int32.toInt_toInt64, Int32.lt_iff_toInt_lt]
theorem pa_num {p : Int32} (a b : Nat) (hab : a ≤ b) (hb : b < 2 ^ 31) (h : ¬ (p < nI a ∨ nI b < p)) : ∃ n, a ≤ n ∧ n ≤ b ∧ p = nI n := by
  have h1 : nI a ≤ p := Int32.not_lt.mp (fun hh => h (Or.inl hh))
  have h2 : p ≤ nI b := Int32.not_lt.mp (fun hh => h (Or.inr hh))
  have ha : (nI a).toInt = (a : Int) := nI_toInt (by omega)
  rw [Int32.le_iff_toInt_le, ha] at h1
  rw [Int32.le_iff_toInt_le, nI_toInt hb] at h2
  refine ⟨p.toInt.toNat, by omega, by omega, ?_⟩
  apply Int32.toInt_inj.mp
  rw [nI_toInt (by omega)]
  omega
theorem pa_idx {p : Int32} {n : Nat} (hn : n < 2 ^ 31) (h : ¬ (p < 0 ∨ nI n ≤ p)) : ∃ d, d < n ∧ p = nI d := by
  have h1 : (0 : Int32) ≤ p := Int32.not_lt.mp (fun hh => h (Or.inl hh))
  have h2 : p < nI n := Int32.not_le.mp (fun hh => h (Or.inr hh))
  rw [Int32.le_iff_toInt_le, show (0 : Int32).toInt = 0 by decide] at h1
  rw [Int32.lt_iff_toInt_lt, nI_toInt hn] at h2
  refine ⟨p.toInt.toNat, by omega, ?_⟩
  apply Int32.toInt_inj.mp
  rw [nI_toInt (by omega)]
  omega
theorem nI_dm1 {p : Int32} {n : Nat} (hn : n < 2 ^ 31) : nI n - 1 < p ↔ nI n ≤ p := by
  have e : (nI n - 1).toInt = (n : Int) - 1 := by
    rw [Int32.toInt_sub, nI_toInt hn, show (1 : Int32).toInt = 1 by decide, Int.bmod_eq_of_le (by omega) (by omega)]
  rw [Int32.lt_iff_toInt_lt, Int32.le_iff_toInt_le, e, nI_toInt hn]
  omega
section HLP
variable {p lo hi : Int32} {a b : Int64} {σ : ps_S}
theorem pc_i1 (h1 : ¬ p < lo) (h2 : ¬ hi < p) : qX8_isWithin p lo hi σ = some (1, σ) := by
  unfold qX8_isWithin
  rw [if_neg h1, if_neg h2]
theorem pc_i0 (h : p < lo ∨ hi < p) : qX8_isWithin p lo hi σ = some (0, σ) := by
  unfold qX8_isWithin
  by_cases c : p < lo
  · rw [if_pos c]
  · rw [if_neg c, if_pos (h.resolve_left c)]
theorem pg_i1 (ha : a = lo.toInt64) (hb : b = hi.toInt64) (h1 : ¬ p < lo) (h2 : ¬ hi < p) : qX9_within p.toInt64 a b σ = some (1, σ) := by
  unfold qX9_within
  rw [ha, hb, if_neg (fun hh => h1 (i64_lt.mp ((lg_cmp_lt _ _).mp hh))), if_neg (fun hh => h2 (i64_lt.mp ((lg_cmp_gt _ _).mp hh)))]
theorem pg_i0 (ha : a = lo.toInt64) (hb : b = hi.toInt64) (h : p < lo ∨ hi < p) : qX9_within p.toInt64 a b σ = some (0, σ) := by
  unfold qX9_within
  rw [ha, hb]
  by_cases c : p < lo
  · rw [if_pos ((lg_cmp_lt _ _).mpr (i64_lt.mpr c))]
  · rw [if_neg (fun hh => c (i64_lt.mp ((lg_cmp_lt _ _).mp hh))), if_pos ((lg_cmp_gt _ _).mpr (i64_lt.mpr (h.resolve_left c)))]
theorem pc_tf (h : p < 0 ∨ 4 ≤ p) : qX8_isTray p σ = some (0, σ) := by
  unfold qX8_isTray
  by_cases c : p < 0
  · rw [if_pos c]
  · rw [if_neg c, if_pos (h.resolve_left c)]
theorem pc_tt (h : ¬ (p < 0 ∨ 4 ≤ p)) : qX8_isTray p σ = some (1, σ) := by
  unfold qX8_isTray
  rw [if_neg (fun hh => h (Or.inl hh)), if_neg (fun hh => h (Or.inr hh))]
theorem pz_sw {β : Type} {c : Prop} {inst : Decidable c} {i2 : Decidable c} {A B : Option (β × ps_S)} {x y : β} {Q : β → ps_S → Prop} (h1 : c → ps_ok A (fun v τ => v = x ∧ Q v τ)) (h2 : ¬ c → ps_ok B (fun v τ => v = y ∧ Q v τ)) : ps_ok (@ite _ c inst A B) (fun v τ => v = (@ite _ c i2 x y) ∧ Q v τ) := by
  by_cases h : c
  · rw [if_pos h, if_pos h]; exact h1 h
  · rw [if_neg h, if_neg h]; exact h2 h
end HLP
section HLC
variable {H : pa_H} {x : pa_X} {n : Nat} {P : Nat → pa_X} {im : pa_Im} {tr : pa_Tr} {tp : pa_Tp} {fl : Int32 × Int32} {σ : ps_S} {p : Int32}
theorem pc_W.T (w : pc_W H x n P im tr tp fl σ) : pc_T H.2.1 H.2.2.2 26 σ σ x.1 x.2 (pa_all x.1) (fun d => pa_don H.1 x.1 (nI d) H.2.2.1) (pa_p0 H.1) := pc_T.of w.1.1.Q
theorem pc_W.hH (w : pc_W H x n P im tr tp fl σ) : pc_H 12 H.1 H.2.1 H.2.2.1 H.2.2.2 σ := w.1.2.1.1
theorem pc_dev0 (hI : pa_WH H) (hH : pc_H 12 H.1 H.2.1 H.2.2.1 H.2.2.2 σ) (h : p < 0 ∨ nI H.2.1 ≤ p) : qX8_isDevice p σ = some (0, σ) := by
  unfold qX8_isDevice
  by_cases c : p < 0
  · rw [if_pos c]
  · rw [if_neg c, pz_lt, hH.1.2.2.2.2.2.2.2.1, hI.1.1.1, if_pos (h.resolve_left c)]
theorem pc_dev1 (hI : pa_WH H) (hH : pc_H 12 H.1 H.2.1 H.2.2.1 H.2.2.2 σ) (h : ¬ (p < 0 ∨ nI H.2.1 ≤ p)) : qX8_isDevice p σ = some (1, σ) := by
  unfold qX8_isDevice
  rw [if_neg (fun hh => h (Or.inl hh)), pz_lt, hH.1.2.2.2.2.2.2.2.1, hI.1.1.1, if_neg (fun hh => h (Or.inr hh))]
theorem pc_wri0 (hI : pa_WH H) (hH : pc_H 12 H.1 H.2.1 H.2.2.1 H.2.2.2 σ) (h : p < 0 ∨ nI H.2.2.2 ≤ p) : qX8_isWriter p σ = some (0, σ) := by
  unfold qX8_isWriter
  by_cases c : p < 0
  · rw [if_pos c]
  · rw [if_neg c, pz_lt, hH.1.2.2.2.2.2.2.2.2.2.1, hI.1.2.2.1.1, if_pos (h.resolve_left c)]
theorem pc_wri1 (hI : pa_WH H) (hH : pc_H 12 H.1 H.2.1 H.2.2.1 H.2.2.2 σ) (h : ¬ (p < 0 ∨ nI H.2.2.2 ≤ p)) : qX8_isWriter p σ = some (1, σ) := by
  unfold qX8_isWriter
  rw [if_neg (fun hh => h (Or.inl hh)), pz_lt, hH.1.2.2.2.2.2.2.2.2.2.1, hI.1.2.2.1.1, if_neg (fun hh => h (Or.inr hh))]
theorem pg_W.hd (w : pg_W H x n P im tr tp fl σ) {k : Nat} (hk : k < 35 ∨ (949 ≤ k ∧ k < 1850)) : σ.1 328 k = H.1 k := by rw [← w.1.1, pg_hd hk]
theorem pg_dev0 (hI : pa_WH H) (w : pg_W H x n P im tr tp fl σ) (h : p < 0 ∨ nI H.2.1 ≤ p) : qX9_isDevice p.toInt64 σ = some (0, σ) := by
  have := hI.1.1.2
  unfold qX9_isDevice
  rw [pz_lt, w.hd (by omega), hI.1.1.1, pz_bde (pg_i0 (lo := 0) (hi := nI H.2.1 - 1) (by decide) rfl (h.imp id (fun hh => (nI_dm1 (by omega)).mpr hh))), if_pos (by decide)]
theorem pg_dev1 (hI : pa_WH H) (w : pg_W H x n P im tr tp fl σ) (h : ¬ (p < 0 ∨ nI H.2.1 ≤ p)) : qX9_isDevice p.toInt64 σ = some (1, σ) := by
  have := hI.1.1.2
  unfold qX9_isDevice
  rw [pz_lt, w.hd (by omega), hI.1.1.1, pz_bde (pg_i1 (lo := 0) (hi := nI H.2.1 - 1) (by decide) rfl (fun hh => h (Or.inl hh)) (fun hh => h (Or.inr ((nI_dm1 (by omega)).mp hh)))), if_pos (by decide)]
theorem pg_wri0 (hI : pa_WH H) (w : pg_W H x n P im tr tp fl σ) (h : p < 0 ∨ nI H.2.2.2 ≤ p) : qX9_isWriter p.toInt64 σ = some (0, σ) := by
  have := hI.1.2.2.1.2
  unfold qX9_isWriter
  rw [pz_lt, w.hd (by omega), hI.1.2.2.1.1, pz_bde (pg_i0 (lo := 0) (hi := nI H.2.2.2 - 1) (by decide) rfl (h.imp id (fun hh => (nI_dm1 (by omega)).mpr hh))), if_pos (by decide)]
theorem pg_wri1 (hI : pa_WH H) (w : pg_W H x n P im tr tp fl σ) (h : ¬ (p < 0 ∨ nI H.2.2.2 ≤ p)) : qX9_isWriter p.toInt64 σ = some (1, σ) := by
  have := hI.1.2.2.1.2
  unfold qX9_isWriter
  rw [pz_lt, w.hd (by omega), hI.1.2.2.1.1, pz_bde (pg_i1 (lo := 0) (hi := nI H.2.2.2 - 1) (by decide) rfl (fun hh => h (Or.inl hh)) (fun hh => h (Or.inr ((nI_dm1 (by omega)).mp hh)))), if_pos (by decide)]
theorem pg_fil0 (hI : pa_WH H) (w : pg_W H x n P im tr tp fl σ) (h : p < 0 ∨ nI H.2.2.1 ≤ p) : qX9_isFile p σ = some (0, σ) := by
  have := hI.1.2.1.2
  unfold qX9_isFile
  rw [pz_lt, w.hd (by omega), hI.1.2.1.1, pz_bde (pg_i0 (lo := 0) (hi := nI H.2.2.1 - 1) (by decide) rfl (h.imp id (fun hh => (nI_dm1 (by omega)).mpr hh))), if_pos (by decide)]
theorem pg_fil1 (hI : pa_WH H) (w : pg_W H x n P im tr tp fl σ) (h : ¬ (p < 0 ∨ nI H.2.2.1 ≤ p)) : qX9_isFile p σ = some (1, σ) := by
  have := hI.1.2.1.2
  unfold qX9_isFile
  rw [pz_lt, w.hd (by omega), hI.1.2.1.1, pz_bde (pg_i1 (lo := 0) (hi := nI H.2.2.1 - 1) (by decide) rfl (fun hh => h (Or.inl hh)) (fun hh => h (Or.inr ((nI_dm1 (by omega)).mp hh)))), if_pos (by decide)]
/-- the reference's first step; its rows begun -/
theorem pg_th {β : Type} {Q : β → ps_S → Prop} {f : ps_S → Option (β × ps_S)} (w : pg_W H x n P im tr tp fl σ) (h : ∀ τ, pg_W H x n P im tr tp fl τ → pg_kp σ τ → ps_ok (f τ) Q) : ps_ok (ps_let (ps_rI σ 327 (upd (σ.1 327) 0 0)) f) Q := h _ ((pg_kp.F σ 0 (by decide)).W w) (pg_kp.F σ 0 (by decide))
theorem pg_bg (hI : pa_WH H) (w : pg_W H x n P im tr tp fl σ) : ps_ok (qX9_begins σ) (fun _ τ => pg_T H.1 H.2.1 H.2.2.2 τ τ x.1 x.2 (pa_p0 H.1) ∧ pg_kp σ τ ∧ pg_W H x n P im tr tp fl τ) := pz_im (pg_begins hI.1.1.2 w.1.1 w.1.2.1 w.1.2.2) (fun _ τ ht => ⟨ht.1, ht.2.1, ht.2.1.W w⟩)
theorem pa_p0I (hI : pa_WH H) : pa_PI H.1 (pa_p0 H.1) ∧ ∃ L, (pa_p0 H.1).1 = nI L ∧ pa_N H.1 11 < L ∧ 1 ≤ L ∧ L ≤ 999 := by
  obtain ⟨⟨_, _, _, _, _, li, bg, ag, pa, wi, ch, qu, l1, b1, _⟩, _⟩ := hI
  have e1 : (pa_p0 H.1).1 = nI li := l1.1
  have e2 : pa_N H.1 11 = bg := by unfold pa_N; rw [b1.1, nI_clamp (by omega)]
  refine ⟨⟨by rw [e1, nI_clamp (by omega)], by rw [e1, nI_clamp (by omega), e2]; omega, by rw [e1, nI_clamp (by omega)]; omega⟩, li, e1, by omega, by omega, by omega⟩
theorem pg_l25 {β : Type} {Q : β → ps_S → Prop} {σ0 : ps_S} {h : pa_R} {D W d : Nat} {r : pa_R} {e : pa_D} {pp : pa_P} {q : Int32} (g : pg_T h D W σ0 σ r e pp) (hp : pp.2.2.1 = -1) (hD : D ≤ 4) (hd : d < D) {inst : Decidable (ps_in q 83 = true)} {f : Int32 → Option (β × ps_S)} (hq : q = nI (25 + d)) (hh : ps_ok (f (r (25 + d))) Q) : ps_ok (@ite _ (ps_in q 83 = true) inst (ps_let (σ.1 335 q.toNatClampNeg) f) none) Q := pz_rd hq (by omega) (by decide) (by
  rw [← g.1, pg_rows (fun j hj => by rw [← g.2.2.2.1.2.2.1, hp]; exact fun hh => nI_m1 (by omega) hh.symm), pa_can_at ⟨by omega, by omega, by omega⟩]) hh
/-- sums of the class's rows -/
theorem pc_sumL {k m : Nat} {r : pa_R} {a : Nat} (hm : m < 2 ^ 31) (h : ∀ i, i < m → σ.1 k i = r (a + i)) : ∀ (j i fuel : Nat), i + j = m → j < fuel → ps_ok (qX6_sumOf_4 k m fuel (pa_sum r a i) (nI i) σ) (fun z τ => z = (pa_sum r a m, nI m) ∧ τ = σ) := by
  intro j
  induction j with
  | zero =>
    intro i fuel e1 e2
    obtain ⟨f, rfl⟩ : ∃ f, fuel = f + 1 := ⟨fuel - 1, by omega⟩
    have : i = m := by omega
    subst this
    rw [qX6_sumOf_4]
    exact pz_t (nI_le (Nat.le_refl _) hm) (pz_done ⟨rfl, rfl⟩)
  | succ j ih =>
    intro i fuel e1 e2
    obtain ⟨f, rfl⟩ : ∃ f, fuel = f + 1 := ⟨fuel - 1, by omega⟩
    rw [qX6_sumOf_4]
    refine pz_e (nI_ge (by omega) hm) ?_
    refine pz_rd (k := i) rfl (by omega) (by omega) (h i (by omega)) ?_
    rw [pz_lt, pz_lt, nI_1]
    exact ih (i + 1) f (by omega) (by omega)
theorem pc_sum {k m : Nat} {r : pa_R} {a : Nat} (hm : m < 100) (h : ∀ i, i < m → σ.1 k i = r (a + i)) : ps_ok (qX6_sumOf k m σ) (fun z τ => z = pa_sum r a m ∧ τ = σ) := by
  unfold qX6_sumOf
  refine pz_bd (pc_sumL (by omega) h m 0 ps_N (by omega) (by unfold ps_N; omega)) (fun z τ ez => ?_)
  obtain ⟨rfl, rfl⟩ := ez
  exact pz_done ⟨rfl, rfl⟩
end HLC
