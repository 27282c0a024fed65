/-! the class's own reckoning -/
def pa_mp (c : Nat) : Nat := if c < 3000 then c else if c = 3006 then 1004 else if c = 3009 then 1005 else if c ≤ 3005 then c - 1994 else c - 1995
theorem pc_lit {c k : Nat} (hc : c < 2 ^ 31) (hk : k < 2 ^ 31) (h : c ≠ k) : ¬ nI c = nI k := fun e => h ((nI_eq hc hk).mp e)
section PCL
variable {y1 y3 y4 y5 y6 : Int32} {i to f n c : Nat} {σ : ps_S}
theorem pc_reck0 {x : Int32} (h : to < 2 ^ 31) : qX4_reckon_18 y1 (nI to) y3 y4 y5 y6 (f + 1) x (nI to) σ = some ((x, nI to), σ) := by
  rw [qX4_reckon_18, if_pos (nI_le (Nat.le_refl _) h)]
theorem pc_recki (hi : i < to) (ht : to ≤ 900) (hn : n ≤ 99) (e0 : σ.1 (12 + 8) i = nI c) (hc : c < 1006 ∧ c ≠ 1004 ∧ c ≠ 1005) : qX4_reckon_18 y1 (nI to) y3 y4 y5 y6 (f + 1) (nI n) (nI i) σ = qX4_reckon_18 y1 (nI to) y3 y4 y5 y6 f (nI (n + 1)) (nI (i + 1)) (ps_rI σ 25 (upd (σ.1 25) n (if c = 1000 then y3 - y3 / 100 * 100 else if c = 1001 then y4 else if c = 1002 then y5 else if c = 1003 then y6 else nI c))) := by
  have q1 : ¬ nI to ≤ nI i := nI_ge (by omega) (by omega)
  have q2 : ¬ (900 : Int32) ≤ nI i := nI_ge (a := i) (b := 900) (by omega) (by omega)
  have q3 : ¬ nI c = 1005 := pc_lit (k := 1005) (by omega) (by omega) (by omega)
  have q4 : ¬ nI c = 1004 := pc_lit (k := 1004) (by omega) (by omega) (by omega)
  have q5 : nI c < 1006 := nI_lt (b := 1006) (by omega) (by omega)
  have q6 : ¬ (100 : Int32) ≤ nI n := nI_ge (a := n) (b := 100) (by omega) (by omega)
  rw [qX4_reckon_18, if_neg q1, if_neg q2, if_pos (pz_ini (a := i) (by omega) (by omega)), nI_clamp (n := i) (by omega), pz_lt, e0, if_neg q3, if_neg q4, if_pos q5, if_neg q6, nI_clamp (n := n) (by omega)]
  by_cases c0 : c = 1000
  · have e : nI c = 1000 := by rw [c0]; rfl
    rw [if_pos e, if_pos c0, if_pos (pz_ini (a := n) (by omega) (by omega)), pz_lt, pz_lt, pz_lt, nI_1, nI_1]
  · have e : ¬ nI c = 1000 := pc_lit (k := 1000) (by omega) (by omega) c0
    rw [if_neg e, if_neg c0]
    by_cases c1 : c = 1001
    · have e : nI c = 1001 := by rw [c1]; rfl
      rw [if_pos e, if_pos c1, if_pos (pz_ini (a := n) (by omega) (by omega)), pz_lt, pz_lt, pz_lt, nI_1, nI_1]
    · have e : ¬ nI c = 1001 := pc_lit (k := 1001) (by omega) (by omega) c1
      rw [if_neg e, if_neg c1]
      by_cases c2 : c = 1002
      · have e : nI c = 1002 := by rw [c2]; rfl
        rw [if_pos e, if_pos c2, if_pos (pz_ini (a := n) (by omega) (by omega)), pz_lt, pz_lt, pz_lt, nI_1, nI_1]
      · have e : ¬ nI c = 1002 := pc_lit (k := 1002) (by omega) (by omega) c2
        rw [if_neg e, if_neg c2]
        by_cases c3 : c = 1003
        · have e : nI c = 1003 := by rw [c3]; rfl
          rw [if_pos e, if_pos c3, if_pos (pz_ini (a := n) (by omega) (by omega)), pz_lt, pz_lt, pz_lt, nI_1, nI_1]
        · have e : ¬ nI c = 1003 := pc_lit (k := 1003) (by omega) (by omega) c3
          rw [if_neg e, if_neg c3, if_pos (pz_ini (a := n) (by omega) (by omega)), pz_lt, pz_lt, pz_lt, nI_1, nI_1]
theorem pc_recknot (hi : i < to) (ht : to ≤ 900) (hn : n ≤ 98) (e0 : σ.1 (12 + 8) i = nI 1004) : qX4_reckon_18 y1 (nI to) y3 y4 y5 y6 (f + 1) (nI (n + 1)) (nI i) σ = qX4_reckon_18 y1 (nI to) y3 y4 y5 y6 f (nI (n + 1)) (nI (i + 1)) (ps_rI σ 25 (upd (σ.1 25) n (1 - σ.1 25 n))) := by
  have q1 : ¬ nI to ≤ nI i := nI_ge (by omega) (by omega)
  have q2 : ¬ (900 : Int32) ≤ nI i := nI_ge (a := i) (b := 900) (by omega) (by omega)
  have q3 : ¬ nI 1004 = 1005 := pc_lit (c := 1004) (k := 1005) (by omega) (by omega) (by omega)
  have q4 : nI 1004 = 1004 := rfl
  have q5 : ¬ nI (n + 1) < 1 := nI_nlt (a := n + 1) (b := 1) (by omega) (by omega)
  rw [qX4_reckon_18, if_neg q1, if_neg q2, if_pos (pz_ini (a := i) (by omega) (by omega)), nI_clamp (n := i) (by omega), pz_lt, e0, if_neg q3, if_pos q4, if_neg q5, pz_m1, if_pos (pz_ini (a := n) (by omega) (by omega)), nI_clamp (n := n) (by omega), pz_lt, if_pos (pz_ini (a := n) (by omega) (by omega)), pz_lt, pz_lt, nI_1]
theorem pc_reckif (hi : i < to) (ht : to ≤ 900) (hn : n ≤ 96) (e0 : σ.1 (12 + 8) i = nI 1005) : qX4_reckon_18 y1 (nI to) y3 y4 y5 y6 (f + 1) (nI (n + 3)) (nI i) σ = qX4_reckon_18 y1 (nI to) y3 y4 y5 y6 f (nI (n + 1)) (nI (i + 1)) (ps_rI σ 25 (upd (σ.1 25) n (if σ.1 25 n = 0 then σ.1 25 (n + 1 + 1) else σ.1 25 (n + 1)))) := by
  have q1 : ¬ nI to ≤ nI i := nI_ge (by omega) (by omega)
  have q2 : ¬ (900 : Int32) ≤ nI i := nI_ge (a := i) (b := 900) (by omega) (by omega)
  have q3 : nI 1005 = 1005 := rfl
  have q5 : ¬ nI (n + 3) < 3 := nI_nlt (a := n + 3) (b := 3) (by omega) (by omega)
  have e1 : nI (n + 3) + -2 = nI (n + 1) := pz_p2 (n + 1)
  rw [qX4_reckon_18, if_neg q1, if_neg q2, if_pos (pz_ini (a := i) (by omega) (by omega)), nI_clamp (n := i) (by omega), pz_lt, e0, if_pos q3, if_neg q5, pz_lt, e1, pz_m1, if_pos (pz_ini (a := n) (by omega) (by omega)), nI_clamp (n := n) (by omega), pz_lt]
  by_cases cq : σ.1 25 n = 0
  · rw [if_pos cq, if_pos cq, nI_1 (n + 1), if_pos (pz_ini (a := n + 1 + 1) (by omega) (by omega)), nI_clamp (n := n + 1 + 1) (by omega), pz_lt, if_pos (pz_ini (a := n) (by omega) (by omega)), pz_lt, pz_lt, nI_1]
  · rw [if_neg cq, if_neg cq, if_pos (pz_ini (a := n + 1) (by omega) (by omega)), nI_clamp (n := n + 1) (by omega), pz_lt, if_pos (pz_ini (a := n) (by omega) (by omega)), pz_lt, pz_lt, nI_1]
theorem pc_kept (v : Int64) (σ : ps_S) : qX4_kept v σ = some (pa_clp v, σ) := by
  unfold qX4_kept pa_clp
  by_cases c2 : -1000000 ≤ v
  · rw [if_pos ((lg_cmp_ge _ _).mpr c2)]
    by_cases c1 : v ≤ 1000000
    · rw [if_pos ((lg_cmp_le _ _).mpr c1), if_pos c1, if_pos c2]
    · rw [if_neg (mt (lg_cmp_le _ _).mp c1), if_neg c1]
  · have h1 : v ≤ 1000000 := by
      rw [Int64.le_iff_toInt_le] at c2 ⊢
      have : (-1000000 : Int64).toInt = -1000000 := by decide
      have : (1000000 : Int64).toInt = 1000000 := by decide
      omega
    rw [if_neg (mt (lg_cmp_ge _ _).mp c2), if_pos h1, if_neg c2]
end PCL
theorem pa_w64 {a b : Int32} : a.toInt64 = b.toInt64 ↔ a = b := ⟨fun h => by
  apply Int32.toInt_inj.mp
  rw [← Int32.toInt_toInt64 a, ← Int32.toInt_toInt64 b, h], fun h => by rw [h]⟩
theorem pa_w64lt {a b : Int32} : a.toInt64 < b.toInt64 ↔ a < b := by rw [Int64.lt_iff_toInt_lt, Int32.lt_iff_toInt_lt, Int32.toInt_toInt64, Int32.toInt_toInt64]
theorem pa_w64le {a b : Int32} : a.toInt64 ≤ b.toInt64 ↔ a ≤ b := by rw [Int64.le_iff_toInt_le, Int32.le_iff_toInt_le, Int32.toInt_toInt64, Int32.toInt_toInt64]
theorem pc_join {c : Nat} (h : 3000 ≤ c ∧ c ≤ 3005 ∨ c = 3007 ∨ c = 3008) (a b : Int32) (h01 : c = 3007 ∨ c = 3008 → (a = 0 ∨ a = 1) ∧ (b = 0 ∨ b = 1)) (σ : ps_S) : ∃ J : Int64, qX4_join (nI (pa_mp c)) a.toInt64 b.toInt64 σ = some (J, σ) ∧ pa_clp J = pa_btw c a b := by
  have k1 : pa_clp 1 = 1 := by decide
  have k0 : pa_clp 0 = 0 := by decide
  rcases (show c = 3000 ∨ c = 3001 ∨ c = 3002 ∨ c = 3003 ∨ c = 3004 ∨ c = 3005 ∨ c = 3007 ∨ c = 3008 by omega) with rfl | rfl | rfl | rfl | rfl | rfl | rfl | rfl
  · refine ⟨a.toInt64 + b.toInt64, ?_, rfl⟩
    show qX4_join 1006 _ _ _ = _
    unfold qX4_join
    rw [if_pos rfl]
  · refine ⟨a.toInt64 - b.toInt64, ?_, rfl⟩
    show qX4_join 1007 _ _ _ = _
    unfold qX4_join
    rw [if_neg (by decide), if_pos rfl]
  · refine ⟨a.toInt64 * b.toInt64, ?_, rfl⟩
    show qX4_join 1008 _ _ _ = _
    unfold qX4_join
    rw [if_neg (by decide), if_neg (by decide), if_pos rfl]
  · refine ⟨if a = b then 1 else 0, ?_, ?_⟩
    · show qX4_join 1009 _ _ _ = _
      unfold qX4_join
      rw [if_neg (by decide), if_neg (by decide), if_neg (by decide), if_pos rfl]
      by_cases q : a = b
      · rw [if_pos ((lg_cmp_eq _ _).mpr (pa_w64.mpr q)), if_pos q]
      · rw [if_neg (fun z => q (pa_w64.mp ((lg_cmp_eq _ _).mp z))), if_neg q]
    · show _ = (if a = b then (1 : Int32) else 0)
      by_cases q : a = b
      · rw [if_pos q, if_pos q, k1]
      · rw [if_neg q, if_neg q, k0]
  · refine ⟨if a < b then 1 else 0, ?_, ?_⟩
    · show qX4_join 1010 _ _ _ = _
      unfold qX4_join
      rw [if_neg (by decide), if_neg (by decide), if_neg (by decide), if_neg (by decide), if_pos rfl]
      by_cases q : a < b
      · rw [if_neg (fun z => Int32.not_lt.mpr (pa_w64le.mp ((lg_cmp_ge _ _).mp z)) q), if_pos q]
      · rw [if_pos ((lg_cmp_ge _ _).mpr (pa_w64le.mpr (Int32.not_lt.mp q))), if_neg q]
    · show _ = (if a < b then (1 : Int32) else 0)
      by_cases q : a < b
      · rw [if_pos q, if_pos q, k1]
      · rw [if_neg q, if_neg q, k0]
  · refine ⟨if b < a then 1 else 0, ?_, ?_⟩
    · show qX4_join 1011 _ _ _ = _
      unfold qX4_join
      rw [if_neg (by decide), if_neg (by decide), if_neg (by decide), if_neg (by decide), if_neg (by decide), if_pos rfl]
      by_cases q : b < a
      · rw [if_neg (fun z => Int32.not_lt.mpr (pa_w64le.mp ((lg_cmp_le _ _).mp z)) q), if_pos q]
      · rw [if_pos ((lg_cmp_le _ _).mpr (pa_w64le.mpr (Int32.not_lt.mp q))), if_neg q]
    · show _ = (if b < a then (1 : Int32) else 0)
      by_cases q : b < a
      · rw [if_pos q, if_pos q, k1]
      · rw [if_neg q, if_neg q, k0]
  · obtain ⟨ha, hb⟩ := h01 (Or.inl rfl)
    refine ⟨a.toInt64 &&& b.toInt64, ?_, ?_⟩
    · show qX4_join 1012 _ _ _ = _
      unfold qX4_join
      rw [if_neg (by decide), if_neg (by decide), if_neg (by decide), if_neg (by decide), if_neg (by decide), if_neg (by decide), if_pos rfl]
    · show _ = a &&& b
      rcases ha with rfl | rfl <;> rcases hb with rfl | rfl <;> decide
  · obtain ⟨ha, hb⟩ := h01 (Or.inr rfl)
    refine ⟨a.toInt64 ||| b.toInt64, ?_, ?_⟩
    · show qX4_join 1013 _ _ _ = _
      unfold qX4_join
      rw [if_neg (by decide), if_neg (by decide), if_neg (by decide), if_neg (by decide), if_neg (by decide), if_neg (by decide), if_neg (by decide)]
    · show _ = a ||| b
      rcases ha with rfl | rfl <;> rcases hb with rfl | rfl <;> decide
section PCL2
variable {y1 y3 y4 y5 y6 : Int32}
theorem pc_reckop {i to f n c : Nat} {σ : ps_S} {a b : Int32} (hi : i < to) (ht : to ≤ 900) (hn : n ≤ 97) (e0 : σ.1 (12 + 8) i = nI (pa_mp c)) (hc : 3000 ≤ c ∧ c ≤ 3005 ∨ c = 3007 ∨ c = 3008) (h01 : c = 3007 ∨ c = 3008 → (a = 0 ∨ a = 1) ∧ (b = 0 ∨ b = 1)) (ha : σ.1 25 n = a) (hb : σ.1 25 (n + 1) = b) : qX4_reckon_18 y1 (nI to) y3 y4 y5 y6 (f + 1) (nI (n + 2)) (nI i) σ = qX4_reckon_18 y1 (nI to) y3 y4 y5 y6 f (nI (n + 1)) (nI (i + 1)) (ps_rI σ 25 (upd (σ.1 25) n (pa_btw c a b))) := by
  have hm : 1006 ≤ pa_mp c ∧ pa_mp c ≤ 1013 := by
    unfold pa_mp
    rw [if_neg (by omega), if_neg (by omega), if_neg (by omega)]
    by_cases q : c ≤ 3005
    · rw [if_pos q]; omega
    · rw [if_neg q]; omega
  obtain ⟨J, j1, j2⟩ := pc_join hc a b h01 σ
  generalize pa_mp c = cc at hm e0 j1
  have q1 : ¬ nI to ≤ nI i := nI_ge (by omega) (by omega)
  have q2 : ¬ (900 : Int32) ≤ nI i := nI_ge (a := i) (b := 900) (by omega) (by omega)
  have q3 : ¬ nI cc = 1005 := pc_lit (k := 1005) (by omega) (by omega) (by omega)
  have q4 : ¬ nI cc = 1004 := pc_lit (k := 1004) (by omega) (by omega) (by omega)
  have q5 : ¬ nI cc < 1006 := nI_nlt (a := cc) (b := 1006) (by omega) (by omega)
  have q6 : ¬ nI (n + 2) < 2 := nI_nlt (a := n + 2) (b := 2) (by omega) (by omega)
  have e1 : nI (n + 2) + -1 = nI (n + 1) := pz_p1 (n + 1)
  rw [qX4_reckon_18, if_neg q1, if_neg q2, if_pos (pz_ini (a := i) (by omega) (by omega)), nI_clamp (n := i) (by omega), pz_lt, e0, if_neg q3, if_neg q4, if_neg q5, if_neg q6, pz_lt, e1, pz_m1, if_pos (pz_ini (a := n) (by omega) (by omega)), nI_clamp (n := n) (by omega), pz_lt, if_pos (pz_ini (a := n + 1) (by omega) (by omega)), nI_clamp (n := n + 1) (by omega), pz_lt, ha, hb, pz_bde j1, pz_bde (pc_kept J σ), if_pos (pz_ini (a := n) (by omega) (by omega)), pz_lt, pz_lt, nI_1, j2]
theorem pc_reckL {wr : Bool} {w : Nat → Int32} {to : Nat} (ht0 : to ≤ 900) (hw : w 0 = y3 - y3 / 100 * 100 ∧ w 1 = y4 ∧ w 2 = y5 ∧ w 3 = y6) : ∀ (l : List Nat) (S : List Int32) (T T' : List Bool) (i fuel : Nat) (σ : ps_S), i + l.length = to → (∀ t c, l[t]? = some c → σ.1 (12 + 8) (i + t) = nI (pa_mp c)) → pa_st (σ.1 25) S → pa_vt S T → S.length ≤ 99 → pa_tyR wr l T = some T' → l.length < fuel →
    ∃ τ, qX4_reckon_18 y1 (nI to) y3 y4 y5 y6 fuel (nI S.length) (nI i) σ = some ((nI (pa_evR w l S).length, nI to), τ) ∧ pa_st (τ.1 25) (pa_evR w l S) ∧ (∀ c, c ≠ 25 → τ.1 c = σ.1 c) ∧ τ.2 = σ.2 ∧ pa_vt (pa_evR w l S) T' := by
  intro l
  induction l with
  | nil =>
    intro S T T' i fuel σ hi hc hst hv hS ht hf
    obtain ⟨f, rfl⟩ : ∃ f, fuel = f + 1 := ⟨fuel - 1, by omega⟩
    have : i = to := by rw [List.length_nil] at hi; omega
    subst this
    injection ht with ht
    subst ht
    exact ⟨σ, pc_reck0 (by omega), hst, fun _ _ => rfl, rfl, hv⟩
  | cons c l ih =>
    intro S T T' i fuel σ hi hc hst hv hS ht hf
    obtain ⟨f, rfl⟩ : ∃ f, fuel = f + 1 := ⟨fuel - 1, by omega⟩
    rw [List.length_cons] at hi hf
    obtain ⟨T1, h1, ht1, ht⟩ := pa_tyR_cons ht
    obtain ⟨hv1, hcase⟩ := pa_step (w := w) hv h1
    have hl1 := pa_vt_len hv1
    have e0 := hc 0 c rfl
    rw [Nat.add_zero i] at e0
    have go : ∀ (m : Nat) (v : Int32), pa_st (upd (σ.1 25) m v) (pa_evS w c S) → ∃ τ, qX4_reckon_18 y1 (nI to) y3 y4 y5 y6 f (nI (pa_evS w c S).length) (nI (i + 1)) (ps_rI σ 25 (upd (σ.1 25) m v)) = some ((nI (pa_evR w (c :: l) S).length, nI to), τ) ∧ pa_st (τ.1 25) (pa_evR w (c :: l) S) ∧ (∀ c, c ≠ 25 → τ.1 c = σ.1 c) ∧ τ.2 = σ.2 ∧ pa_vt (pa_evR w (c :: l) S) T' := by
      intro m v g3
      have g1 : ∀ x, x ≠ 25 → (ps_rI σ 25 (upd (σ.1 25) m v)).1 x = σ.1 x := fun x hx => ps_rI_ne _ _ hx
      obtain ⟨τ, k1, k2, k3, k4, k5⟩ := ih (pa_evS w c S) T1 T' (i + 1) f (ps_rI σ 25 (upd (σ.1 25) m v)) (by omega) (fun t c' hcc => by
        rw [g1 _ (by decide), show i + 1 + t = i + (t + 1) by omega]
        exact hc (t + 1) c' hcc) (by rw [ps_rI_at]; exact g3) hv1 (by omega) ht (by omega)
      exact ⟨τ, k1, k2, fun x hx => (k3 x hx).trans (g1 x hx), k4, k5⟩
    rcases hcase with ⟨q1, q2, -⟩ | ⟨q1, q2, -, q3, -⟩ | ⟨q1, a, S0, q2, qa, q3⟩ | ⟨q1, e1, t1, q, S0, q2, qq, q3⟩ | ⟨q1, b, a, S0, q2, qq, q3⟩
    · have em : pa_mp c = c := by unfold pa_mp; rw [if_pos (by omega)]
      rw [em] at e0
      rw [pc_recki (by omega) ht0 hS e0 (by omega), if_neg (by omega), if_neg (by omega), if_neg (by omega), if_neg (by omega)]
      have := go S.length (nI c) (by rw [q2]; exact pa_st_push hst)
      rw [q2, List.length_cons] at this
      exact this
    · have em : pa_mp c = c := by unfold pa_mp; rw [if_pos (by omega)]
      rw [em] at e0
      rw [pc_recki (by omega) ht0 hS e0 (by omega)]
      have ew : (if c = 1000 then y3 - y3 / 100 * 100 else if c = 1001 then y4 else if c = 1002 then y5 else if c = 1003 then y6 else nI c) = w (c - 1000) := by
        rcases (show c = 1000 ∨ c = 1001 ∨ c = 1002 ∨ c = 1003 by omega) with rfl | rfl | rfl | rfl
        · rw [if_pos rfl]; exact hw.1.symm
        · rw [if_neg (by omega), if_pos rfl]; exact hw.2.1.symm
        · rw [if_neg (by omega), if_neg (by omega), if_pos rfl]; exact hw.2.2.1.symm
        · rw [if_neg (by omega), if_neg (by omega), if_neg (by omega), if_pos rfl]; exact hw.2.2.2.symm
      rw [ew]
      have := go S.length (w (c - 1000)) (by rw [q3]; exact pa_st_push hst)
      rw [q3, List.length_cons] at this
      exact this
    · subst q1
      subst q2
      rw [List.length_cons] at hS ⊢
      have ea : σ.1 25 S0.length = a := hst.1
      rw [pc_recknot (n := S0.length) (by omega) ht0 (by omega) e0, ea]
      have := go S0.length (1 - a) (by rw [q3]; exact pa_st_push hst.2)
      rw [q3, List.length_cons] at this
      exact this
    · subst q1
      subst q2
      rw [List.length_cons, List.length_cons, List.length_cons] at hS ⊢
      have eq : σ.1 25 S0.length = q := hst.2.2.1
      have et : σ.1 25 (S0.length + 1) = t1 := hst.2.1
      have ee : σ.1 25 (S0.length + 1 + 1) = e1 := hst.1
      have hx : (if q = 0 then e1 else t1) = (if q = 1 then t1 else e1) := by
        rcases qq with rfl | rfl
        · rw [if_pos rfl, if_neg (by decide)]
        · rw [if_neg (by decide), if_pos rfl]
      rw [show S0.length + 1 + 1 + 1 = S0.length + 3 from rfl, pc_reckif (n := S0.length) (by omega) ht0 (by omega) e0, eq, et, ee, hx]
      have := go S0.length (if q = 1 then t1 else e1) (by rw [q3]; exact pa_st_push hst.2.2.2)
      rw [q3, List.length_cons] at this
      exact this
    · subst q2
      rw [List.length_cons, List.length_cons] at hS ⊢
      rw [show S0.length + 1 + 1 = S0.length + 2 from rfl, pc_reckop (n := S0.length) (by omega) ht0 (by omega) e0 q1 qq hst.2.1 hst.1]
      have := go S0.length (pa_btw c a b) (by rw [q3]; exact pa_st_push hst.2.2)
      rw [q3, List.length_cons] at this
      exact this
end PCL2
