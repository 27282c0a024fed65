/-! the pause, reckoned in doubles -/
def pa_set (n : Int32) : UInt64 := FP.ddiv (FP.i2d n) 4611686018427387904
def pa_k2 (v : UInt64) : UInt64 := if 0 ≤ Op.cmpValue (FP.dcmp v FP.dconst0) .g then (if Op.cmpValue (FP.dcmp v 4611686018427387904) .l ≤ 0 then v else 4611686018427387904) else FP.dconst0
def pa_gg (s : UInt64) (lim all : Int32) : UInt64 := FP.ddiv (FP.dsub s (FP.i2d all)) (FP.dsub (FP.i2d lim) s)
def pa_p1 (g : UInt64) : UInt64 := FP.dadd FP.dconst1 (FP.dmul (FP.dmul g g) g)
def pa_q1 (hf : UInt64) (on : Int32) : UInt64 := FP.dadd FP.dconst1 (FP.ddiv (FP.dsub hf (FP.i2d on)) hf)
def pa_rate (est : UInt64) (many : Int32) (p q : UInt64) : UInt64 := FP.dmul (FP.dmul (FP.ddiv est (FP.i2d many)) p) q
def pa_its (rate : UInt64) (x : Int32) : UInt64 := if 0 ≤ Op.cmpValue (FP.dcmp rate FP.dconst1) .g then FP.ddiv (FP.dmul (FP.i2d x) 4636737291354636288) rate else FP.ddiv (FP.dmul (FP.i2d x) 4636737291354636288) FP.dconst1
def pa_pz (its : UInt64) (pa : Int32) : Int32 := if Op.cmpValue (FP.dcmp its (FP.i2d pa)) .l ≤ 0 then FP.d2i its else pa
theorem pf_half1 : ∀ a, a < 50 → ∀ b, b < 40 → (pf_z (pa_set (nI (40 * a + b))) * 2 = ((40 * a + b : Nat) : Int) * pf_U ∧ (pa_set (nI (40 * a + b))).toNat % 2 ^ 63 < 1034 * 2 ^ 52) := by decide +kernel
theorem pf_half {n : Nat} (hn : n < 2000) : pf_z (pa_set (nI n)) * 2 = (n : Int) * pf_U ∧ pf_m (pa_set (nI n)) 1034 := by
  have h := pf_half1 (n / 40) (by omega) (n % 40) (by omega)
  rw [show 40 * (n / 40) + n % 40 = n by omega] at h
  exact h
theorem pf_k2 {v : UInt64} {K : Nat} (h : pf_m v K) (hK : 1026 ≤ K) : pf_m (pa_k2 v) K := by
  unfold pa_k2
  by_cases c : 0 ≤ Op.cmpValue (FP.dcmp v FP.dconst0) .g
  · rw [if_pos c]
    by_cases c2 : Op.cmpValue (FP.dcmp v 4611686018427387904) .l ≤ 0
    · rw [if_pos c2]; exact h
    · rw [if_neg c2]; exact pf_mono (K := 1026) (by unfold pf_m; decide +kernel) hK
  · rw [if_neg c]; exact pf_mono (K := 1026) (by unfold pf_m; decide +kernel) hK
theorem pf_one : pf_m FP.dconst1 1024 := by unfold pf_m; decide +kernel
theorem pf_zone : pf_z FP.dconst1 = pf_U := by
  have h := Jvm.FP.Core.DInt_zval Jvm.FP.Core.dint_one
  rw [Int.one_mul] at h
  exact h
theorem pf_gg {f L : Nat} {all : Int32} (hf : f < L) (hL : L ≤ 999) :
    ps_nn (pa_set (nI f + nI L)) = true ∧ ps_nn (FP.dsub (pa_set (nI f + nI L)) (FP.i2d all)) = true ∧ ps_nn (FP.dsub (FP.i2d (nI L)) (pa_set (nI f + nI L))) = true ∧ ps_nn (pa_gg (pa_set (nI f + nI L)) (nI L) all) = true ∧
    ps_nn (FP.dmul (pa_gg (pa_set (nI f + nI L)) (nI L) all) (pa_gg (pa_set (nI f + nI L)) (nI L) all)) = true ∧ ps_nn (FP.dmul (FP.dmul (pa_gg (pa_set (nI f + nI L)) (nI L) all) (pa_gg (pa_set (nI f + nI L)) (nI L) all)) (pa_gg (pa_set (nI f + nI L)) (nI L) all)) = true ∧ ps_nn (pa_p1 (pa_gg (pa_set (nI f + nI L)) (nI L) all)) = true ∧ pf_m (pa_p1 (pa_gg (pa_set (nI f + nI L)) (nI L) all)) 1140 := by
  rw [nI_add]
  obtain ⟨z, m⟩ := pf_half (n := f + L) (by omega)
  have hU := pf_Upos
  have m1 : pf_m (FP.dsub (pa_set (nI (f + L))) (FP.i2d all)) 1058 := pf_sub (pf_mono m (by omega)) (pf_i2d all) (by omega)
  have m2 : pf_m (FP.dsub (FP.i2d (nI L)) (pa_set (nI (f + L)))) 1058 := pf_sub (pf_i2d (nI L)) (pf_mono m (by omega)) (by omega)
  have zl : pf_z (FP.i2d (nI L)) = (L : Int) * pf_U := by rw [pf_zi, nI_toInt (by omega)]
  have hlo : pf_z (pa_set (nI 1)) ≤ pf_z (FP.dsub (FP.i2d (nI L)) (pa_set (nI (f + L)))) := by
    refine pf_sub_ge (pf_fin (pf_i2d _) (by omega)) (pf_fin m (by omega)) (Jvm.FP.Core.val64_fits _) (pf_fin (pf_half (n := 1) (by omega)).2 (by omega)).ne_nan ?_
    show pf_z (pa_set (nI 1)) ≤ _
    have z1 := (pf_half (n := 1) (by omega)).1
    rw [zl]
    have hle : ((f + L : Nat) : Int) * pf_U ≤ (2 * (L : Int) - 1) * pf_U := Int.mul_le_mul_of_nonneg_right (by omega) (by omega)
    rw [Int.sub_mul, Int.mul_assoc, Int.one_mul] at hle
    have : ((1 : Nat) : Int) * pf_U = pf_U := Int.one_mul _
    generalize (L : Int) * pf_U = lu at *
    omega
  have h1 : 1022 * 2 ^ 52 ≤ (FP.dsub (FP.i2d (nI L)) (pa_set (nI (f + L)))).toNat % 2 ^ 63 := by
    have z1 := (pf_half (n := 1) (by omega)).1
    have : ((1 : Nat) : Int) * pf_U = pf_U := Int.one_mul _
    exact pf_geH (pf_fin m2 (by omega)) (by omega) (by omega)
  have m3 : pf_m (pa_gg (pa_set (nI (f + L))) (nI L) all) 1060 := pf_mono (pf_div m1 h1 (pf_mono m2 (by omega)) (by omega) (by omega)) (by omega)
  have m4 := pf_mul m3 m3 (by omega) (by omega)
  have m5 := pf_mul m4 m3 (by omega) (by omega)
  have m6 : pf_m (pa_p1 (pa_gg (pa_set (nI (f + L))) (nI L) all)) 1140 := pf_add (pf_mono pf_one (by omega)) (pf_mono m5 (by omega)) (by omega)
  exact ⟨pf_nn m (by omega), pf_nn m1 (by omega), pf_nn m2 (by omega), pf_nn m3 (by omega), pf_nn m4 (by omega), pf_nn m5 (by omega), pf_nn m6 (by omega), m6⟩
theorem pf_qq {s : Nat} {on : Int32} (h1 : 1 ≤ s) (h2 : s ≤ 999) :
    ps_nn (pa_set (nI s)) = true ∧ ps_nn (FP.dsub (pa_set (nI s)) (FP.i2d on)) = true ∧ ps_nn (FP.ddiv (FP.dsub (pa_set (nI s)) (FP.i2d on)) (pa_set (nI s))) = true ∧ ps_nn (pa_q1 (pa_set (nI s)) on) = true ∧ pf_m (pa_q1 (pa_set (nI s)) on) 1070 := by
  obtain ⟨z, m⟩ := pf_half (n := s) (by omega)
  have hU := pf_Upos
  have hs : pf_U ≤ (s : Int) * pf_U := by
    have := Int.mul_le_mul_of_nonneg_right (show (1 : Int) ≤ (s : Int) by omega) (Int.le_of_lt hU)
    rw [Int.one_mul] at this
    exact this
  have lo : 1022 * 2 ^ 52 ≤ (pa_set (nI s)).toNat % 2 ^ 63 := pf_geH (pf_fin m (by omega)) (by omega) (by omega)
  have m1 : pf_m (FP.dsub (pa_set (nI s)) (FP.i2d on)) 1058 := pf_sub (pf_mono m (by omega)) (pf_i2d on) (by omega)
  have m2 := pf_div m1 lo (pf_mono m (by omega)) (by omega) (by omega)
  have m3 : pf_m (pa_q1 (pa_set (nI s)) on) 1070 := pf_mono (pf_add (K := 1060) (pf_mono pf_one (by omega)) (pf_mono m2 (by omega)) (by omega)) (by omega)
  exact ⟨pf_nn m (by omega), pf_nn m1 (by omega), pf_nn m2 (by omega), pf_nn m3 (by omega), m3⟩
theorem pf_rate {est p q : UInt64} {M m : Nat} (hE : pf_E est M) (hM : M < 2 ^ 53) (m1 : 1 ≤ m) (m2 : m < 2 ^ 31) (hp : pf_m p 1140) (hq : pf_m q 1140) :
    ps_nn (FP.ddiv est (FP.i2d (nI m))) = true ∧ ps_nn (FP.dmul (FP.ddiv est (FP.i2d (nI m))) p) = true ∧ ps_nn (pa_rate est (nI m) p q) = true ∧ pf_m (pa_rate est (nI m) p q) 1400 := by
  have a1 := pf_div (hE.m hM) (pf_i2dge (nI_ne0 (by omega) m2)) (pf_mono (pf_i2d (nI m)) (by omega)) (by omega) (by omega)
  have a2 := pf_mul a1 hp (by omega) (by omega)
  have a3 := pf_mul a2 hq (by omega) (by omega)
  exact ⟨pf_nn a1 (by omega), pf_nn a2 (by omega), pf_nn a3 (by omega), pf_mono a3 (by omega)⟩
theorem pf_cv {a b : UInt64} (ha : Jvm.FP.Core.DFin a) (hb : Jvm.FP.Core.DFin b) : ∃ o, FP.dcmp a b = some o := ⟨_, Jvm.FP.Core.dcmp_key ha.ne_nan hb.ne_nan⟩
theorem pf_its {rate : UInt64} {x : Nat} (hr : pf_m rate 1400) (hx : x < 2 ^ 31) :
    ps_nn (FP.dmul (FP.i2d (nI x)) 4636737291354636288) = true ∧ (0 ≤ Op.cmpValue (FP.dcmp rate FP.dconst1) .g → ps_nn (FP.ddiv (FP.dmul (FP.i2d (nI x)) 4636737291354636288) rate) = true) ∧ ps_nn (FP.ddiv (FP.dmul (FP.i2d (nI x)) 4636737291354636288) FP.dconst1) = true ∧ Jvm.FP.Core.DFin (pa_its rate (nI x)) := by
  have m := (pf_w100 hx).2
  have a1 : pf_m (FP.ddiv (FP.dmul (FP.i2d (nI x)) 4636737291354636288) FP.dconst1) 1100 := pf_mono (pf_div m (L := 1023) (by decide +kernel) (pf_mono pf_one (by omega)) (by omega) (by omega)) (by omega)
  have a2 : 0 ≤ Op.cmpValue (FP.dcmp rate FP.dconst1) .g → pf_m (FP.ddiv (FP.dmul (FP.i2d (nI x)) 4636737291354636288) rate) 1100 := by
    intro hc
    have hfr := pf_fin hr (by omega)
    have hf1 := pf_fin pf_one (by omega)
    have hge : pf_U ≤ pf_z rate := by
      rw [← pf_zone]
      refine (Jvm.FP.Core.dcmp_ge (a := rate) (b := FP.dconst1)).mp ?_ |>.2.2
      obtain ⟨o, ho⟩ := pf_cv hfr hf1
      have ho' : Jvm.FP.Core.dcmp rate FP.dconst1 = some o := ho
      rw [ho] at hc
      cases o with
      | lt => exact absurd hc (by decide)
      | eq => exact Or.inr ho'
      | gt => exact Or.inl ho'
    exact pf_mono (pf_div m (pf_ge1 hfr hge) (pf_mono hr (by omega)) (by omega) (by omega)) (by omega)
  refine ⟨pf_nn m (by omega), fun hc => pf_nn (a2 hc) (by omega), pf_nn a1 (by omega), ?_⟩
  unfold pa_its
  by_cases c : 0 ≤ Op.cmpValue (FP.dcmp rate FP.dconst1) .g
  · rw [if_pos c]; exact pf_fin (a2 c) (by omega)
  · rw [if_neg c]; exact pf_fin a1 (by omega)
/-- the class asks the other way round -/
theorem pf_lt {rate : UInt64} (hr : pf_m rate 1400) : Op.cmpValue (FP.dcmp rate FP.dconst1) .l < 0 ↔ ¬ 0 ≤ Op.cmpValue (FP.dcmp rate FP.dconst1) .g := by
  obtain ⟨o, ho⟩ := pf_cv (pf_fin hr (by omega)) (pf_fin pf_one (by omega))
  rw [ho]
  cases o <;> decide
theorem pf_pz {its : UInt64} {pa : Nat} (hi : Jvm.FP.Core.DFin its) (h1 : 1 ≤ pa) (h2 : pa < 2 ^ 31) : (if Op.cmpValue (FP.dcmp its (FP.i2d (nI pa))) .l < 0 then FP.d2i its else nI pa) = pa_pz its (nI pa) := by
  unfold pa_pz
  obtain ⟨o, ho⟩ := pf_cv hi (pf_fin (pf_i2d (nI pa)) (by omega))
  cases o with
  | lt => rw [ho, if_pos (by decide), if_pos (by decide)]
  | gt => rw [ho, if_neg (by decide), if_neg (by decide)]
  | eq =>
    have hz : ¬ Jvm.FP.Core.DZero (Jvm.FP.Core.i2d (nI pa)) := by
      intro hz
      have := (Jvm.FP.Core.zero_bits2 _).mp hz
      have := Jvm.FP.Core.i2d_ne_zero (nI_ne0 (n := pa) (by omega) h2)
      omega
    have e : its = Jvm.FP.Core.i2d (nI pa) := Jvm.FP.Core.eq_bits hz ho
    rw [ho, if_neg (by decide), if_pos (by decide), e]
    exact (Jvm.FP.Core.d2i_i2d (nI pa)).symm
