/-! doubles: never a NaN -/
def pf_m (a : UInt64) (K : Nat) : Prop := a.toNat % 2 ^ 63 < K * 2 ^ 52
theorem pf_nn {a : UInt64} {K : Nat} (h : pf_m a K) (hK : K ≤ 2047) : ps_nn a = true := by
  unfold ps_nn
  refine decide_eq_true ?_
  rw [UInt64.le_iff_toNat_le, UInt64.toNat_and]
  show a.toNat &&& 9223372036854775807 ≤ 9218868437227405312
  rw [show (9223372036854775807 : Nat) = 2 ^ 63 - 1 by decide, Nat.and_two_pow_sub_one_eq_mod]
  unfold pf_m at h
  omega
theorem pf_fin {a : UInt64} {K : Nat} (h : pf_m a K) (hK : K ≤ 2047) : Jvm.FP.Core.DFin a := Jvm.FP.Core.fin_of_lt h hK
theorem pf_i2d (x : Int32) : pf_m (FP.i2d x) 1056 := Jvm.FP.Core.i2d_mag x
theorem pf_i2dge {x : Int32} (h : x ≠ 0) : 1023 * 2 ^ 52 ≤ (FP.i2d x).toNat % 2 ^ 63 := (Jvm.FP.Core.i2d_big (fun e => h (Int32.toInt_inj.mp e))).1
theorem pf_mono {a : UInt64} {K L : Nat} (h : pf_m a K) (hL : K ≤ L) : pf_m a L := by
  exact Nat.lt_of_lt_of_le h (Nat.mul_le_mul_right (2 ^ 52) hL)
theorem pf_mul {a b : UInt64} {Ka Kb : Nat} (ha : pf_m a Ka) (hb : pf_m b Kb) (h1 : Ka ≤ 2047) (h2 : Kb ≤ 2047) : pf_m (FP.dmul a b) (Ka + Kb - 1025 + 3) := Jvm.FP.Core.dmul_mag ha hb h1 h2
theorem pf_add {a b : UInt64} {K : Nat} (ha : pf_m a K) (hb : pf_m b K) (h1 : K ≤ 2047) : pf_m (FP.dadd a b) (K + 2) := Jvm.FP.Core.dadd_mag ha hb h1
theorem pf_sub {a b : UInt64} {K : Nat} (ha : pf_m a K) (hb : pf_m b K) (h1 : K ≤ 2047) : pf_m (FP.dsub a b) (K + 2) := Jvm.FP.Core.dsub_mag ha hb h1
theorem pf_div {a b : UInt64} {K L : Nat} (ha : pf_m a K) (hb : L * 2 ^ 52 ≤ b.toNat % 2 ^ 63) (hb2 : pf_m b 2047) (h1 : K ≤ 2047) (hL : 1 ≤ L) : pf_m (FP.ddiv a b) (K + (1074 - 52 - 1) - L + 3) := Jvm.FP.Core.ddiv_mag ha hb hb2 h1 hL
/-- values in the least units -/
def pf_z (a : UInt64) : Int := Jvm.FP.Core.zval Jvm.FP.Core.b64 (Jvm.FP.Core.val64 a)
def pf_U : Int := (Jvm.FP.Core.one64 : Int)
theorem pf_Upos : 0 < pf_U := Int.natCast_pos.mpr Jvm.FP.Core.one64_pos
theorem pf_neg {b : UInt64} (hb : Jvm.FP.Core.DFin b) : ∃ s c q, Jvm.FP.Core.negate (Jvm.FP.Core.val64 b) = .fin s c q := by
  obtain ⟨s, c, q, e⟩ := hb; exact ⟨!s, c, q, by rw [e]; rfl⟩
theorem pf_sub_le {a b : UInt64} {V : Jvm.FP.Core.Datum} (ha : Jvm.FP.Core.DFin a) (hb : Jvm.FP.Core.DFin b) (fV : Jvm.FP.Core.fits Jvm.FP.Core.b64 V) (hV : V ≠ .nan) (h : pf_z a - pf_z b ≤ Jvm.FP.Core.zval Jvm.FP.Core.b64 V) : pf_z (FP.dsub a b) ≤ Jvm.FP.Core.zval Jvm.FP.Core.b64 V := by
  show Jvm.FP.Core.zval Jvm.FP.Core.b64 (Jvm.FP.Core.val64 (Jvm.FP.Core.dsub a b)) ≤ _
  rw [Jvm.FP.Core.val64_dsub]
  refine Jvm.FP.Core.sum_le Jvm.FP.Core.good_b64 ha (pf_neg hb) (Jvm.FP.Core.val64_fits a) (Jvm.FP.Core.negate_fits (Jvm.FP.Core.val64_fits b)) fV hV ?_
  rw [Jvm.FP.Core.zval_negate]; unfold pf_z at h; omega
theorem pf_sub_ge {a b : UInt64} {V : Jvm.FP.Core.Datum} (ha : Jvm.FP.Core.DFin a) (hb : Jvm.FP.Core.DFin b) (fV : Jvm.FP.Core.fits Jvm.FP.Core.b64 V) (hV : V ≠ .nan) (h : Jvm.FP.Core.zval Jvm.FP.Core.b64 V ≤ pf_z a - pf_z b) : Jvm.FP.Core.zval Jvm.FP.Core.b64 V ≤ pf_z (FP.dsub a b) := by
  show _ ≤ Jvm.FP.Core.zval Jvm.FP.Core.b64 (Jvm.FP.Core.val64 (Jvm.FP.Core.dsub a b))
  rw [Jvm.FP.Core.val64_dsub]
  refine Jvm.FP.Core.sum_ge Jvm.FP.Core.good_b64 ha (pf_neg hb) (Jvm.FP.Core.val64_fits a) (Jvm.FP.Core.negate_fits (Jvm.FP.Core.val64_fits b)) fV hV ?_
  rw [Jvm.FP.Core.zval_negate]; unfold pf_z at h; omega
theorem pf_add_le {a b : UInt64} {V : Jvm.FP.Core.Datum} (ha : Jvm.FP.Core.DFin a) (hb : Jvm.FP.Core.DFin b) (fV : Jvm.FP.Core.fits Jvm.FP.Core.b64 V) (hV : V ≠ .nan) (h : pf_z a + pf_z b ≤ Jvm.FP.Core.zval Jvm.FP.Core.b64 V) : pf_z (FP.dadd a b) ≤ Jvm.FP.Core.zval Jvm.FP.Core.b64 V := by
  show Jvm.FP.Core.zval Jvm.FP.Core.b64 (Jvm.FP.Core.val64 (Jvm.FP.Core.dadd a b)) ≤ _
  rw [Jvm.FP.Core.val64_dadd]
  exact Jvm.FP.Core.sum_le Jvm.FP.Core.good_b64 ha hb (Jvm.FP.Core.val64_fits a) (Jvm.FP.Core.val64_fits b) fV hV h
theorem pf_add_ge {a b : UInt64} {V : Jvm.FP.Core.Datum} (ha : Jvm.FP.Core.DFin a) (hb : Jvm.FP.Core.DFin b) (fV : Jvm.FP.Core.fits Jvm.FP.Core.b64 V) (hV : V ≠ .nan) (h : Jvm.FP.Core.zval Jvm.FP.Core.b64 V ≤ pf_z a + pf_z b) : Jvm.FP.Core.zval Jvm.FP.Core.b64 V ≤ pf_z (FP.dadd a b) := by
  show _ ≤ Jvm.FP.Core.zval Jvm.FP.Core.b64 (Jvm.FP.Core.val64 (Jvm.FP.Core.dadd a b))
  rw [Jvm.FP.Core.val64_dadd]
  exact Jvm.FP.Core.sum_ge Jvm.FP.Core.good_b64 ha hb (Jvm.FP.Core.val64_fits a) (Jvm.FP.Core.val64_fits b) fV hV h
/-- whole numbers below 2^53, as data of the format -/
theorem pf_int {n : Nat} (h : n < 2 ^ 53) : ∃ V : Jvm.FP.Core.Datum, Jvm.FP.Core.fits Jvm.FP.Core.b64 V ∧ V ≠ .nan ∧ Jvm.FP.Core.zval Jvm.FP.Core.b64 V = (n : Int) * pf_U := by
  have hi : (Int64.ofNat n).toInt = (n : Int) := Int64.toInt_ofNat_of_lt (by omega)
  have hw := Jvm.FP.Core.l2d_int (a := Int64.ofNat n) (by rw [hi]; omega)
  rw [hi] at hw
  exact ⟨Jvm.FP.Core.val64 (Jvm.FP.Core.l2d (Int64.ofNat n)), Jvm.FP.Core.val64_fits _, Jvm.FP.Core.DInt_ne_nan hw, Jvm.FP.Core.DInt_zval hw⟩
theorem pf_zi (x : Int32) : pf_z (FP.i2d x) = x.toInt * pf_U := Jvm.FP.Core.DInt_zval (Jvm.FP.Core.i2d_int x)
/-- magnitudes and buckets -/
theorem pf_u {K : Nat} (h : 1023 ≤ K) : 2 ^ 52 * 2 ^ (K - 1) = 2 ^ (K - 1023) * Jvm.FP.Core.one64 := by
  unfold Jvm.FP.Core.one64
  rw [← Nat.pow_add, ← Nat.pow_add, show 52 + (K - 1) = K - 1023 + 1074 by omega]
theorem pf_ofz {a : UInt64} {K : Nat} (ha : Jvm.FP.Core.DFin a) (h1 : 1 ≤ K) (h : Jvm.FP.Core.zmag Jvm.FP.Core.b64 (Jvm.FP.Core.val64 a) < 2 ^ 52 * 2 ^ (K - 1)) : pf_m a K := by
  rw [Jvm.FP.Core.zmag_bits ha.ne_nan] at h
  have h2 := Jvm.FP.Core.unitsOf_start (f := Jvm.FP.Core.b64) h1
  rw [Jvm.FP.Core.tails_b64] at h2
  rw [← h2] at h
  exact Jvm.FP.Core.unitsOf_lt_iff.mp h
theorem pf_gez {a : UInt64} {K : Nat} (ha : Jvm.FP.Core.DFin a) (h1 : 1 ≤ K) (h : 2 ^ 52 * 2 ^ (K - 1) ≤ Jvm.FP.Core.zmag Jvm.FP.Core.b64 (Jvm.FP.Core.val64 a)) : K * 2 ^ 52 ≤ a.toNat % 2 ^ 63 := by
  rw [Jvm.FP.Core.zmag_bits ha.ne_nan] at h
  have h2 := Jvm.FP.Core.unitsOf_start (f := Jvm.FP.Core.b64) h1
  rw [Jvm.FP.Core.tails_b64] at h2
  rw [← h2] at h
  exact Jvm.FP.Core.unitsOf_le_iff.mp h
theorem pf_toz {a : UInt64} {K : Nat} (h : pf_m a K) (hK : K ≤ 2047) : Jvm.FP.Core.zmag Jvm.FP.Core.b64 (Jvm.FP.Core.val64 a) < 2 ^ 52 * 2 ^ (K - 1) := by
  rw [Jvm.FP.Core.zmag_bits (pf_fin h hK).ne_nan]
  have h3 := (Jvm.FP.Core.units_lt_start (f := Jvm.FP.Core.b64) (m := a.toNat % 2 ^ 63) (K := K) (by rw [Jvm.FP.Core.tails_b64]; exact h)).2
  rw [Jvm.FP.Core.tails_b64] at h3
  exact h3
theorem pf_zm {a : UInt64} (h : 0 ≤ pf_z a) : pf_z a = (Jvm.FP.Core.zmag Jvm.FP.Core.b64 (Jvm.FP.Core.val64 a) : Int) := by
  revert h
  unfold pf_z Jvm.FP.Core.zval
  cases Jvm.FP.Core.sgn (Jvm.FP.Core.val64 a) with
  | false => intro _; rfl
  | true =>
    intro h
    have h' : (0 : Int) ≤ -((Jvm.FP.Core.zmag Jvm.FP.Core.b64 (Jvm.FP.Core.val64 a) : Nat) : Int) := h
    show -((Jvm.FP.Core.zmag Jvm.FP.Core.b64 (Jvm.FP.Core.val64 a) : Nat) : Int) = _
    omega
theorem pf_mU {a : UInt64} {K n : Nat} (ha : Jvm.FP.Core.DFin a) (hK : 1023 ≤ K) (h0 : 0 ≤ pf_z a) (h : pf_z a ≤ (n : Int) * pf_U) (hn : n < 2 ^ (K - 1023)) : pf_m a K := by
  refine pf_ofz ha (by omega) ?_
  rw [pf_u hK]
  rw [pf_zm h0] at h
  unfold pf_U at h
  rw [← Int.natCast_mul] at h
  exact Nat.lt_of_le_of_lt (Int.ofNat_le.mp h) (Nat.mul_lt_mul_of_pos_right hn Jvm.FP.Core.one64_pos)
theorem pf_Um {a : UInt64} {K : Nat} (h : pf_m a K) (hK : K ≤ 2047) (hK2 : 1023 ≤ K) (h0 : 0 ≤ pf_z a) : pf_z a ≤ ((2 ^ (K - 1023) : Nat) : Int) * pf_U := by
  have h1 := pf_toz h hK
  rw [pf_u hK2] at h1
  rw [pf_zm h0]
  unfold pf_U
  rw [← Int.natCast_mul]
  exact Int.ofNat_le.mpr (Nat.le_of_lt h1)
theorem pf_geH {a : UInt64} (ha : Jvm.FP.Core.DFin a) (h0 : 0 ≤ pf_z a) (h : pf_U ≤ 2 * pf_z a) : 1022 * 2 ^ 52 ≤ a.toNat % 2 ^ 63 := by
  refine pf_gez ha (by omega) ?_
  have e : Jvm.FP.Core.one64 = 2 * (2 ^ 52 * 2 ^ (1022 - 1)) := by
    have := pf_u (K := 1023) (Nat.le_refl _)
    rw [Nat.sub_self, Nat.pow_zero, Nat.one_mul] at this
    rw [← this, Nat.mul_left_comm, ← Nat.pow_succ']
  rw [pf_zm h0] at h
  unfold pf_U at h
  rw [e] at h
  generalize 2 ^ 52 * 2 ^ (1022 - 1) = u at h ⊢
  omega
theorem pf_ge1 {a : UInt64} (ha : Jvm.FP.Core.DFin a) (h : pf_U ≤ pf_z a) : 1023 * 2 ^ 52 ≤ a.toNat % 2 ^ 63 := by
  have hU := pf_Upos
  refine pf_gez ha (by omega) ?_
  have e : Jvm.FP.Core.one64 = 2 ^ 52 * 2 ^ (1023 - 1) := by
    have := pf_u (K := 1023) (Nat.le_refl _)
    rw [Nat.sub_self, Nat.pow_zero, Nat.one_mul] at this
    exact this.symm
  rw [pf_zm (by omega)] at h
  unfold pf_U at h
  rw [e] at h
  exact Int.ofNat_le.mp h
/-- an eighth is no greater -/
theorem pf_v8 : Jvm.FP.Core.val64 4620693217682128896 = .fin false 4503599627370496 (-49) := by decide +kernel
theorem pf_div8 {y : UInt64} (h : Jvm.FP.Core.DFin y) : Jvm.FP.Core.zmag Jvm.FP.Core.b64 (Jvm.FP.Core.val64 (FP.ddiv y 4620693217682128896)) ≤ Jvm.FP.Core.zmag Jvm.FP.Core.b64 (Jvm.FP.Core.val64 y) ∧ Jvm.FP.Core.sgn (Jvm.FP.Core.val64 (FP.ddiv y 4620693217682128896)) = Jvm.FP.Core.sgn (Jvm.FP.Core.val64 y) := by
  have hf := Jvm.FP.Core.val64_fits y
  have e : Jvm.FP.Core.val64 (FP.ddiv y 4620693217682128896) = Jvm.FP.Core.quotient Jvm.FP.Core.b64 (Jvm.FP.Core.val64 y) (Jvm.FP.Core.val64 4620693217682128896) := Jvm.FP.Core.val64_ddiv _ _
  rw [e, pf_v8]
  obtain ⟨s, c, q, hy⟩ := h
  rw [hy] at hf ⊢
  have hq : Jvm.FP.Core.b64.qmin ≤ q := hf.2.1
  have e2 : Jvm.FP.Core.quotient Jvm.FP.Core.b64 (.fin s c q) (.fin false 4503599627370496 (-49)) = Jvm.FP.Core.roundRatio Jvm.FP.Core.b64 (s != false) c 4503599627370496 (q - (-49)) := by
    show (if (4503599627370496 : Nat) = 0 then (if c = 0 then Jvm.FP.Core.Datum.nan else .inf (s != false)) else Jvm.FP.Core.roundRatio Jvm.FP.Core.b64 (s != false) c 4503599627370496 (q - (-49))) = _
    rw [if_neg (by decide)]
  rw [e2]
  refine ⟨Jvm.FP.Core.zmag_roundRatio_le Jvm.FP.Core.good_b64 (e0 := Jvm.FP.Core.b64.qmin) (by decide) hf Jvm.FP.Core.Datum.noConfusion (Int.le_refl _) (by omega) ?_, ?_⟩
  · rw [Int.sub_self]
    show c * 2 ^ (q - (-49) - Jvm.FP.Core.b64.qmin).toNat ≤ c * 2 ^ (q - Jvm.FP.Core.b64.qmin).toNat * 2 ^ (0 : Nat) * 4503599627370496
    rw [Nat.pow_zero, Nat.mul_one, Nat.mul_assoc, show (4503599627370496 : Nat) = 2 ^ 52 by decide, ← Nat.pow_add]
    exact Nat.mul_le_mul_left _ (Nat.pow_le_pow_right (by decide) (by omega))
  · rw [Jvm.FP.Core.sgn_roundRatio]
    cases s <;> rfl
theorem pf_z8 {y : UInt64} (h : Jvm.FP.Core.DFin y) : (0 ≤ pf_z y → 0 ≤ pf_z (FP.ddiv y 4620693217682128896) ∧ pf_z (FP.ddiv y 4620693217682128896) ≤ pf_z y) ∧ (pf_z y ≤ 0 → pf_z (FP.ddiv y 4620693217682128896) ≤ 0 ∧ pf_z y ≤ pf_z (FP.ddiv y 4620693217682128896)) := by
  obtain ⟨h1, h2⟩ := pf_div8 h
  unfold pf_z Jvm.FP.Core.zval Jvm.FP.Core.signed
  rw [h2]
  cases Jvm.FP.Core.sgn (Jvm.FP.Core.val64 y)
  · simp only [Bool.false_eq_true, if_false]; omega
  · simp only [if_true]; omega
/-- the estimate stays within bounds -/
def pf_E (x : UInt64) (M : Nat) : Prop := Jvm.FP.Core.DFin x ∧ 0 ≤ pf_z x ∧ pf_z x ≤ (M : Int) * pf_U
theorem pf_E.m {x : UInt64} {M : Nat} (h : pf_E x M) (hM : M < 2 ^ 53) : pf_m x 1076 := pf_mU h.1 (by omega) h.2.1 h.2.2 hM
theorem pf_E.mono {x : UInt64} {M N : Nat} (h : pf_E x M) (hM : M ≤ N) : pf_E x N := ⟨h.1, h.2.1, Int.le_trans h.2.2 (Int.mul_le_mul_of_nonneg_right (by omega) (Int.le_of_lt pf_Upos))⟩
theorem pf_est {x t : UInt64} {M : Nat} (hx : pf_E x M) (hM : M + 16777216 < 2 ^ 53) (ht : pf_E t 16777216) :
    ps_nn (FP.dsub t x) = true ∧ ps_nn (FP.ddiv (FP.dsub t x) 4620693217682128896) = true ∧ ps_nn (FP.dadd x (FP.ddiv (FP.dsub t x) 4620693217682128896)) = true ∧ pf_E (FP.dadd x (FP.ddiv (FP.dsub t x) 4620693217682128896)) (M + 16777216) := by
  have mx := hx.m (by omega)
  have mt := ht.m (by decide)
  have m1 : pf_m (FP.dsub t x) 1078 := pf_sub mt mx (by omega)
  have m2 : pf_m (FP.ddiv (FP.dsub t x) 4620693217682128896) 1076 := pf_mono (pf_div m1 (L := 1026) (by decide +kernel) (by unfold pf_m; decide +kernel) (by omega) (by omega)) (by omega)
  have m3 : pf_m (FP.dadd x (FP.ddiv (FP.dsub t x) 4620693217682128896)) 1078 := pf_add mx m2 (by omega)
  refine ⟨pf_nn m1 (by omega), pf_nn m2 (by omega), pf_nn m3 (by omega), pf_fin m3 (by omega), ?_⟩
  have hU := pf_Upos
  have y1 : pf_z (FP.dsub t x) ≤ pf_z t := pf_sub_le ht.1 hx.1 (Jvm.FP.Core.val64_fits t) ht.1.ne_nan (by
    show _ ≤ pf_z t
    have := hx.2.1
    omega)
  have y0 : -pf_z x ≤ pf_z (FP.dsub t x) := by
    have h := pf_sub_ge ht.1 hx.1 (Jvm.FP.Core.negate_fits (Jvm.FP.Core.val64_fits x)) (Jvm.FP.Core.negate_ne_nan hx.1.ne_nan) (by
      rw [Jvm.FP.Core.zval_negate]
      show -pf_z x ≤ _
      have := ht.2.1
      omega)
    rw [Jvm.FP.Core.zval_negate] at h
    exact h
  obtain ⟨z1, z2⟩ := pf_z8 (pf_fin m1 (by omega))
  have b1 : pf_z (FP.ddiv (FP.dsub t x) 4620693217682128896) ≤ pf_z t := by
    rcases Int.le_total 0 (pf_z (FP.dsub t x)) with h | h
    · exact Int.le_trans (z1 h).2 y1
    · exact Int.le_trans (z2 h).1 ht.2.1
  have b0 : -pf_z x ≤ pf_z (FP.ddiv (FP.dsub t x) 4620693217682128896) := by
    rcases Int.le_total 0 (pf_z (FP.dsub t x)) with h | h
    · have := (z1 h).1; have := hx.2.1; omega
    · exact Int.le_trans y0 (z2 h).2
  have hx2 := hx.2.2
  have ht2 := ht.2.2
  obtain ⟨V, fV, nV, eV⟩ := pf_int hM
  obtain ⟨V0, fV0, nV0, eV0⟩ := pf_int (n := 0) (by decide)
  constructor
  · have := pf_add_ge hx.1 (pf_fin m2 (by omega)) fV0 nV0 (by rw [eV0]; omega)
    rw [eV0] at this
    omega
  · have := pf_add_le hx.1 (pf_fin m2 (by omega)) fV nV (by
      rw [eV, Int.natCast_add, Int.add_mul]
      omega)
    rw [eV] at this
    exact this
/-- quotients of what isn't below 0 -/
theorem pf_div_pos {a b : UInt64} (ha : Jvm.FP.Core.DFin a) (hb : Jvm.FP.Core.DFin b) (h0 : 0 ≤ pf_z a) (h1 : 0 < pf_z b) : 0 ≤ pf_z (FP.ddiv a b) := by
  have e : Jvm.FP.Core.val64 (FP.ddiv a b) = Jvm.FP.Core.quotient Jvm.FP.Core.b64 (Jvm.FP.Core.val64 a) (Jvm.FP.Core.val64 b) := Jvm.FP.Core.val64_ddiv _ _
  unfold pf_z at h0 h1 ⊢
  rw [e]
  obtain ⟨s, c, q, ea⟩ := ha
  obtain ⟨t, d, r, eb⟩ := hb
  rw [ea] at h0 ⊢
  rw [eb] at h1 ⊢
  have hd : d ≠ 0 := by
    intro hd
    subst hd
    have : Jvm.FP.Core.zval Jvm.FP.Core.b64 (.fin t 0 r) = 0 := by
      show Jvm.FP.Core.signed t (0 * _) = 0
      rw [Nat.zero_mul]
      cases t <;> rfl
    omega
  have ht : t = false := by
    cases t
    · rfl
    · have : Jvm.FP.Core.zval Jvm.FP.Core.b64 (.fin true d r) ≤ 0 := by
        show -((_ : Nat) : Int) ≤ 0
        omega
      omega
  subst ht
  show 0 ≤ Jvm.FP.Core.zval Jvm.FP.Core.b64 (if d = 0 then _ else _)
  rw [if_neg hd]
  by_cases hc : c = 0
  · subst hc
    unfold Jvm.FP.Core.roundRatio
    rw [if_pos rfl]
    show 0 ≤ Jvm.FP.Core.signed _ (0 * _)
    rw [Nat.zero_mul]
    cases s <;> decide
  · have hs : s = false := by
      cases s
      · rfl
      · have h3 : Jvm.FP.Core.zval Jvm.FP.Core.b64 (.fin true c q) < 0 := by
          show -((c * _ : Nat) : Int) < 0
          have : 0 < c * 2 ^ (q - Jvm.FP.Core.b64.qmin).toNat := Nat.mul_pos (by omega) (Nat.two_pow_pos _)
          omega
        omega
    subst hs
    unfold Jvm.FP.Core.zval
    rw [Jvm.FP.Core.sgn_roundRatio]
    show (0 : Int) ≤ ((_ : Nat) : Int)
    omega
/-- what a window wrote, a hundredfold, by the window -/
theorem pf_100 : Jvm.FP.Core.DInt 100 4636737291354636288 := by
  have h := Jvm.FP.Core.i2d_int (100 : Int32)
  rw [show Jvm.FP.Core.i2d (100 : Int32) = 4636737291354636288 by decide +kernel, show (100 : Int32).toInt = 100 by decide] at h
  exact h
theorem pf_w100 {n : Nat} (hn : n < 2 ^ 31) : pf_E (FP.dmul (FP.i2d (nI n)) 4636737291354636288) (100 * n) ∧ pf_m (FP.dmul (FP.i2d (nI n)) 4636737291354636288) 1066 := by
  have hi : (nI n).toInt = (n : Int) := nI_toInt hn
  have h1 := Jvm.FP.Core.i2d_int (nI n)
  rw [hi] at h1
  have h2 := Jvm.FP.Core.dmul_int h1 pf_100 (by omega)
  have m : pf_m (FP.dmul (FP.i2d (nI n)) 4636737291354636288) 1066 := pf_mono (pf_mul (Kb := 1030) (pf_i2d (nI n)) (by unfold pf_m; decide +kernel) (by omega) (by omega)) (by omega)
  have e : pf_z (FP.dmul (FP.i2d (nI n)) 4636737291354636288) = (n : Int) * 100 * pf_U := Jvm.FP.Core.DInt_zval h2
  have hU := pf_Upos
  refine ⟨⟨pf_fin m (by omega), ?_, ?_⟩, m⟩
  · rw [e]
    exact Int.mul_nonneg (by omega) (by omega)
  · rw [e, Int.natCast_mul, Int.mul_comm (n : Int)]
    exact Int.le_refl _
theorem pf_wt {n wi : Nat} (hn : n ≤ 10000) (h1 : 1 ≤ wi) (h2 : wi < 2 ^ 31) : ps_nn (FP.dmul (FP.i2d (nI n)) 4636737291354636288) = true ∧ ps_nn (FP.ddiv (FP.dmul (FP.i2d (nI n)) 4636737291354636288) (FP.i2d (nI wi))) = true ∧ pf_E (FP.ddiv (FP.dmul (FP.i2d (nI n)) 4636737291354636288) (FP.i2d (nI wi))) 16777216 := by
  obtain ⟨e, m⟩ := pf_w100 (n := n) (by omega)
  have m' : pf_m (FP.dmul (FP.i2d (nI n)) 4636737291354636288) 1044 := pf_mU e.1 (by omega) e.2.1 e.2.2 (by omega)
  have hw : nI wi ≠ 0 := fun h => by
    have := nI_toInt h2
    rw [h] at this
    have e0 : (0 : Int32).toInt = 0 := by decide
    omega
  have m2 := pf_div m' (pf_i2dge hw) (pf_mono (pf_i2d (nI wi)) (by omega)) (by omega) (by omega)
  have z : 0 ≤ pf_z (FP.ddiv (FP.dmul (FP.i2d (nI n)) 4636737291354636288) (FP.i2d (nI wi))) := by
    refine pf_div_pos e.1 (pf_fin (pf_i2d _) (by omega)) e.2.1 ?_
    rw [pf_zi, nI_toInt h2]
    exact Int.mul_pos (by omega) pf_Upos
  refine ⟨pf_nn m (by omega), pf_nn m2 (by omega), pf_fin m2 (by omega), z, ?_⟩
  have := pf_Um (K := 1047) (pf_mono m2 (by omega)) (by omega) (by omega) z
  refine Int.le_trans this (Int.mul_le_mul_of_nonneg_right (by decide) (Int.le_of_lt pf_Upos))
