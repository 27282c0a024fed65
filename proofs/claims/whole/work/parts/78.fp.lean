/-! doubles: never a NaN -/
def pf_m (a : UInt64) (K : Nat) : Prop := a.toNat % 2 ^ 63 < K * 2 ^ 52
theorem pf_nn {a : UInt64} {K : Nat} (h : pf_m a K) (hK : K ≤ 2047) : ps_nn a = true := by
  unfold ps_nn
  refine decide_eq_true ?_
  rw [UInt64.le_iff_toNat_le, UInt64.toNat_and]
  show a.toNat &&& 9223372036854775807 ≤ 9218868437227405312
  rw [show (9223372036854775807 : Nat) = 2 ^ 63 - 1 by decide, Nat.and_two_pow_sub_one_eq_mod]
  unfold pf_m at h
  omega
theorem pf_fin {a : UInt64} {K : Nat} (h : pf_m a K) (hK : K ≤ 2047) : Jvm.FP.Core.DFin a := Jvm.FP.Core.fin_of_lt h hK
theorem pf_i2d (x : Int32) : pf_m (FP.i2d x) 1055 := by
  have h := Jvm.FP.Core.fromInt_mag (i := x.toInt) (a := FP.i2d x) (j := 31) (K := 1054) (Jvm.FP.Core.toNat_of64 (Jvm.FP.Core.round_fits Jvm.FP.Core.good_b64 _)) (by
    have := Int32.le_toInt x
    have := Int32.toInt_lt x
    omega) (by decide) (by decide)
  unfold pf_m
  omega
theorem pf_i2dge {x : Int32} (h : x ≠ 0) : 1023 * 2 ^ 52 ≤ (FP.i2d x).toNat % 2 ^ 63 := by
  refine Jvm.FP.Core.fromInt_ge (i := x.toInt) (a := FP.i2d x) (Jvm.FP.Core.toNat_of64 (Jvm.FP.Core.round_fits Jvm.FP.Core.good_b64 _)) (fun e => h ?_)
  exact Int32.toInt_inj.mp e
theorem pf_mono {a : UInt64} {K L : Nat} (h : pf_m a K) (hL : K ≤ L) : pf_m a L := by
  unfold pf_m at h ⊢
  have := Nat.mul_le_mul_right (2 ^ 52) hL
  omega
theorem pf_mul {a b : UInt64} {Ka Kb : Nat} (ha : pf_m a Ka) (hb : pf_m b Kb) (h1 : Ka ≤ 2047) (h2 : Kb ≤ 2047) : pf_m (FP.dmul a b) (Ka + Kb - 1025 + 3) := Jvm.FP.Core.dmul_mag ha hb h1 h2
theorem pf_add {a b : UInt64} {K : Nat} (ha : pf_m a K) (hb : pf_m b K) (h1 : K ≤ 2047) : pf_m (FP.dadd a b) (K + 2) := Jvm.FP.Core.dadd_mag ha hb h1
theorem pf_sub {a b : UInt64} {K : Nat} (ha : pf_m a K) (hb : pf_m b K) (h1 : K ≤ 2047) : pf_m (FP.dsub a b) (K + 2) := Jvm.FP.Core.dsub_mag ha hb h1
theorem pf_div {a b : UInt64} {K L : Nat} (ha : pf_m a K) (hb : L * 2 ^ 52 ≤ b.toNat % 2 ^ 63) (hb2 : pf_m b 2047) (h1 : K ≤ 2047) (hL : 1 ≤ L) : pf_m (FP.ddiv a b) (K + (1074 - 52 - 1) - L + 3) := Jvm.FP.Core.ddiv_mag ha hb hb2 h1 hL
/-- values in the least units -/
def pf_z (a : UInt64) : Int := Jvm.FP.Core.zval Jvm.FP.Core.b64 (Jvm.FP.Core.val64 a)
theorem pf_sub_le {a b : UInt64} {V : Jvm.FP.Core.Datum} (ha : Jvm.FP.Core.DFin a) (hb : Jvm.FP.Core.DFin b) (fV : Jvm.FP.Core.fits Jvm.FP.Core.b64 V) (hV : V ≠ .nan) (h : pf_z a - pf_z b ≤ Jvm.FP.Core.zval Jvm.FP.Core.b64 V) : pf_z (FP.dsub a b) ≤ Jvm.FP.Core.zval Jvm.FP.Core.b64 V := by
  unfold pf_z
  rw [Jvm.FP.Core.val64_dsub]
  refine Jvm.FP.Core.sum_le Jvm.FP.Core.good_b64 ha ?_ (Jvm.FP.Core.val64_fits a) (Jvm.FP.Core.negate_fits (Jvm.FP.Core.val64_fits b)) fV hV ?_
  · obtain ⟨s, c, q, e⟩ := hb; exact ⟨!s, c, q, by rw [e]; rfl⟩
  · rw [Jvm.FP.Core.zval_negate]; unfold pf_z at h; omega
theorem pf_sub_ge {a b : UInt64} {V : Jvm.FP.Core.Datum} (ha : Jvm.FP.Core.DFin a) (hb : Jvm.FP.Core.DFin b) (fV : Jvm.FP.Core.fits Jvm.FP.Core.b64 V) (hV : V ≠ .nan) (h : Jvm.FP.Core.zval Jvm.FP.Core.b64 V ≤ pf_z a - pf_z b) : Jvm.FP.Core.zval Jvm.FP.Core.b64 V ≤ pf_z (FP.dsub a b) := by
  unfold pf_z
  rw [Jvm.FP.Core.val64_dsub]
  refine Jvm.FP.Core.sum_ge Jvm.FP.Core.good_b64 ha ?_ (Jvm.FP.Core.val64_fits a) (Jvm.FP.Core.negate_fits (Jvm.FP.Core.val64_fits b)) fV hV ?_
  · obtain ⟨s, c, q, e⟩ := hb; exact ⟨!s, c, q, by rw [e]; rfl⟩
  · rw [Jvm.FP.Core.zval_negate]; unfold pf_z at h; omega
theorem pf_add_le {a b : UInt64} {V : Jvm.FP.Core.Datum} (ha : Jvm.FP.Core.DFin a) (hb : Jvm.FP.Core.DFin b) (fV : Jvm.FP.Core.fits Jvm.FP.Core.b64 V) (hV : V ≠ .nan) (h : pf_z a + pf_z b ≤ Jvm.FP.Core.zval Jvm.FP.Core.b64 V) : pf_z (FP.dadd a b) ≤ Jvm.FP.Core.zval Jvm.FP.Core.b64 V := by
  unfold pf_z
  rw [Jvm.FP.Core.val64_dadd]
  exact Jvm.FP.Core.sum_le Jvm.FP.Core.good_b64 ha hb (Jvm.FP.Core.val64_fits a) (Jvm.FP.Core.val64_fits b) fV hV h
theorem pf_add_ge {a b : UInt64} {V : Jvm.FP.Core.Datum} (ha : Jvm.FP.Core.DFin a) (hb : Jvm.FP.Core.DFin b) (fV : Jvm.FP.Core.fits Jvm.FP.Core.b64 V) (hV : V ≠ .nan) (h : Jvm.FP.Core.zval Jvm.FP.Core.b64 V ≤ pf_z a + pf_z b) : Jvm.FP.Core.zval Jvm.FP.Core.b64 V ≤ pf_z (FP.dadd a b) := by
  unfold pf_z
  rw [Jvm.FP.Core.val64_dadd]
  exact Jvm.FP.Core.sum_ge Jvm.FP.Core.good_b64 ha hb (Jvm.FP.Core.val64_fits a) (Jvm.FP.Core.val64_fits b) fV hV h
/-- whole numbers below 2^53, as data of the format -/
theorem pf_int {n : Nat} (h : n < 2 ^ 53) : ∃ V : Jvm.FP.Core.Datum, Jvm.FP.Core.fits Jvm.FP.Core.b64 V ∧ V ≠ .nan ∧ Jvm.FP.Core.zval Jvm.FP.Core.b64 V = (n : Int) * ((2 ^ 1074 : Nat) : Int) := by
  have hi : (Int64.ofNat n).toInt = (n : Int) := Int64.toInt_ofNat_of_lt (by omega)
  have hw := Jvm.FP.Core.l2d_whole (a := Int64.ofNat n) ⟨by rw [hi]; omega, by rw [hi]; omega⟩
  rw [hi] at hw
  refine ⟨Jvm.FP.Core.val64 (Jvm.FP.Core.l2d (Int64.ofNat n)), Jvm.FP.Core.val64_fits _, Jvm.FP.Core.Whole.ne_nan hw, ?_⟩
  have hf := Jvm.FP.Core.val64_fits (Jvm.FP.Core.l2d (Int64.ofNat n))
  generalize Jvm.FP.Core.val64 (Jvm.FP.Core.l2d (Int64.ofNat n)) = d at hw hf
  cases d with
  | nan => exact hw.elim
  | inf s => exact hw.elim
  | fin s c q =>
    have hw' : Jvm.FP.Core.signed s (c * 2 ^ q.toNat) = (n : Int) * ((2 ^ (-q).toNat : Nat) : Int) := hw
    have hq : (-1074 : Int) ≤ q := hf.2.1
    show Jvm.FP.Core.signed s (c * 2 ^ (q - (-1074)).toNat) = _
    have key : ∀ z : Int, Jvm.FP.Core.signed s (c * 2 ^ q.toNat) = z → Jvm.FP.Core.signed s (c * 2 ^ (q - (-1074)).toNat) * ((2 ^ (-q).toNat : Nat) : Int) = z * ((2 ^ 1074 : Nat) : Int) := by
      intro z hz
      rw [← hz]
      have hp : c * 2 ^ (q - (-1074)).toNat * 2 ^ (-q).toNat = c * 2 ^ q.toNat * 2 ^ 1074 := by
        rw [Nat.mul_assoc, Nat.mul_assoc, ← Nat.pow_add, ← Nat.pow_add]
        congr 2
        omega
      unfold Jvm.FP.Core.signed
      cases s
      · simp only [Bool.false_eq_true, if_false]
        rw [← Int.natCast_mul, ← Int.natCast_mul, hp]
      · simp only [if_true]
        rw [Int.neg_mul, Int.neg_mul, ← Int.natCast_mul, ← Int.natCast_mul, hp]
    have k1 := key _ hw'
    have hpos : (0 : Int) < ((2 ^ (-q).toNat : Nat) : Int) := Int.natCast_pos.mpr (Nat.two_pow_pos _)
    refine Int.eq_of_mul_eq_mul_right (Int.ne_of_gt hpos) ?_
    rw [k1, Int.mul_assoc, Int.mul_assoc, Int.mul_comm ((2 ^ 1074 : Nat) : Int)]
