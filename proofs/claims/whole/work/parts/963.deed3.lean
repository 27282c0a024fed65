def qt_dd2 (p2 : Int64) (B1 : Nat) (σ : ps_S) : Option (Int32 × ps_S) :=
  if ((lg_cmp p2 20000)) < 0 then
  some (0, σ)
  else
  if 0 < ((lg_cmp p2 20599)) then
  some (0, σ)
  else
  ps_let (((((p2).toInt32)) - 20000)) fun v5 =>
  ps_bd (qX8_canTellWants ((v5 / 100)) ((v5 - v5 / 100 * 100)) σ) (fun v6 σ7 =>
  if v6 = 0 then
  some (0, σ7)
  else
  if ps_in ((v5 / 100)) 6 = true then
  ps_let (ps_rI σ7 (B1 + 13) (upd (σ7.1 (B1 + 13)) ((v5 / 100)).toNatClampNeg ((v5 - v5 / 100 * 100)))) fun σ9 =>
  some (1, σ9)
  else none)
def qt_dd1 (p2 : Int64) (B1 : Nat) (σ : ps_S) : Option (Int32 × ps_S) :=
  if ((lg_cmp p2 10000)) < 0 then
  qt_dd2 p2 B1 σ
  else
  if 0 < ((lg_cmp p2 13999)) then
  qt_dd2 p2 B1 σ
  else
  ps_let (((((p2).toInt32)) - 10000)) fun v20 =>
  ps_bd (qX8_canTellSpeed ((v20 / 1000)) ((v20 - v20 / 1000 * 1000)) σ) (fun v21 σ22 =>
  if v21 = 0 then
  some (0, σ22)
  else
  if ps_in ((v20 / 1000)) 4 = true then
  ps_let (ps_rI σ22 (B1 + 2) (upd (σ22.1 (B1 + 2)) ((v20 / 1000)).toNatClampNeg ((v20 - v20 / 1000 * 1000)))) fun σ24 =>
  some (1, σ24)
  else none)
theorem qf_dd (B1 : Nat) (p2 : Int64) (σ : ps_S) : qX8_doDeed B1 p2 σ =
  if ((lg_cmp p2 1)) < 0 then
  qt_dd1 p2 B1 σ
  else
  if 0 < ((lg_cmp p2 99)) then
  qt_dd1 p2 B1 σ
  else
  ps_bd (qX0_run B1 (((p2).toInt32)) σ) (fun _ σ52 =>
  some (1, σ52)) := rfl
/-! told deeds -/
def pa_deed (H : pa_H) (v : Int64) (x : pa_X) : Option pa_X :=
  if 1 ≤ v.toInt ∧ v.toInt ≤ 99 then some (pa_tks H (pa_p0 H.1) v.toInt.toNat x)
  else if 10000 ≤ v.toInt ∧ v.toInt ≤ 13999 then (if (v.toInt - 10000).toNat / 1000 < H.2.1 then some (upd x.1 (25 + (v.toInt - 10000).toNat / 1000) (nI ((v.toInt - 10000).toNat % 1000)), x.2) else none)
  else if 20000 ≤ v.toInt ∧ v.toInt ≤ 20599 then (if (v.toInt - 20000).toNat / 100 < H.2.2.2 then some (upd x.1 (53 + (v.toInt - 20000).toNat / 100) (nI ((v.toInt - 20000).toNat % 100)), x.2) else none)
  else none
theorem lN_of {v : Int64} {a b : Nat} (h1 : (a : Int) ≤ v.toInt) (h2 : v.toInt ≤ (b : Int)) : ∃ m, a + m ≤ b ∧ v = lN (a + m) := by
  have hb := Int64.toInt_lt v
  refine ⟨v.toInt.toNat - a, by omega, ?_⟩
  apply Int64.toInt_inj.mp
  rw [lN_toInt' (by omega)]
  omega
theorem i64_lit {v : Int64} (m : Nat) (hm : m < 2 ^ 31) : v < lN m ↔ v.toInt < (m : Int) := by rw [Int64.lt_iff_toInt_lt, lN_toInt' (by omega)]
theorem i64_lit2 {v : Int64} (m : Nat) (hm : m < 2 ^ 31) : lN m < v ↔ (m : Int) < v.toInt := by rw [Int64.lt_iff_toInt_lt, lN_toInt' (by omega)]
section DEED3
variable {H : pa_H} {x : pa_X} {n : Nat} {P : Nat → pa_X} {im : pa_Im} {tr : pa_Tr} {tp : pa_Tp} {fl : Int32 × Int32} {σ0 σ τ : ps_S} {y : pa_X} {t T : Nat} {v : Int64}
theorem pa_deedA {m : Nat} (h1 : 1 ≤ m) (h2 : m ≤ 99) : pa_deed H (lN m) x = some (pa_tks H (pa_p0 H.1) m x) := by
  have e : (lN m).toInt = (m : Int) := lN_toInt' (by omega)
  unfold pa_deed
  rw [e, if_pos (by omega), Int.toNat_natCast]
theorem pa_deedB {m : Nat} (h2 : m ≤ 3999) : pa_deed H (lN (10000 + m)) x = if m / 1000 < H.2.1 then some (upd x.1 (25 + m / 1000) (nI (m % 1000)), x.2) else none := by
  have e : (lN (10000 + m)).toInt = ((10000 + m : Nat) : Int) := lN_toInt' (by omega)
  unfold pa_deed
  rw [e, if_neg (by omega), if_pos (by omega), show (((10000 + m : Nat) : Int) - 10000).toNat = m by omega]
theorem pa_deedC {m : Nat} (h2 : m ≤ 599) : pa_deed H (lN (20000 + m)) x = if m / 100 < H.2.2.2 then some (upd x.1 (53 + m / 100) (nI (m % 100)), x.2) else none := by
  have e : (lN (20000 + m)).toInt = ((20000 + m : Nat) : Int) := lN_toInt' (by omega)
  unfold pa_deed
  rw [e, if_neg (by omega), if_neg (by omega), if_pos (by omega), show (((20000 + m : Nat) : Int) - 20000).toNat = m by omega]
theorem pa_deedN (h1 : ¬ (1 ≤ v.toInt ∧ v.toInt ≤ 99)) (h2 : ¬ (10000 ≤ v.toInt ∧ v.toInt ≤ 13999)) (h3 : ¬ (20000 ≤ v.toInt ∧ v.toInt ≤ 20599)) : pa_deed H v x = none := by
  unfold pa_deed
  rw [if_neg h1, if_neg h2, if_neg h3]
theorem pa_deedV {x' : pa_X} (hI : pa_WH H) (iv : pa_V H t x) (ht : t + 99 ≤ 3000000) (h : pa_deed H v x = some x') : ∃ t', t' ≤ t + 99 ∧ pa_V H t' x' := by
  obtain ⟨hp, -⟩ := pa_p0I hI
  by_cases c1 : 1 ≤ v.toInt ∧ v.toInt ≤ 99
  · obtain ⟨m, m1, rfl⟩ := lN_of (a := 1) (b := 99) c1.1 c1.2
    rw [pa_deedA (by omega) (by omega)] at h
    cases h
    exact ⟨t + (1 + m), by omega, pa_V.tks iv hI hp (by omega)⟩
  · by_cases c2 : 10000 ≤ v.toInt ∧ v.toInt ≤ 13999
    · obtain ⟨m, m1, rfl⟩ := lN_of (a := 10000) (b := 13999) c2.1 c2.2
      rw [pa_deedB (by omega)] at h
      by_cases q : m / 1000 < H.2.1
      · rw [if_pos q] at h
        cases h
        exact ⟨t, by omega, pa_xsV hI iv q (by omega)⟩
      · rw [if_neg q] at h
        cases h
    · by_cases c3 : 20000 ≤ v.toInt ∧ v.toInt ≤ 20599
      · obtain ⟨m, m1, rfl⟩ := lN_of (a := 20000) (b := 20599) c3.1 c3.2
        rw [pa_deedC (by omega)] at h
        by_cases q : m / 100 < H.2.2.2
        · rw [if_pos q] at h
          cases h
          exact ⟨t, by omega, pa_xwV hI iv q (by omega)⟩
        · rw [if_neg q] at h
          cases h
      · rw [pa_deedN c1 c2 c3] at h
        cases h
/-- the class -/
def pc_dq (H : pa_H) (B : Nat) (v : Int64) (x : pa_X) (τ : ps_S) (r : Int32) (υ : ps_S) : Prop := (∃ x', pa_deed H v x = some x' ∧ r = 1 ∧ pc_G H.1 H.2.1 H.2.2.1 H.2.2.2 B (pa_p0 H.1) υ x' ∧ pc_fr B τ υ) ∨ (pa_deed H v x = none ∧ r = 0 ∧ υ = τ)
theorem pc_G.to {B : Nat} {x' : pa_X} {p : pa_P} {τ υ : ps_S} (hB : 26 ≤ B) (g : pc_G H.1 H.2.1 H.2.2.1 H.2.2.2 B p τ x) (hS : pc_S H.1 H.2.1 H.2.2.1 H.2.2.2 B υ x'.1 x'.2 p) (fb : pc_fb B τ υ) : pc_G H.1 H.2.1 H.2.2.1 H.2.2.2 B p υ x' := ⟨hS, fb.H hB g.2.1, fb.L hB g.2.2.1, fb.O hB g.2.2.2⟩
theorem pc_dd2 {B m : Nat} (hB : 26 ≤ B) (hI : pa_WH H) (hm : m ≤ 599) (g : pc_G H.1 H.2.1 H.2.2.1 H.2.2.2 B (pa_p0 H.1) τ x) : ps_ok (ps_let (((lN (20000 + m)).toInt32) - 20000) fun v5 => ps_bd (qX8_canTellWants ((v5 / 100)) ((v5 - v5 / 100 * 100)) τ) (fun v6 σ7 => if v6 = 0 then some (0, σ7) else if ps_in ((v5 / 100)) 6 = true then ps_let (ps_rI σ7 (B + 13) (upd (σ7.1 (B + 13)) ((v5 / 100)).toNatClampNeg ((v5 - v5 / 100 * 100)))) fun σ9 => some (1, σ9) else none)) (pc_dq H B (lN (20000 + m)) x τ) := by
  have hW := hI.1.2.2.1.2
  have e1 : (lN (20000 + m)).toInt32 - 20000 = nI m := by
    rw [lN_i]
    show nI (20000 + m) - nI 20000 = _
    rw [nI_sub (by omega), Nat.add_sub_cancel_left]
  have e2 : nI m / 100 = nI (m / 100) := nI_div (a := m) (b := 100) (by omega) (by omega)
  have e3 : nI m - nI m / 100 * 100 = nI (m % 100) := nI_rem (a := m) (b := 100) (by omega) (by omega) (by omega)
  rw [pz_lt, e1, e3, e2]
  have ml := Nat.mod_lt m (show 0 < 100 by decide)
  unfold pc_dq
  rw [pa_deedC hm]
  by_cases q : m / 100 < H.2.2.2
  · rw [if_pos q]
    have c : ¬ (nI (m / 100) < 0 ∨ nI H.2.2.2 ≤ nI (m / 100)) := fun hh => hh.elim (nI_pos (by omega)) (nI_ge q (by omega))
    have ct : ps_ok (qX8_canTellWants (nI (m / 100)) (nI (m % 100)) τ) (fun v υ => v = 1 ∧ υ = τ) := by
      unfold qX8_canTellWants
      refine pz_bd' (pc_wri1 hI g.2.1 c) ?_
      refine pz_e (by decide) ?_
      refine pz_bd' (pc_i1 (nI_pos (by omega)) (nI_nlt (a := 99) (by omega) (by omega))) ?_
      exact pz_e (by decide) (pz_done ⟨rfl, rfl⟩)
    refine pz_bd ct (fun v υ ev => ?_)
    obtain ⟨rfl, rfl⟩ := ev
    refine pz_e (by decide) ?_
    refine pc_w13 (pc_T.of g.1.Q) hW q rfl (fun ω gw => ?_)
    exact pz_done (Or.inl ⟨_, rfl, rfl, g.to hB (gw.1.S (pa_all_congr (fun k hk => (upd_ne _ _ (by omega)).symm)) (fun d hd => pa_don_congr hI.1.2.1.2 (fun k hk => (upd_ne _ _ (by omega)).symm))) gw.2, gw.2.fr⟩)
  · rw [if_neg q]
    have ct : ps_ok (qX8_canTellWants (nI (m / 100)) (nI (m % 100)) τ) (fun v υ => v = 0 ∧ υ = τ) := by
      unfold qX8_canTellWants
      refine pz_bd' (pc_wri0 hI g.2.1 (Or.inr (nI_le (by omega) (by omega)))) ?_
      exact pz_t rfl (pz_done ⟨rfl, rfl⟩)
    refine pz_bd ct (fun v υ ev => ?_)
    obtain ⟨rfl, rfl⟩ := ev
    exact pz_t rfl (pz_done (Or.inr ⟨rfl, rfl, rfl⟩))
theorem pc_dd3 {B m : Nat} (hB : 26 ≤ B) (hI : pa_WH H) (hm : m ≤ 3999) (g : pc_G H.1 H.2.1 H.2.2.1 H.2.2.2 B (pa_p0 H.1) τ x) : ps_ok (ps_let (((lN (10000 + m)).toInt32) - 10000) fun v20 => ps_bd (qX8_canTellSpeed ((v20 / 1000)) ((v20 - v20 / 1000 * 1000)) τ) (fun v21 σ22 => if v21 = 0 then some (0, σ22) else if ps_in ((v20 / 1000)) 4 = true then ps_let (ps_rI σ22 (B + 2) (upd (σ22.1 (B + 2)) ((v20 / 1000)).toNatClampNeg ((v20 - v20 / 1000 * 1000)))) fun σ24 => some (1, σ24) else none)) (pc_dq H B (lN (10000 + m)) x τ) := by
  have hD := hI.1.1.2
  have e1 : (lN (10000 + m)).toInt32 - 10000 = nI m := by
    rw [lN_i]
    show nI (10000 + m) - nI 10000 = _
    rw [nI_sub (by omega), Nat.add_sub_cancel_left]
  have e2 : nI m / 1000 = nI (m / 1000) := nI_div (a := m) (b := 1000) (by omega) (by omega)
  have e3 : nI m - nI m / 1000 * 1000 = nI (m % 1000) := nI_rem (a := m) (b := 1000) (by omega) (by omega) (by omega)
  rw [pz_lt, e1, e3, e2]
  have ml := Nat.mod_lt m (show 0 < 1000 by decide)
  unfold pc_dq
  rw [pa_deedB hm]
  by_cases q : m / 1000 < H.2.1
  · rw [if_pos q]
    have c : ¬ (nI (m / 1000) < 0 ∨ nI H.2.1 ≤ nI (m / 1000)) := fun hh => hh.elim (nI_pos (by omega)) (nI_ge q (by omega))
    have ct : ps_ok (qX8_canTellSpeed (nI (m / 1000)) (nI (m % 1000)) τ) (fun v υ => v = 1 ∧ υ = τ) := by
      unfold qX8_canTellSpeed
      refine pz_bd' (pc_dev1 hI g.2.1 c) ?_
      refine pz_e (by decide) ?_
      refine pz_bd' (pc_i1 (nI_pos (by omega)) (nI_nlt (a := 999) (by omega) (by omega))) ?_
      exact pz_e (by decide) (pz_done ⟨rfl, rfl⟩)
    refine pz_bd ct (fun v υ ev => ?_)
    obtain ⟨rfl, rfl⟩ := ev
    refine pz_e (by decide) ?_
    refine pc_w2 (pc_T.of g.1.Q) hD q rfl (fun ω gw => ?_)
    exact pz_done (Or.inl ⟨_, rfl, rfl, g.to hB (gw.1.S (pa_all_congr (fun k hk => (upd_ne _ _ (by omega)).symm)) (fun d hd => pa_don_congr hI.1.2.1.2 (fun k hk => (upd_ne _ _ (by omega)).symm))) gw.2, gw.2.fr⟩)
  · rw [if_neg q]
    have ct : ps_ok (qX8_canTellSpeed (nI (m / 1000)) (nI (m % 1000)) τ) (fun v υ => v = 0 ∧ υ = τ) := by
      unfold qX8_canTellSpeed
      refine pz_bd' (pc_dev0 hI g.2.1 (Or.inr (nI_le (by omega) (by omega)))) ?_
      exact pz_t rfl (pz_done ⟨rfl, rfl⟩)
    refine pz_bd ct (fun v υ ev => ?_)
    obtain ⟨rfl, rfl⟩ := ev
    exact pz_t rfl (pz_done (Or.inr ⟨rfl, rfl, rfl⟩))
theorem lc_lt {m : Nat} (hm : m < 2 ^ 31) : lg_cmp v (lN m) < 0 ↔ v.toInt < (m : Int) := by rw [lg_cmp_lt, i64_lit m hm]
theorem lc_gt {m : Nat} (hm : m < 2 ^ 31) : 0 < lg_cmp v (lN m) ↔ (m : Int) < v.toInt := by rw [lg_cmp_gt, i64_lit2 m hm]
theorem pc_ddC {B : Nat} (hB : 26 ≤ B) (hI : pa_WH H) (h1 : ¬ (1 ≤ v.toInt ∧ v.toInt ≤ 99)) (h2 : ¬ (10000 ≤ v.toInt ∧ v.toInt ≤ 13999)) (g : pc_G H.1 H.2.1 H.2.2.1 H.2.2.2 B (pa_p0 H.1) τ x) : ps_ok (qt_dd2 v B τ) (pc_dq H B v x τ) := by
  unfold qt_dd2
  by_cases c1 : v.toInt < ((20000 : Nat) : Int)
  · exact pz_t ((lc_lt (m := 20000) (by decide)).mpr c1) (pz_done (Or.inr ⟨pa_deedN h1 h2 (by omega), rfl, rfl⟩))
  · refine pz_e (fun hh => c1 ((lc_lt (m := 20000) (by decide)).mp hh)) ?_
    by_cases c2 : ((20599 : Nat) : Int) < v.toInt
    · exact pz_t ((lc_gt (m := 20599) (by decide)).mpr c2) (pz_done (Or.inr ⟨pa_deedN h1 h2 (by omega), rfl, rfl⟩))
    · refine pz_e (fun hh => c2 ((lc_gt (m := 20599) (by decide)).mp hh)) ?_
      obtain ⟨m, m1, rfl⟩ := lN_of (v := v) (a := 20000) (b := 20599) (by omega) (by omega)
      exact pc_dd2 hB hI (by omega) g
theorem pc_ddB {B : Nat} (hB : 26 ≤ B) (hI : pa_WH H) (h1 : ¬ (1 ≤ v.toInt ∧ v.toInt ≤ 99)) (g : pc_G H.1 H.2.1 H.2.2.1 H.2.2.2 B (pa_p0 H.1) τ x) : ps_ok (qt_dd1 v B τ) (pc_dq H B v x τ) := by
  unfold qt_dd1
  by_cases c1 : v.toInt < ((10000 : Nat) : Int)
  · exact pz_t ((lc_lt (m := 10000) (by decide)).mpr c1) (pc_ddC hB hI h1 (by omega) g)
  · refine pz_e (fun hh => c1 ((lc_lt (m := 10000) (by decide)).mp hh)) ?_
    by_cases c2 : ((13999 : Nat) : Int) < v.toInt
    · exact pz_t ((lc_gt (m := 13999) (by decide)).mpr c2) (pc_ddC hB hI h1 (by omega) g)
    · refine pz_e (fun hh => c2 ((lc_gt (m := 13999) (by decide)).mp hh)) ?_
      obtain ⟨m, m1, rfl⟩ := lN_of (v := v) (a := 10000) (b := 13999) (by omega) (by omega)
      exact pc_dd3 hB hI (by omega) g
theorem pc_deed {B : Nat} (hB : 26 ≤ B) (hI : pa_WH H) (iv : pa_V H t x) (ht : t + 99 ≤ 3000000) (g : pc_G H.1 H.2.1 H.2.2.1 H.2.2.2 B (pa_p0 H.1) τ x) : ps_ok (qX8_doDeed B v τ) (pc_dq H B v x τ) := by
  obtain ⟨hp, -⟩ := pa_p0I hI
  rw [qf_dd]
  by_cases c1 : v.toInt < ((1 : Nat) : Int)
  · exact pz_t ((lc_lt (m := 1) (by decide)).mpr c1) (pc_ddB hB hI (by omega) g)
  · refine pz_e (fun hh => c1 ((lc_lt (m := 1) (by decide)).mp hh)) ?_
    by_cases c2 : ((99 : Nat) : Int) < v.toInt
    · exact pz_t ((lc_gt (m := 99) (by decide)).mpr c2) (pc_ddB hB hI (by omega) g)
    · refine pz_e (fun hh => c2 ((lc_gt (m := 99) (by decide)).mp hh)) ?_
      obtain ⟨m, m1, rfl⟩ := lN_of (v := v) (a := 1) (b := 99) (by omega) (by omega)
      rw [lN_i]
      refine pz_bd (pc_run hB hI.1 hI.2 hp (show 1 + m ≤ 999 by omega) iv (by omega) g) (fun _ υ hu => ?_)
      exact pz_done (Or.inl ⟨_, pa_deedA (by omega) (by omega), rfl, hu.1, hu.2⟩)
end DEED3
