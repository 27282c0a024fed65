/-! the tape -/
def pa_bt (v : Int32) : Nat := v.toBitVec.toNat % 256
theorem pa_bt_lt (v : Int32) : pa_bt v < 256 := Nat.mod_lt _ (by decide)
theorem pa_bt_e (v : Int32) : v &&& 255 = nI (pa_bt v) := by
  have hb := v.toBitVec.isLt
  apply Int32.toBitVec_inj.mp
  apply BitVec.eq_of_toNat_eq
  have h1 : (v &&& 255).toBitVec.toNat = v.toBitVec.toNat &&& 255 := by
    rw [Int32.toBitVec_and, BitVec.toNat_and]
    rfl
  rw [h1, show (nI (pa_bt v)).toBitVec.toNat = pa_bt v from pk_tn (by have := pa_bt_lt v; omega)]
  exact Nat.and_two_pow_sub_one_eq_mod _ 8
theorem pa_b8 : ∀ b : BitVec 8, (b.signExtend 32).signExtend 8 = b := by decide +kernel
theorem pa_b9 : ∀ b : BitVec 8, b.signExtend 32 = (pa_sb b.toNat).toBitVec := by decide +kernel
theorem pa_bt_s (v : Int32) : vp_nar .byte v.toInt8.toInt32 = pa_sb (pa_bt v) := by
  have e1 : vp_nar .byte v.toInt8.toInt32 = v.toInt8.toInt32.toInt8.toInt32 := rfl
  have e2 : v.toInt8.toInt32.toInt8.toInt32.toBitVec = ((((v.toBitVec.signExtend 8).signExtend 32).signExtend 8).signExtend 32) := rfl
  rw [e1]
  apply Int32.toBitVec_inj.mp
  rw [e2, pa_b8, pa_b9, BitVec.signExtend_eq_setWidth_of_le _ (by decide), BitVec.toNat_setWidth]
  rfl
def pa_fx (s : Nat) : Int32 := 24 - 8 * nI s
def pa_fsh (q : Nat) : Int32 := pa_fx (q % 4) &&& 31
theorem pa_shc : ∀ s, s < 4 → pa_fx s &&& 31 = pa_fsh s := by decide +kernel
theorem pa_shg : ∀ q, q < 20 → (24 - 8 * (nI q - nI q / 4 * 4)) &&& 31 = pa_fsh q := by decide +kernel
theorem pa_xx : ∀ s, s < 4 → ¬ pa_fx s < 0 ∧ pa_fx s + (-8) = pa_fx (s + 1) := by decide +kernel
/-- some bytes laid -/
def pc_la' (k m : Nat) (b : Nat → Nat) (σ τ : ps_S) : Prop := τ.1 0 1 = nI (k + m) ∧ (∀ j, j ≠ 1 → τ.1 0 j = σ.1 0 j) ∧ (∀ j, τ.1 1 j = if k ≤ j ∧ j < k + m then pa_sb (b (j - k)) else σ.1 1 j) ∧ (∀ c, c ≠ 0 → c ≠ 1 → τ.1 c = σ.1 c) ∧ τ.2 = σ.2
theorem pc_la'.put {k m v : Nat} {b : Nat → Nat} {σ τ : ps_S} (g : pc_la' k m b σ τ) (hv : b m = v) : pc_la' k (m + 1) b σ (ps_rI (ps_rI τ 1 (upd (τ.1 1) (k + m) (pa_sb v))) 0 (upd ((ps_rI τ 1 (upd (τ.1 1) (k + m) (pa_sb v))).1 0) 1 (nI (k + m) + 1))) := by
  obtain ⟨g1, g2, g3, g4, g5⟩ := g
  refine ⟨by rw [ps_rI_at, upd_self, nI_1]; rfl, fun j hj => ?_, fun j => ?_, fun c c0 c1 => ?_, g5⟩
  · rw [ps_rI_at, upd_ne _ _ hj, ps_rI_ne _ _ (by decide)]
    exact g2 j hj
  · rw [ps_rI_ne _ _ (by decide), ps_rI_at]
    by_cases e : j = k + m
    · subst e
      rw [upd_self, if_pos (by omega), Nat.add_sub_cancel_left, hv]
    · rw [upd_ne _ _ e, g3 j]
      by_cases e2 : k ≤ j ∧ j < k + m
      · rw [if_pos e2, if_pos (by omega)]
      · rw [if_neg e2, if_neg (by omega)]
  · rw [ps_rI_ne _ _ c0, ps_rI_ne _ _ c1]
    exact g4 c c0 c1
section FEED
variable {k : Nat} {b : Nat → Nat} {σ τ : ps_S} {p : Int32}
theorem pc_lay {m f : Nat} (hk : k + m + 4 ≤ 900) (hb : ∀ s, s < 4 → b (m + s) = pa_bt (p >>> pa_fsh s)) : ∀ (r s fuel : Nat) (τ : ps_S), s + r = 4 → r < fuel → pc_la' k (m + s) b σ τ → ps_ok (qX8_layOnTape_3 p fuel (pa_fx s) τ) (fun _ υ => pc_la' k (m + 4) b σ υ) := by
  intro r
  induction r with
  | zero =>
    intro s fuel τ e1 e2 g
    obtain ⟨fu, rfl⟩ : ∃ f, fuel = f + 1 := ⟨fuel - 1, by omega⟩
    have : s = 4 := by omega
    subst this
    rw [qX8_layOnTape_3]
    exact pz_t (by decide +kernel) (pz_done g)
  | succ r ih =>
    intro s fuel τ e1 e2 g
    obtain ⟨fu, rfl⟩ : ∃ f, fuel = f + 1 := ⟨fuel - 1, by omega⟩
    obtain ⟨x1, x2⟩ := pa_xx s (by omega)
    have h9 : ¬ (900 : Int32) ≤ nI (k + (m + s)) := nI_ge (a := k + (m + s)) (b := 900) (by omega) (by decide)
    rw [qX8_layOnTape_3]
    refine pz_e x1 ?_
    refine pz_l g.1 ?_
    refine pz_e h9 ?_
    refine pz_l g.1 ?_
    refine pz_wr (k := k + (m + s)) rfl (by omega) (by decide) (fun τ1 et => ?_)
    have hz : τ1.1 0 1 = nI (k + (m + s)) := by rw [et, ps_rI_ne _ _ (by decide)]; exact g.1
    refine pz_l hz ?_
    rw [pz_lt, pz_lt, x2]
    refine ih (s + 1) fu _ (by omega) (by omega) ?_
    have := g.put (hb s (by omega))
    rw [et, pa_bt_s, pa_shc s (by omega)]
    exact this
theorem pc_lay4 {m : Nat} (hk : k + m + 4 ≤ 900) (hb : ∀ s, s < 4 → b (m + s) = pa_bt (p >>> pa_fsh s)) (g : pc_la' k m b σ τ) : ps_ok (qX8_layOnTape p τ) (fun _ υ => pc_la' k (m + 4) b σ υ) := by
  unfold qX8_layOnTape
  have e : (24 : Int32) = pa_fx 0 := by decide +kernel
  rw [e]
  exact pz_bd (pc_lay (f := 0) hk hb 4 0 ps_N τ (by decide) (by unfold ps_N; decide) g) (fun _ υ hu => pz_done hu)
def pg_la (k m : Nat) (b : Nat → Nat) (σ τ : ps_S) : Prop := τ.1 327 6 = nI (k + m) ∧ (∀ j, j ≠ 6 → τ.1 327 j = σ.1 327 j) ∧ (∀ j, τ.1 331 j = if k ≤ j ∧ j < k + m then nI (b (j - k)) else σ.1 331 j) ∧ (∀ c, c ≠ 327 → c ≠ 331 → τ.1 c = σ.1 c) ∧ τ.2 = σ.2
theorem pg_la.put {m v : Nat} (g : pg_la k m b σ τ) (hv : b m = v) : pg_la k (m + 1) b σ (ps_rI (ps_rI τ 331 (upd (τ.1 331) (k + m) (nI v))) 327 (upd ((ps_rI τ 331 (upd (τ.1 331) (k + m) (nI v))).1 327) 6 (nI (k + m) + 1))) := by
  obtain ⟨g1, g2, g3, g4, g5⟩ := g
  refine ⟨by rw [ps_rI_at, upd_self, nI_1]; rfl, fun j hj => ?_, fun j => ?_, fun c c0 c1 => ?_, g5⟩
  · rw [ps_rI_at, upd_ne _ _ hj, ps_rI_ne _ _ (by decide)]
    exact g2 j hj
  · rw [ps_rI_ne _ _ (by decide), ps_rI_at]
    by_cases e : j = k + m
    · subst e
      rw [upd_self, if_pos (by omega), Nat.add_sub_cancel_left, hv]
    · rw [upd_ne _ _ e, g3 j]
      by_cases e2 : k ≤ j ∧ j < k + m
      · rw [if_pos e2, if_pos (by omega)]
      · rw [if_neg e2, if_neg (by omega)]
  · rw [ps_rI_ne _ _ c0, ps_rI_ne _ _ c1]
    exact g4 c c0 c1
def pa_fb (y1 y2 y3 y4 y5 : Int32) (q : Nat) : Nat := pa_bt ((if q < 4 then y1 else if q < 8 then y2 else if q < 12 then y3 else if q < 16 then y4 else y5) >>> pa_fsh q)
variable {y1 y2 y3 y4 y5 : Int32}
theorem pg_lay (hk : k + 20 ≤ 900) : ∀ (r s fuel : Nat) (τ : ps_S), s + r = 20 → r < fuel → pg_la k s (pa_fb y1 y2 y3 y4 y5) σ τ → ps_ok (qX9_feed_24 y1 y2 y3 y4 y5 fuel (nI s) τ) (fun _ υ => pg_la k 20 (pa_fb y1 y2 y3 y4 y5) σ υ) := by
  intro r
  induction r with
  | zero =>
    intro s fuel τ e1 e2 g
    obtain ⟨fu, rfl⟩ : ∃ f, fuel = f + 1 := ⟨fuel - 1, by omega⟩
    have : s = 20 := by omega
    subst this
    rw [qX9_feed_24]
    exact pz_t (by decide +kernel) (pz_done g)
  | succ r ih =>
    intro s fuel τ e1 e2 g
    obtain ⟨fu, rfl⟩ : ∃ f, fuel = f + 1 := ⟨fuel - 1, by omega⟩
    have lt : ∀ c, c < 2 ^ 31 → s < c → ¬ nI c ≤ nI s := fun c c1 c2 => nI_ge c2 c1
    have le : ∀ c, c ≤ s → nI c ≤ nI s := fun c c2 => nI_le c2 (by omega)
    have st : ∀ (y : Int32) (g' : ps_S → Option (Int32 × ps_S)), pa_fb y1 y2 y3 y4 y5 s = pa_bt (y >>> pa_fsh s) → ps_ok (ps_let (τ.1 327 6) fun v9 => if ps_in v9 900 = true then ps_let (ps_rI τ 331 (upd (τ.1 331) (v9).toNatClampNeg ((((y >>> (((24 - ((8 * ((nI s - nI s / 4 * 4)))))) &&& 31))) &&& 255)))) fun σ10 => ps_let (σ10.1 327 6) fun v11 => ps_let (ps_rI σ10 327 (upd (σ10.1 327) 6 ((v11 + 1)))) fun σ12 => ps_let (nI s + 1) fun v13 => qX9_feed_24 y1 y2 y3 y4 y5 fu v13 σ12 else none) (fun _ υ => pg_la k 20 (pa_fb y1 y2 y3 y4 y5) σ υ) := by
      intro y _ hy
      refine pz_l g.1 ?_
      refine pz_wr (k := k + s) rfl (by omega) (by decide) (fun τ1 et => ?_)
      have hz : τ1.1 327 6 = nI (k + s) := by rw [et, ps_rI_ne _ _ (by decide)]; exact g.1
      refine pz_l hz ?_
      rw [pz_lt, pz_lt, nI_1]
      refine ih (s + 1) fu _ (by omega) (by omega) ?_
      rw [et, pa_shg s (by omega), pa_bt_e]
      exact g.put hy
    rw [qX9_feed_24]
    refine pz_e (lt 20 (by decide) (by omega)) ?_
    by_cases c4 : s < 4
    · refine pz_e (lt 4 (by decide) c4) (st y1 (fun _ => none) ?_)
      unfold pa_fb
      rw [if_pos c4]
    refine pz_t (le 4 (by omega)) ?_
    by_cases c8 : s < 8
    · refine pz_e (lt 8 (by decide) c8) (st y2 (fun _ => none) ?_)
      unfold pa_fb
      rw [if_neg c4, if_pos c8]
    refine pz_t (le 8 (by omega)) ?_
    by_cases c12 : s < 12
    · refine pz_e (lt 12 (by decide) c12) (st y3 (fun _ => none) ?_)
      unfold pa_fb
      rw [if_neg c4, if_neg c8, if_pos c12]
    refine pz_t (le 12 (by omega)) ?_
    by_cases c16 : s < 16
    · refine pz_e (lt 16 (by decide) c16) (st y4 (fun _ => none) ?_)
      unfold pa_fb
      rw [if_neg c4, if_neg c8, if_neg c12, if_pos c16]
    refine pz_t (le 16 (by omega)) (st y5 (fun _ => none) ?_)
    unfold pa_fb
    rw [if_neg c4, if_neg c8, if_neg c12, if_neg c16]
theorem pw_feed {T : Nat} (w : pw_W T σ) : pw_call T (qX8_feed y1 y2 y3 y4 y5) (qX9_feed y1 y2 y3 y4 y5) σ := by
  obtain ⟨H, x, n, P, im, tr, tp, fl, hW, hc, hg⟩ := w
  have ht := hW.2.2.2.2.2
  by_cases c : tp.1 ≤ 880
  · have hW2 : pa_W T H x n P im tr (tp.1 + 20, fun j => if j < tp.1 then tp.2 j else pa_fb y1 y2 y3 y4 y5 (j - tp.1)) := by
      refine ⟨hW.1, hW.2.1, hW.2.2.1, hW.2.2.2.1, hW.2.2.2.2.1, show tp.1 + 20 ≤ 900 by omega, fun j hj => ?_⟩
      show (if j < tp.1 then tp.2 j else pa_fb y1 y2 y3 y4 y5 (j - tp.1)) < 256
      by_cases e : j < tp.1
      · rw [if_pos e]; exact ht.2 j e
      · rw [if_neg e]; exact pa_bt_lt _
    refine pw_change (a := nI (tp.1 + 20)) (fl' := fl) hW2 hg ?_ (fun τ hg => ?_)
    · obtain ⟨w1, w3, w4, w5, w6, w7⟩ := hc
      unfold qX8_feed
      refine pz_l w6.1 ?_
      refine pz_t (nI_le (b := 880) c (by decide)) ?_
      have g0 : pc_la' tp.1 0 (pa_fb y1 y2 y3 y4 y5) σ σ := ⟨w6.1, fun _ _ => rfl, fun j => by rw [if_neg (by omega)], fun _ _ _ => rfl, rfl⟩
      have sh : ∀ a s, s < 4 → pa_fsh (4 * a + s) = pa_fsh s := fun a s hs => by unfold pa_fsh; rw [show (4 * a + s) % 4 = s % 4 by omega]
      refine pz_bd (pc_lay4 (p := y1) (by omega) (fun s hs => ?_) g0) (fun _ σ1 g1 => ?_)
      · unfold pa_fb
        rw [if_pos (by omega), Nat.zero_add]
      refine pz_bd (pc_lay4 (p := y2) (by omega) (fun s hs => ?_) g1) (fun _ σ2 g2 => ?_)
      · unfold pa_fb
        rw [if_neg (by omega), if_pos (by omega)]
        exact congrArg (fun z => pa_bt (y2 >>> z)) (sh 1 s hs)
      refine pz_bd (pc_lay4 (p := y3) (by omega) (fun s hs => ?_) g2) (fun _ σ3 g3 => ?_)
      · unfold pa_fb
        rw [if_neg (by omega), if_neg (by omega), if_pos (by omega)]
        exact congrArg (fun z => pa_bt (y3 >>> z)) (sh 2 s hs)
      refine pz_bd (pc_lay4 (p := y4) (by omega) (fun s hs => ?_) g3) (fun _ σ4 g4 => ?_)
      · unfold pa_fb
        rw [if_neg (by omega), if_neg (by omega), if_neg (by omega), if_pos (by omega)]
        exact congrArg (fun z => pa_bt (y4 >>> z)) (sh 3 s hs)
      refine pz_bd (pc_lay4 (p := y5) (by omega) (fun s hs => ?_) g4) (fun _ σ5 g5 => ?_)
      · unfold pa_fb
        rw [if_neg (by omega), if_neg (by omega), if_neg (by omega), if_neg (by omega)]
        exact congrArg (fun z => pa_bt (y5 >>> z)) (sh 4 s hs)
      obtain ⟨k1, k2, k3, k4, k5⟩ := g5
      refine pz_l k1 ?_
      refine pz_done ⟨rfl, ⟨⟨w1.1.congr (fun o ho => k4 _ (by omega) (by omega)) (by rw [k5]), w1.2.1.congr (fun o ho => k4 _ (by omega) (by omega)), w1.2.2.congr (k4 23 (by decide) (by decide)) (k4 24 (by decide) (by decide))⟩, w3.congr (fun j hj => ⟨k4 j (by omega) (by omega), by rw [k5]⟩) (fun j hj => k2 j (by omega)), w4.congr (fun j hj => ⟨k4 j (by omega) (by omega), by rw [k5]⟩), w5.congr (fun j hj => ⟨k4 j (by omega) (by omega), by rw [k5]⟩), ⟨k1, fun j hj => ?_⟩, by rw [k4 11 (by decide) (by decide)]; exact w7⟩, fun j hj => ⟨k4 j (by omega) (by omega), by rw [k5], by rw [k5]⟩⟩
      have hj' : j < tp.1 + 20 := hj
      show σ5.1 1 j = pa_sb (if j < tp.1 then tp.2 j else pa_fb y1 y2 y3 y4 y5 (j - tp.1))
      rw [k3 j]
      by_cases e : j < tp.1
      · rw [if_neg (by omega), if_pos e]; exact w6.2 j e
      · rw [if_pos (by omega), if_neg e]
    · unfold qX9_feed
      refine pg_th hg (fun τ1 hg1 k1 => ?_)
      obtain ⟨w1, w3, w4, w5, w6, w7⟩ := hg1
      refine pz_l w6.1 ?_
      refine pz_t ?_ ?_
      · rw [show (20 : Int32) = nI 20 from rfl, nI_add]
        exact nI_le (b := 900) (by omega) (by decide)
      have g0 : pg_la tp.1 0 (pa_fb y1 y2 y3 y4 y5) τ1 τ1 := ⟨w6.1, fun _ _ => rfl, fun j => by rw [if_neg (by omega)], fun _ _ _ => rfl, rfl⟩
      refine pz_bd (pg_lay (by omega) 20 0 ps_N τ1 (by decide) (by unfold ps_N; decide) g0) (fun _ υ gu => ?_)
      obtain ⟨u1, u2, u3, u4, u5⟩ := gu
      refine pz_l u1 ?_
      refine pz_done ⟨rfl, ⟨pg_Wx (u4 328 (by decide) (by decide)) (by rw [u5]) w1, ?_, ?_, w5.congr (u4 342 (by decide) (by decide)) (u4 343 (by decide) (by decide)) (by rw [u5]), ⟨u1, fun j hj => ?_⟩, by rw [u2 14 (by decide), u2 15 (by decide)]; exact w7⟩, fun j hj => ?_⟩
      · exact w3.congr hW.1.1.1.2 hW.2.2.1.1 (fun k _ => by rw [u4 328 (by decide) (by decide)]) (fun k _ => by rw [u5])
      · exact w4.congr (fun i hi y hy => (hW.2.2.2.1 i hi y hy).1.1.1.2) (u4 330 (by decide) (by decide)) (fun k _ => by rw [u4 328 (by decide) (by decide)]) (fun k _ => by rw [u5])
      · have hj' : j < tp.1 + 20 := hj
        show υ.1 331 j = nI (if j < tp.1 then tp.2 j else pa_fb y1 y2 y3 y4 y5 (j - tp.1))
        rw [u3 j]
        by_cases e : j < tp.1
        · rw [if_neg (by omega), if_pos e]; exact w6.2 j e
        · rw [if_pos (by omega), if_neg e]
      · have := k1.1 j hj
        exact ⟨(u4 j (by omega) (by omega)).trans this.1, by rw [u5]; exact this.2.1, by rw [u5]; exact this.2.2⟩
  · refine pw_query (a := -5) hW hc hg ?_ (fun τ hg => ?_)
    · unfold qX8_feed
      refine pz_l hc.2.2.2.2.1.1 ?_
      exact pz_e (nI_ge (a := 880) (b := tp.1) (by omega) (by omega)) (pz_done ⟨rfl, pc_kp.rf _, hc.1.2.2⟩)
    · unfold qX9_feed
      refine pg_th hg (fun τ1 hg1 k1 => ?_)
      refine pz_l hg1.2.2.2.2.1.1 ?_
      refine pz_e ?_ (pz_done ⟨rfl, k1⟩)
      rw [show (20 : Int32) = nI 20 from rfl, nI_add]
      exact nI_ge (a := 900) (b := tp.1 + 20) (by omega) (by omega)
end FEED
