def qt_es1 (p1 : Int32) (v1 : Int32) (σ4 : ps_S) : Option (Unit × ps_S) :=
  if ps_in p1 4 = true then
  ps_let (σ4.2.2 336 (p1).toNatClampNeg) fun v6 =>
  if ps_nn (FP.dmul ((FP.i2d (v1))) 4636737291354636288) = true then
  ps_let (FP.dmul ((FP.i2d (v1))) 4636737291354636288) fun v7 =>
  ps_let (σ4.1 328 14) fun v9 =>
  if ps_nn (FP.ddiv v7 ((FP.i2d (v9)))) = true then
  ps_let (FP.ddiv v7 ((FP.i2d (v9)))) fun v10 =>
  if ps_in p1 4 = true then
  ps_let (σ4.2.2 336 (p1).toNatClampNeg) fun v12 =>
  if ps_nn (FP.dsub v10 v12) = true then
  ps_let (FP.dsub v10 v12) fun v13 =>
  if ps_nn (FP.ddiv v13 4620693217682128896) = true then
  ps_let (FP.ddiv v13 4620693217682128896) fun v15 =>
  if ps_nn (FP.dadd v6 v15) = true then
  ps_let (FP.dadd v6 v15) fun v17 =>
  if ps_in p1 4 = true then
  ps_let (ps_rD σ4 336 (vf_upd (σ4.2.2 336) (p1).toNatClampNeg v17)) fun σ19 =>
  some ((), σ19)
  else none
  else none
  else none
  else none
  else none
  else none
  else none
  else none
theorem qf_es (p1 : Int32) (σ : ps_S) : qX9_estimates p1 σ =
  if ps_in ((49 + p1)) 83 = true then
  ps_let (σ.1 335 ((49 + p1)).toNatClampNeg) fun v1 =>
  if ps_in ((49 + p1)) 83 = true then
  ps_let (ps_rI σ 335 (upd (σ.1 335) ((49 + p1)).toNatClampNeg 0)) fun σ2 =>
  if ps_in ((37 + p1)) 83 = true then
  ps_let (σ2.1 335 ((37 + p1)).toNatClampNeg) fun v3 =>
  if ps_in ((37 + p1)) 83 = true then
  ps_let (ps_rI σ2 335 (upd (σ2.1 335) ((37 + p1)).toNatClampNeg ((((v3 / 2)) + v1)))) fun σ4 =>
  if 0 < v1 then
  qt_es1 p1 v1 σ4
  else
  if ps_in ((29 + p1)) 83 = true then
  ps_let (σ4.1 335 ((29 + p1)).toNatClampNeg) fun v23 =>
  if v23 ≤ 0 then
  some ((), σ4)
  else
  qt_es1 p1 v1 σ4
  else none
  else none
  else none
  else none
  else none := rfl
def qt_cw2 (x3 : Int32) (B1 : Nat) (n : Nat) (σ5 : ps_S) : Option (Int32 × ps_S) :=
  if ps_in x3 4 = true then
  ps_let (ps_rI σ5 (B1 + 9) (upd (σ5.1 (B1 + 9)) (x3).toNatClampNeg 0)) fun σ27 =>
  ps_let (x3 + 1) fun v28 =>
  qX0_closeWindow_7 B1 n v28 σ27
  else none
def qt_cw1 (x3 : Int32) (B1 : Nat) (v3 : Int32) (n : Nat) (σ5 : ps_S) : Option (Int32 × ps_S) :=
  if ps_in x3 4 = true then
  ps_let (σ5.2.2 (B1 + 6) (x3).toNatClampNeg) fun v7 =>
  if ps_nn (FP.dmul ((FP.i2d (v3))) 4636737291354636288) = true then
  ps_let (FP.dmul ((FP.i2d (v3))) 4636737291354636288) fun v8 =>
  ps_let (σ5.1 12 4) fun v10 =>
  if ps_nn (FP.ddiv v8 ((FP.i2d (v10)))) = true then
  ps_let (FP.ddiv v8 ((FP.i2d (v10)))) fun v11 =>
  if ps_nn (FP.dsub v11 v7) = true then
  ps_let (FP.dsub v11 v7) fun v13 =>
  if ps_nn (FP.ddiv v13 4620693217682128896) = true then
  ps_let (FP.ddiv v13 4620693217682128896) fun v15 =>
  if ps_nn (FP.dadd v7 v15) = true then
  ps_let (FP.dadd v7 v15) fun v17 =>
  if ps_in x3 4 = true then
  ps_let (ps_rD σ5 (B1 + 6) (vf_upd (σ5.2.2 (B1 + 6)) (x3).toNatClampNeg v17)) fun σ19 =>
  qt_cw2 x3 B1 n σ19
  else none
  else none
  else none
  else none
  else none
  else none
  else none
theorem qf_cw (B1 : Nat) (n : Nat) (x3 : Int32) (σ : ps_S) : qX0_closeWindow_7 B1 (n + 1) x3 σ =
  ps_let (σ.1 12 7) fun v1 =>
  if v1 ≤ x3 then
  some (x3, σ)
  else
  if ps_in x3 4 = true then
  ps_let (σ.1 (B1 + 9) (x3).toNatClampNeg) fun v3 =>
  if ps_in x3 4 = true then
  ps_let (σ.1 (B1 + 7) (x3).toNatClampNeg) fun v4 =>
  if ps_in x3 4 = true then
  ps_let (ps_rI σ (B1 + 7) (upd (σ.1 (B1 + 7)) (x3).toNatClampNeg ((((v4 / 2)) + v3)))) fun σ5 =>
  if 0 < v3 then
  qt_cw1 x3 B1 v3 n σ5
  else
  if ps_in x3 4 = true then
  ps_let (σ5.1 (B1 + 3) (x3).toNatClampNeg) fun v25 =>
  if v25 ≤ 0 then
  qt_cw2 x3 B1 n σ5
  else
  qt_cw1 x3 B1 v3 n σ5
  else none
  else none
  else none
  else none := rfl
/-! windows: what is counted, what is estimated -/
theorem vf_self (f : pa_D) (k : Nat) (v : UInt64) : vf_upd f k v k = v := by simp [vf_upd]
theorem vf_ne (f : pa_D) {k j : Nat} (v : UInt64) (h : j ≠ k) : vf_upd f k v j = f j := by simp [vf_upd, h]
def pa_es (h : pa_R) (w : Int32) (x : UInt64) : UInt64 := FP.dadd x (FP.ddiv (FP.dsub (FP.ddiv (FP.dmul (FP.i2d w) 4636737291354636288) (FP.i2d (h 14))) x) 4620693217682128896)
def pa_cwr (r : pa_R) (d : Nat) : pa_R := upd (upd r (49 + d) 0) (37 + d) (r (37 + d) / 2 + r (49 + d))
def pa_cwe (h r : pa_R) (e : pa_D) (d : Nat) : pa_D := if 0 < r (49 + d) then vf_upd e d (pa_es h (r (49 + d)) (e d)) else if r (29 + d) ≤ 0 then e else vf_upd e d (pa_es h (r (49 + d)) (e d))
def pa_cws (h : pa_R) : Nat → Nat → pa_R → pa_D → pa_R × pa_D
  | _, 0, r, e => (r, e)
  | d, m + 1, r, e => pa_cws h (d + 1) m (pa_cwr r d) (pa_cwe h r e d)
theorem pa_wi {h : pa_R} {D F W : Nat} (hI : pa_HI h D F W) : ∃ wi, h 14 = nI wi ∧ 1 ≤ wi ∧ wi ≤ 999 := by
  obtain ⟨_, _, _, _, _, li, bg, ag, pa, wi, ch, qu, _, _, _, _, hw, _⟩ := hI
  exact ⟨wi, hw⟩
theorem pa_esI {h : pa_R} {D F W n M : Nat} {x : UInt64} (hI : pa_HI h D F W) (hn : n ≤ 10000) (hE : pf_E x M) (hM : M + 16777216 < 2 ^ 53) :
    ps_nn (FP.dmul (FP.i2d (nI n)) 4636737291354636288) = true ∧ ps_nn (FP.ddiv (FP.dmul (FP.i2d (nI n)) 4636737291354636288) (FP.i2d (h 14))) = true ∧ ps_nn (FP.dsub (FP.ddiv (FP.dmul (FP.i2d (nI n)) 4636737291354636288) (FP.i2d (h 14))) x) = true ∧ ps_nn (FP.ddiv (FP.dsub (FP.ddiv (FP.dmul (FP.i2d (nI n)) 4636737291354636288) (FP.i2d (h 14))) x) 4620693217682128896) = true ∧ ps_nn (pa_es h (nI n) x) = true ∧ pf_E (pa_es h (nI n) x) (M + 16777216) := by
  obtain ⟨wi, hw, w1, w2⟩ := pa_wi hI
  obtain ⟨f1, f2, f3⟩ := pf_wt hn w1 (by omega)
  obtain ⟨f4, f5, f6, f7⟩ := pf_est hE hM f3
  unfold pa_es
  rw [hw]
  exact ⟨f1, f2, f4, f5, f6, f7⟩
theorem pg_es1 {h : pa_R} {D F W d n M : Nat} {σ0 σ : ps_S} {r : pa_R} {e : pa_D} {p : pa_P} (g : pg_T h D W σ0 σ r e p) (hI : pa_HI h D F W) (hd : d < D) (hn : n ≤ 10000) (hE : pf_E (e d) M) (hM : M + 16777216 < 2 ^ 53) : ps_ok (qt_es1 (nI d) (nI n) σ) (fun _ τ => pg_T h D W σ0 τ r (vf_upd e d (pa_es h (nI n) (e d))) p) := by
  have hD := hI.1.2
  obtain ⟨f1, f2, f4, f5, f6, _⟩ := pa_esI hI hn hE hM
  unfold qt_es1
  refine pg_le g hD hd rfl ?_
  refine pz_nnl f1 ?_
  refine pg_hl g 14 (by omega) ?_
  refine pz_nnl f2 ?_
  refine pg_le g hD hd rfl ?_
  refine pz_nnl f4 ?_
  refine pz_nnl f5 ?_
  refine pz_nnl f6 ?_
  refine pg_we g hD hd rfl (fun τ gt => ?_)
  exact pz_done gt
theorem pg_estimates {h : pa_R} {D F W d n M : Nat} {σ0 σ : ps_S} {r : pa_R} {e : pa_D} {p : pa_P} (g : pg_T h D W σ0 σ r e p) (hI : pa_HI h D F W) (hd : d < D) (hw : r (49 + d) = nI n) (hn : n ≤ 10000) (hE : pf_E (e d) M) (hM : M + 16777216 < 2 ^ 53) : ps_ok (qX9_estimates (nI d) σ) (fun _ τ => pg_T h D W σ0 τ (pa_cwr r d) (pa_cwe h r e d) p) := by
  have hD := hI.1.2
  have e1 : upd r (49 + d) 0 (37 + d) = r (37 + d) := upd_ne _ _ (by omega)
  have e2 : pa_cwr r d (29 + d) = r (29 + d) := by unfold pa_cwr; rw [upd_ne _ _ (by omega), upd_ne _ _ (by omega)]
  rw [qf_es]
  refine pg_l g (k := 49 + d) (by omega) (by omega) (by omega) (pz_a49 d) ?_
  refine pg_w g (k := 49 + d) (by omega) (by omega) (by omega) (pz_a49 d) (fun σ2 g2 => ?_)
  refine pg_l g2 (k := 37 + d) (by omega) (by omega) (by omega) (pz_a37 d) ?_
  rw [e1]
  refine pg_w g2 (k := 37 + d) (by omega) (by omega) (by omega) (pz_a37 d) (fun σ4 g4 => ?_)
  have g4' : pg_T h D W σ0 σ4 (pa_cwr r d) e p := g4
  refine pz_if (fun c1 => ?_) (fun c1 => ?_)
  · rw [hw]
    refine pz_im (pg_es1 g4' hI hd hn hE hM) (fun _ τ gt => ?_)
    unfold pa_cwe
    rw [if_pos c1, hw]
    exact gt
  · refine pg_l g4' (k := 29 + d) (by omega) (by omega) (by omega) (pz_a29 d) ?_
    rw [e2]
    refine pz_if (fun c2 => ?_) (fun c2 => ?_)
    · refine pz_done ?_
      unfold pa_cwe
      rw [if_neg c1, if_pos c2]
      exact g4'
    · rw [hw]
      refine pz_im (pg_es1 g4' hI hd hn hE hM) (fun _ τ gt => ?_)
      unfold pa_cwe
      rw [if_neg c1, if_neg c2, hw]
      exact gt
/-- what a window asks of the devices from one on -/
def pa_IWE (r : pa_R) (e : pa_D) (M d D : Nat) : Prop := ∀ j, d ≤ j → j < D → pf_E (e j) M ∧ ∃ n, n ≤ 10000 ∧ r (49 + j) = nI n
theorem pa_cwe_ne {h r : pa_R} {e : pa_D} {d j : Nat} (hj : j ≠ d) : pa_cwe h r e d j = e j := by
  unfold pa_cwe
  by_cases c1 : 0 < r (49 + d)
  · rw [if_pos c1, vf_ne _ _ hj]
  · rw [if_neg c1]
    by_cases c2 : r (29 + d) ≤ 0
    · rw [if_pos c2]
    · rw [if_neg c2, vf_ne _ _ hj]
theorem pa_cwr_ne {r : pa_R} {d k : Nat} (h1 : k ≠ 49 + d) (h2 : k ≠ 37 + d) : pa_cwr r d k = r k := by
  unfold pa_cwr
  rw [upd_ne _ _ h2, upd_ne _ _ h1]
theorem pa_IWE.nx {h r : pa_R} {e : pa_D} {M d D : Nat} (hD : D ≤ 4) (g : pa_IWE r e M d D) : pa_IWE (pa_cwr r d) (pa_cwe h r e d) M (d + 1) D := by
  intro j h1 h2
  rw [pa_cwe_ne (by omega), pa_cwr_ne (by omega) (by omega)]
  exact g j (by omega) h2
theorem pg_cwL {h : pa_R} {D F W M : Nat} {σ0 : ps_S} {p : pa_P} (hI : pa_HI h D F W) (hM : M + 16777216 < 2 ^ 53) : ∀ (m d fuel : Nat) (σ : ps_S) (r : pa_R) (e : pa_D), d + m = D → m < fuel → pa_IWE r e M d D → pg_T h D W σ0 σ r e p → ∀ t wi, h 14 = nI wi → 1 ≤ wi → wi ≤ 999 → r 0 = nI t → t < 2 ^ 31 → t % wi = 0 → ps_ok (qX9_ticksOnce_35 fuel (nI d) σ) (fun _ τ => pg_T h D W σ0 τ (pa_cws h d m r e).1 (pa_cws h d m r e).2 p) := by
  intro m
  have hD := hI.1.2
  have hDe := hI.1.1
  induction m with
  | zero =>
    intro d fuel σ r e h1 h2 hW g t wi hw w1 w2 hr ht hm
    obtain ⟨f, rfl⟩ : ∃ f, fuel = f + 1 := ⟨fuel - 1, by omega⟩
    rw [qX9_ticksOnce_35]
    refine pg_hl g 1 (by omega) ?_
    rw [hDe]
    exact pz_t (nI_le (by omega) (by omega)) (pz_done g)
  | succ m ih =>
    intro d fuel σ r e h1 h2 hW g t wi hw w1 w2 hr ht hm
    obtain ⟨f, rfl⟩ : ∃ f, fuel = f + 1 := ⟨fuel - 1, by omega⟩
    rw [qX9_ticksOnce_35]
    refine pg_hl g 1 (by omega) ?_
    rw [hDe]
    refine pz_e (nI_ge (by omega) (by omega)) ?_
    refine pg_lt g ?_
    refine pg_hl g 14 (by omega) ?_
    rw [hw, hr]
    refine pz_nz (nI_ne0 (by omega) (by omega)) ?_
    refine pz_t (by rw [nI_rem ht (by omega) (by omega), hm]; rfl) ?_
    obtain ⟨hE, n, hn, hl⟩ := hW d (Nat.le_refl _) (by omega)
    refine pz_bd (pg_estimates g hI (by omega) hl hn hE hM) (fun _ τ gt => ?_)
    rw [pz_lt, nI_1]
    exact ih (d + 1) f τ (pa_cwr r d) (pa_cwe h r e d) (by omega) (by omega) (hW.nx hD) gt t wi hw w1 w2 (by rw [pa_cwr_ne (by omega) (by omega)]; exact hr) ht hm
/-- the class -/
theorem pc_cw2 {D W B d n : Nat} {σ0 σ : ps_S} {r : pa_R} {e : pa_D} {a : Int32} {dd : pa_R} {p : pa_P} {P : Int32 → ps_S → Prop} (g : pc_T D W B σ0 σ r e a dd p) (hd : d < 4) (hk : ∀ τ, pc_T D W B σ0 τ (upd r (49 + d) 0) e a dd p → ps_ok (qX0_closeWindow_7 B n (nI (d + 1)) τ) P) : ps_ok (qt_cw2 (nI d) B n σ) P := by
  unfold qt_cw2
  refine pc_w9 g hd rfl (fun τ gt => ?_)
  rw [pz_lt, nI_1]
  exact hk τ gt
theorem pc_cw1 {h : pa_R} {D F W B d n k M : Nat} {σ0 σ : ps_S} {r : pa_R} {e : pa_D} {a : Int32} {dd : pa_R} {p : pa_P} {P : Int32 → ps_S → Prop} (hI : pa_HI h D F W) (hH : pc_H 12 h D F W σ) (g : pc_T D W B σ0 σ r e a dd p) (hd : d < D) (hk : k ≤ 10000) (hE : pf_E (e d) M) (hM : M + 16777216 < 2 ^ 53) (hc : ∀ τ, pc_T D W B σ0 τ (upd r (49 + d) 0) (vf_upd e d (pa_es h (nI k) (e d))) a dd p → ps_ok (qX0_closeWindow_7 B n (nI (d + 1)) τ) P) : ps_ok (qt_cw1 (nI d) B (nI k) n σ) P := by
  have hD := hI.1.2
  obtain ⟨f1, f2, f4, f5, f6, _⟩ := pa_esI hI hk hE hM
  unfold qt_cw1
  refine pc_le g hD hd rfl ?_
  refine pz_nnl f1 ?_
  refine pz_l hH.1.2.2.2.2.1 ?_
  refine pz_nnl f2 ?_
  refine pz_nnl f4 ?_
  refine pz_nnl f5 ?_
  refine pz_nnl f6 ?_
  refine pc_we g hD hd rfl (fun τ gt => ?_)
  exact pc_cw2 gt (by omega) hc
theorem pc_cwL {h : pa_R} {D F W B M : Nat} {σ0 : ps_S} {a : Int32} {dd : pa_R} {p : pa_P} (hB : 26 ≤ B) (hI : pa_HI h D F W) (hM : M + 16777216 < 2 ^ 53) (hH0 : pc_H 12 h D F W σ0) : ∀ (m d fuel : Nat) (σ : ps_S) (r : pa_R) (e : pa_D), d + m = D → m < fuel → pa_IWE r e M d D → pc_T D W B σ0 σ r e a dd p → ps_ok (qX0_closeWindow_7 B fuel (nI d) σ) (fun _ τ => pc_T D W B σ0 τ (pa_cws h d m r e).1 (pa_cws h d m r e).2 a dd p) := by
  intro m
  have hD := hI.1.2
  have hDe := hI.1.1
  induction m with
  | zero =>
    intro d fuel σ r e h1 h2 hW g
    obtain ⟨f, rfl⟩ : ∃ f, fuel = f + 1 := ⟨fuel - 1, by omega⟩
    have hH := g.2.H hB hH0
    rw [qX0_closeWindow_7]
    refine pz_l hH.1.2.2.2.2.2.2.2.1 ?_
    rw [hDe]
    exact pz_t (nI_le (by omega) (by omega)) (pz_done g)
  | succ m ih =>
    intro d fuel σ r e h1 h2 hW g
    obtain ⟨f, rfl⟩ : ∃ f, fuel = f + 1 := ⟨fuel - 1, by omega⟩
    have hH := g.2.H hB hH0
    obtain ⟨hE, n, hn, hl⟩ := hW d (Nat.le_refl _) (by omega)
    have hW' := hW.nx (h := h) hD
    have e2 : upd r (37 + d) (r (37 + d) / 2 + r (49 + d)) (29 + d) = r (29 + d) := upd_ne _ _ (by omega)
    have e3 : upd (upd r (37 + d) (r (37 + d) / 2 + r (49 + d))) (49 + d) 0 = pa_cwr r d := by
      unfold pa_cwr
      rw [upd_comm _ _ _ (by omega)]
    rw [qf_cw]
    refine pz_l hH.1.2.2.2.2.2.2.2.1 ?_
    rw [hDe]
    refine pz_e (nI_ge (by omega) (by omega)) ?_
    refine pc_l9 g (i := d) (by omega) rfl ?_
    refine pc_l7 g (i := d) (by omega) rfl ?_
    refine pc_w7 g (i := d) (by omega) rfl (fun σ5 g5 => ?_)
    have hH5 := g5.2.H hB hH0
    have nx : ∀ τ e', pa_cwe h r e d = e' → pc_T D W B σ0 τ (upd (upd r (37 + d) (r (37 + d) / 2 + r (49 + d))) (49 + d) 0) e' a dd p → ps_ok (qX0_closeWindow_7 B f (nI (d + 1)) τ) (fun _ τ => pc_T D W B σ0 τ (pa_cws h d (m + 1) r e).1 (pa_cws h d (m + 1) r e).2 a dd p) := by
      intro τ e' he gt
      rw [e3] at gt
      subst he
      exact ih (d + 1) f τ (pa_cwr r d) (pa_cwe h r e d) (by omega) (by omega) hW' gt
    refine pz_if (fun c1 => ?_) (fun c1 => ?_)
    · have he : pa_cwe h r e d = vf_upd e d (pa_es h (nI n) (e d)) := by unfold pa_cwe; rw [if_pos c1, hl]
      rw [hl]
      refine pc_cw1 hI hH5 g5 (by omega) hn hE hM (fun τ gt => nx τ _ he gt)
    · refine pc_l3 g5 (i := d) (by omega) rfl ?_
      rw [e2]
      refine pz_if (fun c2 => ?_) (fun c2 => ?_)
      · have he : pa_cwe h r e d = e := by unfold pa_cwe; rw [if_neg c1, if_pos c2]
        exact pc_cw2 g5 (by omega) (fun τ gt => nx τ _ he gt)
      · have he : pa_cwe h r e d = vf_upd e d (pa_es h (nI n) (e d)) := by unfold pa_cwe; rw [if_neg c1, if_neg c2, hl]
        rw [hl]
        refine pc_cw1 hI hH5 g5 (by omega) hn hE hM (fun τ gt => nx τ _ he gt)
theorem pc_cw {h : pa_R} {D F W B M : Nat} {σ0 σ : ps_S} {r : pa_R} {e : pa_D} {a : Int32} {dd : pa_R} {p : pa_P} (hB : 26 ≤ B) (hI : pa_HI h D F W) (hM : M + 16777216 < 2 ^ 53) (hH0 : pc_H 12 h D F W σ0) (hW : pa_IWE r e M 0 D) (g : pc_T D W B σ0 σ r e a dd p) : ps_ok (qX0_closeWindow B σ) (fun _ τ => pc_T D W B σ0 τ (pa_cws h 0 D r e).1 (pa_cws h 0 D r e).2 a dd p) := by
  unfold qX0_closeWindow
  have hD := hI.1.2
  refine pz_bd (pc_cwL hB hI hM hH0 D 0 ps_N σ r e (by omega) (by unfold ps_N; omega) hW g) (fun _ τ gt => ?_)
  exact pz_done gt
