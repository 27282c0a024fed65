def qt_wr3 (v13 : Int32) (v8 : Int32) (p1 : Int32) (σ40 : ps_S) : Option (Unit × ps_S) :=
  if ps_in ((1 + v13)) 83 = true then
  ps_let (σ40.1 335 ((1 + v13)).toNatClampNeg) fun v41 =>
  if ps_in ((1 + v13)) 83 = true then
  ps_let (ps_rI σ40 335 (upd (σ40.1 335) ((1 + v13)).toNatClampNeg ((v41 + v8)))) fun σ42 =>
  if ps_in ((71 + p1)) 83 = true then
  ps_let (σ42.1 335 ((71 + p1)).toNatClampNeg) fun v43 =>
  if ps_in ((71 + p1)) 83 = true then
  ps_let (ps_rI σ42 335 (upd (σ42.1 335) ((71 + p1)).toNatClampNeg ((v43 + v8)))) fun σ44 =>
  ps_bd (qX9_allNow σ44) (fun v45 σ46 =>
  ps_bd (qX9_freeNow σ46) (fun v47 σ48 =>
  if v47 < v45 then
  if ps_in ((65 + p1)) 83 = true then
  ps_let (σ48.1 335 ((65 + p1)).toNatClampNeg) fun v50 =>
  ps_bd (qX9_pauseOf p1 v8 σ48) (fun v51 σ52 =>
  if ps_in ((65 + p1)) 83 = true then
  ps_let (ps_rI σ52 335 (upd (σ52.1 335) ((65 + p1)).toNatClampNeg ((((((3 * v50)) + v51)) / 4)))) fun σ53 =>
  if ps_in ((65 + p1)) 83 = true then
  ps_let (σ53.1 335 ((65 + p1)).toNatClampNeg) fun v54 =>
  if ps_in ((59 + p1)) 83 = true then
  ps_let (ps_rI σ53 335 (upd (σ53.1 335) ((59 + p1)).toNatClampNeg v54)) fun σ55 =>
  some ((), σ55)
  else none
  else none
  else none)
  else none
  else
  some ((), σ48)))
  else none
  else none
  else none
  else none
def qt_wr2 (v8 : Int32) (p1 : Int32) (σ7 : ps_S) : Option (Unit × ps_S) :=
  if v8 = 0 then
  some ((), σ7)
  else
  if ps_in ((29 + p1)) 5550 = true then
  ps_let (σ7.1 328 ((29 + p1)).toNatClampNeg) fun v13 =>
  if ps_in ((1 + v13)) 83 = true then
  ps_let (σ7.1 335 ((1 + v13)).toNatClampNeg) fun v14 =>
  if v14 = 0 then
  ps_let (σ7.1 335 0) fun v39 =>
  if ps_in ((13 + v13)) 83 = true then
  ps_let (ps_rI σ7 335 (upd (σ7.1 335) ((13 + v13)).toNatClampNeg v39)) fun σ40 =>
  qt_wr3 v13 v8 p1 σ40
  else none
  else
  qt_wr3 v13 v8 p1 σ7
  else none
  else none
def qt_wr1 (p1 : Int32) (v8 : Int32) (σ7 : ps_S) : Option (Unit × ps_S) :=
  if ps_in ((77 + p1)) 83 = true then
  ps_let (σ7.1 335 ((77 + p1)).toNatClampNeg) fun v67 =>
  if ps_in ((77 + p1)) 83 = true then
  ps_let (ps_rI σ7 335 (upd (σ7.1 335) ((77 + p1)).toNatClampNeg ((v67 + 1)))) fun σ68 =>
  qt_wr2 v8 p1 σ68
  else none
  else none
theorem qf_wr (p1 : Int32) (σ : ps_S) : qX9_writes p1 σ =
  if ps_in ((59 + p1)) 83 = true then
  ps_let (σ.1 335 ((59 + p1)).toNatClampNeg) fun v1 =>
  if v1 ≤ 0 then
  ps_bd (qX9_wantsNow p1 σ) (fun v3 σ4 =>
  ps_let (σ4.1 327 21) fun v5 =>
  ps_bd (qX9_allNow σ4) (fun v6 σ7 =>
  ps_let ((v5 - v6)) fun v8 =>
  if 0 ≤ v8 then
  if v8 ≤ v3 then
  if v3 ≤ v8 then
  qt_wr2 v8 p1 σ7
  else
  qt_wr1 p1 v8 σ7
  else
  if v3 ≤ v3 then
  qt_wr2 v3 p1 σ7
  else
  qt_wr1 p1 v3 σ7
  else
  if v3 ≤ 0 then
  some ((), σ7)
  else
  if ps_in ((77 + p1)) 83 = true then
  ps_let (σ7.1 335 ((77 + p1)).toNatClampNeg) fun v243 =>
  if ps_in ((77 + p1)) 83 = true then
  ps_let (ps_rI σ7 335 (upd (σ7.1 335) ((77 + p1)).toNatClampNeg ((v243 + 1)))) fun σ244 =>
  some ((), σ244)
  else none
  else none))
  else
  if ps_in ((59 + p1)) 83 = true then
  ps_let (σ.1 335 ((59 + p1)).toNatClampNeg) fun v248 =>
  if ps_in ((59 + p1)) 83 = true then
  ps_let (ps_rI σ 335 (upd (σ.1 335) ((59 + p1)).toNatClampNeg ((v248 - 1)))) fun σ249 =>
  some ((), σ249)
  else none
  else none
  else none := rfl
def qt_sv2 (v11 : Int32) (B1 : Nat) (v8 : Int32) (p2 : Int32) (σ45 : ps_S) : Option (Unit × ps_S) :=
  if ps_in v11 12 = true then
  ps_let (σ45.1 (B1 + 11) (v11).toNatClampNeg) fun v46 =>
  if ps_in v11 12 = true then
  ps_let (ps_rI σ45 (B1 + 11) (upd (σ45.1 (B1 + 11)) (v11).toNatClampNeg ((v46 + v8)))) fun σ47 =>
  if ps_in p2 6 = true then
  ps_let (σ47.1 (12 + 5) (p2).toNatClampNeg) fun v48 =>
  if ps_in v48 4 = true then
  ps_let (σ47.1 (B1 + 4) (v48).toNatClampNeg) fun v49 =>
  if ps_in v48 4 = true then
  ps_let (ps_rI σ47 (B1 + 4) (upd (σ47.1 (B1 + 4)) (v48).toNatClampNeg ((v49 + v8)))) fun σ50 =>
  ps_let (σ50.1 B1 9) fun v51 =>
  ps_let (ps_rI σ50 B1 (upd (σ50.1 B1) 9 ((v51 + v8)))) fun σ52 =>
  if ps_in p2 6 = true then
  ps_let (σ52.1 (B1 + 16) (p2).toNatClampNeg) fun v53 =>
  if ps_in p2 6 = true then
  ps_let (ps_rI σ52 (B1 + 16) (upd (σ52.1 (B1 + 16)) (p2).toNatClampNeg ((v53 + v8)))) fun σ54 =>
  ps_let (σ54.1 B1 9) fun v55 =>
  ps_bd (qX0_freeOf B1 σ54) (fun v56 σ57 =>
  if v55 ≤ v56 then
  some ((), σ57)
  else
  if ps_in p2 6 = true then
  ps_let (σ57.1 (B1 + 15) (p2).toNatClampNeg) fun v59 =>
  ps_bd (qX0_pauseOf B1 p2 v8 σ57) (fun v60 σ61 =>
  if ps_in p2 6 = true then
  ps_let (ps_rI σ61 (B1 + 15) (upd (σ61.1 (B1 + 15)) (p2).toNatClampNeg ((((((3 * v59)) + v60)) / 4)))) fun σ62 =>
  if ps_in p2 6 = true then
  ps_let (σ62.1 (B1 + 15) (p2).toNatClampNeg) fun v63 =>
  if ps_in p2 6 = true then
  ps_let (ps_rI σ62 (B1 + 14) (upd (σ62.1 (B1 + 14)) (p2).toNatClampNeg v63)) fun σ64 =>
  some ((), σ64)
  else none
  else none
  else none)
  else none)
  else none
  else none
  else none
  else none
  else none
  else none
  else none
def qt_sv1 (v8 : Int32) (p2 : Int32) (B1 : Nat) (σ4 : ps_S) : Option (Unit × ps_S) :=
  if v8 = 0 then
  some ((), σ4)
  else
  if ps_in p2 6 = true then
  ps_let (σ4.1 (12 + 4) (p2).toNatClampNeg) fun v11 =>
  if ps_in v11 12 = true then
  ps_let (σ4.1 (B1 + 11) (v11).toNatClampNeg) fun v12 =>
  if v12 = 0 then
  ps_let (σ4.1 B1 8) fun v44 =>
  if ps_in v11 12 = true then
  ps_let (ps_rI σ4 (B1 + 12) (upd (σ4.1 (B1 + 12)) (v11).toNatClampNeg v44)) fun σ45 =>
  qt_sv2 v11 B1 v8 p2 σ45
  else none
  else
  qt_sv2 v11 B1 v8 p2 σ4
  else none
  else none
theorem qf_sv (B1 : Nat) (p2 : Int32) (σ : ps_S) : qX0_serve B1 p2 σ =
  if ps_in p2 6 = true then
  ps_let (σ.1 (B1 + 14) (p2).toNatClampNeg) fun v1 =>
  if v1 ≤ 0 then
  ps_bd (qX4_wantedBy B1 p2 σ) (fun v3 σ4 =>
  ps_let (σ4.1 B1 10) fun v5 =>
  ps_let (σ4.1 B1 9) fun v6 =>
  ps_let (if 0 < ((v5 - v6)) then ((v5 - v6)) else 0) fun v7 =>
  ps_let (if v7 < v3 then v7 else v3) fun v8 =>
  if v3 ≤ v8 then
  qt_sv1 v8 p2 B1 σ4
  else
  if ps_in p2 6 = true then
  ps_let (σ4.1 (B1 + 17) (p2).toNatClampNeg) fun v79 =>
  if ps_in p2 6 = true then
  ps_let (ps_rI σ4 (B1 + 17) (upd (σ4.1 (B1 + 17)) (p2).toNatClampNeg ((v79 + 1)))) fun σ80 =>
  qt_sv1 v8 p2 B1 σ80
  else none
  else none)
  else
  if ps_in p2 6 = true then
  ps_let (σ.1 (B1 + 14) (p2).toNatClampNeg) fun v152 =>
  if ps_in p2 6 = true then
  ps_let (ps_rI σ (B1 + 14) (upd (σ.1 (B1 + 14)) (p2).toNatClampNeg ((v152 - 1)))) fun σ153 =>
  some ((), σ153)
  else none
  else none
  else none := rfl
/-! a writer served -/
def pa_w1 (h r : pa_R) (w : Nat) (x : Int32) : pa_R :=
  upd (upd (if r (1 + (h (29 + w)).toNatClampNeg) = 0 then upd r (13 + (h (29 + w)).toNatClampNeg) (r 0) else r) (1 + (h (29 + w)).toNatClampNeg) (r (1 + (h (29 + w)).toNatClampNeg) + x)) (71 + w) (r (71 + w) + x)
def pa_w2 (h r : pa_R) (e : pa_D) (D F W L w : Nat) (x : Int32) : pa_R :=
  if nI (pa_fr h L) < pa_all r then upd (upd r (65 + w) ((3 * r (65 + w) + pa_pau h r e D F W L w x) / 4)) (59 + w) ((3 * r (65 + w) + pa_pau h r e D F W L w x) / 4) else r
def pa_x (L a wn : Nat) : Nat := min wn (L - a)
def pa_aN (r : pa_R) : Nat := pa_sN r 1 12 + pa_sN r 29 4
def pa_hd (r : pa_R) (w x wn : Nat) : pa_R := if wn ≤ x then r else upd r (77 + w) (r (77 + w) + 1)
def pa_s1 (h r : pa_R) (e : pa_D) (D F W L w x : Nat) : pa_R := if x = 0 then r else pa_w2 h (pa_w1 h r w (nI x)) e D F W L w (nI x)
def pa_sv (h r : pa_R) (e : pa_D) (D F W L w : Nat) : pa_R :=
  if r (59 + w) ≤ 0 then pa_s1 h (pa_hd r w (pa_x L (pa_aN r) (pa_wnt h r w).toNatClampNeg) (pa_wnt h r w).toNatClampNeg) e D F W L w (pa_x L (pa_aN r) (pa_wnt h r w).toNatClampNeg)
  else upd r (59 + w) (r (59 + w) - 1)
theorem pa_wntR (h r : pa_R) (w : Nat) : ∃ n, n ≤ 99 ∧ pa_wnt h r w = nI n := pa_clR (hi := 99) (by omega)
theorem pa_all_congr {f g : pa_R} (h : ∀ k, (1 ≤ k ∧ k < 13) ∨ (29 ≤ k ∧ k < 33) → f k = g k) : pa_all f = pa_all g := by
  unfold pa_all
  rw [pa_sum_congr (fun i hi => h (1 + i) (by omega)), pa_sum_congr (fun i hi => h (29 + i) (by omega))]
theorem pa_don_congr {h f g : pa_R} {d : Int32} : ∀ {n : Nat}, n ≤ 12 → (∀ k, 1 ≤ k ∧ k < 13 → f k = g k) → pa_don h f d n = pa_don h g d n
  | 0, _, _ => rfl
  | n + 1, hn, hk => by rw [pa_don, pa_don, pa_don_congr (by omega) hk, hk (1 + n) (by omega)]
theorem pa_all_upd {r : pa_R} {k : Nat} {x : Int32} (h : 1 ≤ k) (h2 : k < 13) : pa_all (upd r k (r k + x)) = pa_all r + x := by
  unfold pa_all
  rw [pa_sum_upd (by omega) (by omega), pa_sum_upd_ne (by omega), ← Int32.add_assoc, Int32.sub_add_cancel, Int32.add_assoc, Int32.add_comm x, ← Int32.add_assoc]
theorem pa_w1_at {h r : pa_R} {w : Nat} {x : Int32} {f : Nat} (hf : h (29 + w) = nI f) (hf2 : f < 12) {k : Nat} (h1 : k ≠ 13 + f) (h2 : k ≠ 1 + f) (h3 : k ≠ 71 + w) : pa_w1 h r w x k = r k := by
  unfold pa_w1
  rw [hf, nI_clamp (by omega), upd_ne _ _ h3, upd_ne _ _ h2]
  by_cases c : r (1 + f) = 0
  · rw [if_pos c, upd_ne _ _ h1]
  · rw [if_neg c]
theorem pa_w1_all {h r : pa_R} {w : Nat} {x : Int32} {f : Nat} (hf : h (29 + w) = nI f) (hf2 : f < 12) : pa_all (pa_w1 h r w x) = pa_all r + x := by
  rw [← pa_all_upd (r := r) (k := 1 + f) (x := x) (by omega) (by omega)]
  refine pa_all_congr (fun k hk => ?_)
  by_cases c : k = 1 + f
  · subst c
    unfold pa_w1
    rw [hf, nI_clamp (by omega), upd_ne _ _ (by omega), upd_self, upd_self]
  · rw [pa_w1_at hf hf2 (by omega) c (by omega), upd_ne _ _ c]
theorem pa_w1_don {h r : pa_R} {w F : Nat} {x : Int32} {f d : Nat} (hf : h (29 + w) = nI f) (hf2 : f < F) (hF : F ≤ 12) : pa_don h (pa_w1 h r w x) (nI d) F = pa_don h r (nI d) F + (if h (17 + f) = nI d then x else 0) := by
  have e : pa_don h (upd r (1 + f) (r (1 + f) + x)) (nI d) F = pa_don h r (nI d) F + (if h (17 + f) = nI d then x else 0) := by
    rw [pa_don_upd hf2, Int32.add_comm (r (1 + f)), Int32.add_sub_cancel]
  rw [← e]
  refine pa_don_congr hF (fun k hk => ?_)
  by_cases c : k = 1 + f
  · subst c
    unfold pa_w1
    rw [hf, nI_clamp (by omega), upd_ne _ _ (by omega), upd_self, upd_self]
  · rw [pa_w1_at hf (by omega) (by omega) c (by omega), upd_ne _ _ c]
theorem pa_w2_at {h r : pa_R} {e : pa_D} {D F W L w : Nat} {x : Int32} {k : Nat} (h1 : k ≠ 65 + w) (h2 : k ≠ 59 + w) : pa_w2 h r e D F W L w x k = r k := by
  unfold pa_w2
  by_cases c : nI (pa_fr h L) < pa_all r
  · rw [if_pos c, upd_ne _ _ h2, upd_ne _ _ h1]
  · rw [if_neg c]
/-! the reference -/
section SVG
variable {h : pa_R} {D F W w L x M : Nat} {σ0 σ : ps_S} {r : pa_R} {e : pa_D} {p : pa_P}
theorem pg_wr3 {f : Nat} (hI : pa_HI h D F W) (hf : h (29 + w) = nI f) (hf2 : f < F) {r0 : pa_R} (hr0 : r = (if r0 (1 + f) = 0 then upd r0 (13 + f) (r0 0) else r0)) (hK : pa_IK r0 D) (hw : w < W) (hL : p.1 = nI L) (L1 : pa_N h 11 < L) (L2 : L ≤ 999) (hE : ∀ d, d < D → pf_E (e d) M) (hM : M < 2 ^ 53) (hx : x < 2 ^ 31) (g : pg_T h D W σ0 σ r e p) : ps_ok (qt_wr3 (nI f) (nI x) (nI w) σ) (fun _ τ => pg_T h D W σ0 τ (pa_w2 h (pa_w1 h r0 w (nI x)) e D F W L w (nI x)) e p) := by
  have hW := hI.2.2.1.2
  have hF := hI.2.1.2
  have hk : ∀ k, k ≠ 13 + f → r k = r0 k := by
    intro k hk
    rw [hr0]
    by_cases c : r0 (1 + f) = 0
    · rw [if_pos c, upd_ne _ _ hk]
    · rw [if_neg c]
  have e1 : upd (upd r (1 + f) (r (1 + f) + nI x)) (71 + w) (upd r (1 + f) (r (1 + f) + nI x) (71 + w) + nI x) = pa_w1 h r0 w (nI x) := by
    unfold pa_w1
    rw [upd_ne _ _ (show 71 + w ≠ 1 + f by omega), hk (1 + f) (by omega), hk (71 + w) (by omega), hf, nI_clamp (by omega), ← hr0]
  have hK' : pa_IK (pa_w1 h r0 w (nI x)) D := by
    intro d hd
    unfold pa_N
    rw [pa_w1_at hf (by omega) (by omega) (by omega) (by omega)]
    exact hK d hd
  unfold qt_wr3
  refine pg_l g (k := 1 + f) (by omega) (by omega) (by omega) (pz_a1 f) ?_
  refine pg_w g (k := 1 + f) (by omega) (by omega) (by omega) (pz_a1 f) (fun σ2 g2 => ?_)
  refine pg_l g2 (k := 71 + w) (by omega) (by omega) (by omega) (pz_a71 w) ?_
  refine pg_w g2 (k := 71 + w) (by omega) (by omega) (by omega) (pz_a71 w) (fun σ4 g4 => ?_)
  rw [e1] at g4
  refine pz_bd' g4.all ?_
  refine pz_bd' (pg_free hI g4 hL L2) ?_
  unfold pa_w2
  refine pz_if (fun c => ?_) (fun c => ?_)
  · rw [if_pos c]
    refine pg_l g4 (k := 65 + w) (by omega) (by omega) (by omega) (pz_a65 w) ?_
    refine pz_bd (pg_pause hI g4 hK' hw hL L1 L2 hE hM hx) (fun v τ ev => ?_)
    obtain ⟨rfl, rfl⟩ := ev
    refine pg_w g4 (k := 65 + w) (by omega) (by omega) (by omega) (pz_a65 w) (fun σ5 g5 => ?_)
    refine pg_l g5 (k := 65 + w) (by omega) (by omega) (by omega) (pz_a65 w) ?_
    rw [upd_self]
    refine pg_w g5 (k := 59 + w) (by omega) (by omega) (by omega) (pz_a59 w) (fun σ6 g6 => ?_)
    exact pz_done g6
  · rw [if_neg c]
    exact pz_done g4
theorem pg_wr2 (hI : pa_HI h D F W) (hK : pa_IK r D) (hw : w < W) (hL : p.1 = nI L) (L1 : pa_N h 11 < L) (L2 : L ≤ 999) (hE : ∀ d, d < D → pf_E (e d) M) (hM : M < 2 ^ 53) (hx : x < 2 ^ 31) (g : pg_T h D W σ0 σ r e p) : ps_ok (qt_wr2 (nI x) (nI w) σ) (fun _ τ => pg_T h D W σ0 τ (pa_s1 h r e D F W L w x) e p) := by
  have hW := hI.2.2.1.2
  have hF := hI.2.1.2
  unfold qt_wr2 pa_s1
  by_cases c0 : x = 0
  · subst c0
    rw [if_pos rfl]
    exact pz_t rfl (pz_done g)
  · rw [if_neg c0]
    refine pz_e (nI_ne0 (by omega) hx) ?_
    obtain ⟨d, hd, ed, f, hf, ef, edf⟩ := pa_devR hI hw
    refine pg_hr g (k := 29 + w) (by omega) (pz_a29 w) ?_
    rw [ef]
    refine pg_l g (k := 1 + f) (by omega) (by omega) (by omega) (pz_a1 f) ?_
    refine pz_if (fun c => ?_) (fun c => ?_)
    · refine pg_lt g ?_
      refine pg_w g (k := 13 + f) (by omega) (by omega) (by omega) (pz_a13 f) (fun σ2 g2 => ?_)
      exact pg_wr3 hI ef hf (by rw [if_pos c]) hK hw hL L1 L2 hE hM hx g2
    · exact pg_wr3 hI ef hf (by rw [if_neg c]) hK hw hL L1 L2 hE hM hx g
theorem nI_subn {a b : Nat} (h : a < b) (hb : b < 2 ^ 31) : nI a - nI b < 0 := by
  rw [Int32.lt_iff_toInt_lt, Int32.toInt_sub, nI_toInt (by omega), nI_toInt hb, show (0 : Int32).toInt = 0 by decide]
  rw [Int.bmod_eq_of_le (by omega) (by omega)]
  omega
theorem pg_sm.T {τ : ps_S} (s : pg_sm σ τ) (g : pg_T h D W σ0 σ r e p) : pg_T h D W σ0 τ r e p := by
  refine g.to ?_ ?_ s.fr
  · rw [← g.1]
    unfold pg_r pg_f
    rw [s.1 327 (by decide) (by decide), s.1 335 (by decide) (by decide)]
  · rw [← g.2.1]
    unfold pg_e
    rw [s.2]
theorem pg_hd1 (hI : pa_HI h D F W) {wn : Nat} (hwn : ¬ wn ≤ x) (hK : pa_IK r D) (hw : w < W) (hL : p.1 = nI L) (L1 : pa_N h 11 < L) (L2 : L ≤ 999) (hE : ∀ d, d < D → pf_E (e d) M) (hM : M < 2 ^ 53) (hx : x < 2 ^ 31) (g : pg_T h D W σ0 σ r e p) : ps_ok (qt_wr1 (nI w) (nI x) σ) (fun _ τ => pg_T h D W σ0 τ (pa_s1 h (pa_hd r w x wn) e D F W L w x) e p) := by
  have hW := hI.2.2.1.2
  unfold qt_wr1 pa_hd
  rw [if_neg hwn]
  refine pg_l g (k := 77 + w) (by omega) (by omega) (by omega) (pz_a77 w) ?_
  refine pg_w g (k := 77 + w) (by omega) (by omega) (by omega) (pz_a77 w) (fun σ2 g2 => ?_)
  refine pg_wr2 hI (fun d hd => ?_) hw hL L1 L2 hE hM hx g2
  unfold pa_N
  rw [upd_ne _ _ (by omega)]
  exact hK d hd
theorem pg_writes (hI : pa_HI h D F W) (hLI : pa_LI h) (hA : pa_IA r D F) (hK : pa_IK r D) (hw : w < W) (hL : p.1 = nI L) (L1 : pa_N h 11 < L) (L2 : L ≤ 999) (hE : ∀ d, d < D → pf_E (e d) M) (hM : M < 2 ^ 53) (g : pg_T h D W σ0 σ r e p) : ps_ok (qX9_writes (nI w) σ) (fun _ τ => pg_T h D W σ0 τ (pa_sv h r e D F W L w) e p) := by
  have hW := hI.2.2.1.2
  have hI' : pa_HI (pg_h σ) D F W := by rw [g.2.2.1]; exact hI
  rw [qf_wr]
  unfold pa_sv
  refine pg_l g (k := 59 + w) (by omega) (by omega) (by omega) (pz_a59 w) ?_
  refine pz_if (fun c => ?_) (fun c => ?_)
  · rw [if_pos c]
    refine pz_bd (pg_wants hI' hw (by rw [g.2.2.1]; exact hLI)) (fun v τ ev => ?_)
    obtain ⟨ev, sm⟩ := ev
    have g1 := sm.T g
    rw [g.2.2.1, g.1] at ev
    obtain ⟨wn, hwn, ewn⟩ := pa_wntR h r w
    rw [ewn] at ev
    subst ev
    rw [ewn, nI_clamp (n := wn) (by omega)]
    refine pg_lp g1 ?_
    refine pz_bd' g1.all ?_
    have hall : pa_all r = nI (pa_aN r) := pa_all_nI hA
    have hAN : pa_aN r ≤ 999 := hA.2.2.1
    rw [pz_lt, hL, hall]
    by_cases c1 : pa_aN r ≤ L
    · rw [nI_sub c1]
      refine pz_t (nI_pos' (by omega)) ?_
      by_cases c2 : L - pa_aN r ≤ wn
      · have ex : pa_x L (pa_aN r) wn = L - pa_aN r := by unfold pa_x; omega
        rw [ex]
        refine pz_t (nI_le c2 (by omega)) ?_
        by_cases c3 : wn ≤ L - pa_aN r
        · refine pz_t (nI_le c3 (by omega)) ?_
          unfold pa_hd
          rw [if_pos c3]
          exact pg_wr2 hI hK hw hL L1 L2 hE hM (by omega) g1
        · refine pz_e (nI_ge (by omega) (by omega)) ?_
          exact pg_hd1 hI c3 hK hw hL L1 L2 hE hM (by omega) g1
      · have ex : pa_x L (pa_aN r) wn = wn := by unfold pa_x; omega
        rw [ex]
        refine pz_e (nI_ge (by omega) (by omega)) ?_
        refine pz_t (nI_le (Nat.le_refl _) (by omega)) ?_
        unfold pa_hd
        rw [if_pos (Nat.le_refl _)]
        exact pg_wr2 hI hK hw hL L1 L2 hE hM (by omega) g1
    · have ex : pa_x L (pa_aN r) wn = 0 := by unfold pa_x; omega
      rw [ex]
      have hn := nI_subn (a := L) (b := pa_aN r) (by omega) (by omega)
      refine pz_e (fun hh => absurd hh (Int32.not_le.mpr hn)) ?_
      unfold pa_s1 pa_hd
      rw [if_pos rfl]
      by_cases c3 : wn ≤ 0
      · rw [if_pos c3]
        exact pz_t (nI_le (b := 0) c3 (by omega)) (pz_done g1)
      · rw [if_neg c3]
        refine pz_e (nI_nle (by omega) (by omega)) ?_
        refine pg_l g1 (k := 77 + w) (by omega) (by omega) (by omega) (pz_a77 w) ?_
        refine pg_w g1 (k := 77 + w) (by omega) (by omega) (by omega) (pz_a77 w) (fun σ2 g2 => ?_)
        exact pz_done g2
  · rw [if_neg c]
    refine pg_l g (k := 59 + w) (by omega) (by omega) (by omega) (pz_a59 w) ?_
    refine pg_w g (k := 59 + w) (by omega) (by omega) (by omega) (pz_a59 w) (fun σ2 g2 => ?_)
    exact pz_done g2
end SVG
/-! the class -/
section SVC
variable {h : pa_R} {D F W B w L x M : Nat} {σ0 σ : ps_S} {r : pa_R} {e : pa_D} {a : Int32} {dd : pa_R} {p : pa_P}
theorem pc_sv2 {f : Nat} (hB : 26 ≤ B) (hI : pa_HI h D F W) (hH0 : pc_H 12 h D F W σ0) (hf : h (29 + w) = nI f) (hf2 : f < F) {r0 : pa_R} (hr0 : r = (if r0 (1 + f) = 0 then upd r0 (13 + f) (r0 0) else r0)) (hK : pa_IK r0 D) (hw : w < W) (hL : p.1 = nI L) (L1 : pa_N h 11 < L) (L2 : L ≤ 999) (hE : ∀ d, d < D → pf_E (e d) M) (hM : M < 2 ^ 53) (hx : x < 2 ^ 31) (g : pc_T D W B σ0 σ r e (pa_all r0) dd p) (hdd : ∀ d, d < 4 → dd d = pa_don h r0 (nI d) F) : ps_ok (qt_sv2 (nI f) B (nI x) (nI w) σ) (fun _ τ => pc_S h D F W B τ (pa_w2 h (pa_w1 h r0 w (nI x)) e D F W L w (nI x)) e p ∧ pc_fb B σ0 τ) := by
  have hW := hI.2.2.1.2
  have hF := hI.2.1.2
  have hD := hI.1.2
  have hk : ∀ k, k ≠ 13 + f → r k = r0 k := by
    intro k hk
    rw [hr0]
    by_cases c : r0 (1 + f) = 0
    · rw [if_pos c, upd_ne _ _ hk]
    · rw [if_neg c]
  have e1 : upd (upd r (1 + f) (r (1 + f) + nI x)) (71 + w) (upd r (1 + f) (r (1 + f) + nI x) (71 + w) + nI x) = pa_w1 h r0 w (nI x) := by
    unfold pa_w1
    rw [upd_ne _ _ (show 71 + w ≠ 1 + f by omega), hk (1 + f) (by omega), hk (71 + w) (by omega), hf, nI_clamp (by omega), ← hr0]
  have hK' : pa_IK (pa_w1 h r0 w (nI x)) D := by
    intro d hd
    unfold pa_N
    rw [pa_w1_at hf (by omega) (by omega) (by omega) (by omega)]
    exact hK d hd
  obtain ⟨d, hd, ed, f', hf', ef', edf⟩ := pa_devR hI hw
  have : f' = f := (nI_eq (by omega) (by omega)).mp (ef'.symm.trans hf)
  subst this
  unfold qt_sv2
  refine pc_l11 g (i := f') (by omega) rfl ?_
  refine pc_w11 g (i := f') (by omega) rfl (fun σ2 g2 => ?_)
  have hH2 := g2.2.H hB hH0
  have e5 : σ2.1 (12 + 5) w = nI d := by rw [hH2.2.2.2.2 w hw, ← ed]; rfl
  refine pz_rd (k := w) rfl (by omega) (by decide) e5 ?_
  refine pc_l4 g2 (i := d) (by omega) rfl ?_
  refine pc_w4 g2 (i := d) (by omega) rfl (fun σ3 g3 => ?_)
  refine pc_la g3 ?_
  refine pc_wa g3 (fun σ4 g4 => ?_)
  refine pc_l16 g4 (i := w) (by omega) rfl ?_
  refine pc_w16 g4 (i := w) (by omega) rfl (fun σ5 g5 => ?_)
  rw [e1, ← pa_w1_all (w := w) hf (by omega)] at g5
  have hdd' : ∀ j, j < 4 → upd dd d (dd d + nI x) j = pa_don h (pa_w1 h r0 w (nI x)) (nI j) F := by
    intro j hj
    rw [pa_w1_don hf hf2 hF, edf]
    by_cases c : j = d
    · subst c
      rw [upd_self, if_pos rfl, hdd j hj]
    · rw [upd_ne _ _ c, if_neg (fun hh => c ((nI_eq (by omega) (by omega)).mp hh).symm), hdd j hj, Int32.add_zero]
  have hH5 := g5.2.H hB hH0
  refine pc_la g5 ?_
  refine pz_bd' (pc_free hI hH5 g5 hL L2) ?_
  unfold pa_w2
  refine pz_if (fun c => ?_) (fun c => ?_)
  · rw [if_neg (Int32.not_lt.mpr c)]
    exact pz_done ⟨g5.1.S rfl hdd', g5.2⟩
  · rw [if_pos (Int32.not_le.mp c)]
    refine pc_l15 g5 (i := w) (by omega) rfl ?_
    refine pz_bd (pc_pause hI hH5 g5 hdd' hK' hw hL L1 L2 hE hM hx) (fun v τ ev => ?_)
    obtain ⟨rfl, rfl⟩ := ev
    rw [if_pos (Int32.not_le.mp c)]
    refine pc_w15 g5 (i := w) (by omega) rfl (fun σ6 g6 => ?_)
    refine pc_l15 g6 (i := w) (by omega) rfl ?_
    rw [upd_self]
    refine pc_w14 g6 (i := w) (by omega) rfl (fun σ7 g7 => ?_)
    refine pz_done ⟨g7.1.S (pa_all_congr (fun k hk => ?_)) (fun j hj => (hdd' j hj).trans (pa_don_congr hF (fun k hk => ?_))), g7.2⟩
    · rw [upd_ne _ _ (by omega), upd_ne _ _ (by omega)]
    · rw [upd_ne _ _ (by omega), upd_ne _ _ (by omega)]
theorem pc_sv1 (hB : 26 ≤ B) (hI : pa_HI h D F W) (hH0 : pc_H 12 h D F W σ0) (hK : pa_IK r D) (hw : w < W) (hL : p.1 = nI L) (L1 : pa_N h 11 < L) (L2 : L ≤ 999) (hE : ∀ d, d < D → pf_E (e d) M) (hM : M < 2 ^ 53) (hx : x < 2 ^ 31) (g : pc_T D W B σ0 σ r e (pa_all r) dd p) (hdd : ∀ d, d < 4 → dd d = pa_don h r (nI d) F) : ps_ok (qt_sv1 (nI x) (nI w) B σ) (fun _ τ => pc_S h D F W B τ (pa_s1 h r e D F W L w x) e p ∧ pc_fb B σ0 τ) := by
  have hW := hI.2.2.1.2
  have hF := hI.2.1.2
  unfold qt_sv1 pa_s1
  by_cases c0 : x = 0
  · subst c0
    rw [if_pos rfl]
    exact pz_t rfl (pz_done ⟨g.1.S rfl hdd, g.2⟩)
  · rw [if_neg c0]
    refine pz_e (nI_ne0 (by omega) hx) ?_
    obtain ⟨d, hd, ed, f, hf, ef, edf⟩ := pa_devR hI hw
    have hH := g.2.H hB hH0
    have e4 : σ.1 (12 + 4) w = nI f := by rw [hH.2.2.2.1 w hw, ef]
    refine pz_rd (k := w) rfl (by omega) (by decide) e4 ?_
    refine pc_l11 g (i := f) (by omega) rfl ?_
    refine pz_if (fun c => ?_) (fun c => ?_)
    · refine pc_lt g ?_
      refine pc_w12 g (i := f) (by omega) rfl (fun σ2 g2 => ?_)
      exact pc_sv2 hB hI hH0 ef hf (by rw [if_pos c]) hK hw hL L1 L2 hE hM hx g2 hdd
    · exact pc_sv2 hB hI hH0 ef hf (by rw [if_neg c]) hK hw hL L1 L2 hE hM hx g hdd
theorem pc_serve {t : Nat} (hB : 26 ≤ B) (hI : pa_HI h D F W) (hLI : pa_LI h) (hH : pc_H 12 h D F W σ) (hC : pc_L 12 h σ) (hO : pc_O h σ) (h1 : pa_I1 r D F W) (ht : r 0 = nI t) (ht2 : t < 2 ^ 31) (hK : pa_IK r D) (hw : w < W) (hL : p.1 = nI L) (L1 : pa_N h 11 < L) (L2 : L ≤ 999) (hE : ∀ d, d < D → pf_E (e d) M) (hM : M < 2 ^ 53) (hS : pc_S h D F W B σ r e p) : ps_ok (qX0_serve B (nI w) σ) (fun _ τ => pc_S h D F W B τ (pa_sv h r e D F W L w) e p ∧ pc_O h τ ∧ pc_fr B σ τ) := by
  have hW := hI.2.2.1.2
  have hA := h1.1
  rw [qf_sv]
  unfold pa_sv
  have g : pc_T D W B σ σ r e (pa_all r) (fun d => pa_don h r (nI d) F) p := pc_T.of hS.Q
  refine pc_l14 g (i := w) (by omega) rfl ?_
  refine pz_if (fun c => ?_) (fun c => ?_)
  · rw [if_pos c]
    refine pz_bd (pc_wants hB hI hLI hH hC hO hS hw (h1.2.2.2.2 w hw) ht ht2) (fun v σ4 ev => ?_)
    obtain ⟨rfl, hO4, sm⟩ := ev
    have hS4 := sm.S hB hS
    have hH4 := sm.H hH
    have g4 : pc_T D W B σ4 σ4 r e (pa_all r) (fun d => pa_don h r (nI d) F) p := pc_T.of hS4.Q
    obtain ⟨wn, hwn, ewn⟩ := pa_wntR h r w
    rw [ewn, nI_clamp (n := wn) (by omega)]
    have hall : pa_all r = nI (pa_aN r) := pa_all_nI hA
    have hAN : pa_aN r ≤ 999 := hA.2.2.1
    refine pc_lp g4 ?_
    refine pc_la g4 ?_
    have ev7 : (if 0 < p.1 - pa_all r then p.1 - pa_all r else 0) = nI (L - pa_aN r) := by
      rw [hL, hall]
      by_cases c1 : pa_aN r < L
      · have c2 : (0 : Int32) < nI (L - pa_aN r) := nI_lt (a := 0) (b := L - pa_aN r) (by omega) (by omega)
        rw [nI_sub (by omega), if_pos c2]
      · rw [show L - pa_aN r = 0 by omega]
        by_cases c2 : L = pa_aN r
        · rw [← c2, Int32.sub_self]; rfl
        · have := nI_subn (a := L) (b := pa_aN r) (by omega) (by omega)
          rw [if_neg (Int32.not_lt.mpr (Int32.le_of_lt this))]; rfl
    have ev8 : (if nI (L - pa_aN r) < nI wn then nI (L - pa_aN r) else nI wn) = nI (pa_x L (pa_aN r) wn) := by
      unfold pa_x
      by_cases c1 : L - pa_aN r < wn
      · rw [if_pos (nI_lt c1 (by omega)), Nat.min_eq_right (by omega)]
      · rw [if_neg (nI_nlt (by omega) (by omega)), Nat.min_eq_left (by omega)]
    rw [pz_lt, ev7, pz_lt, ev8]
    have hxx : pa_x L (pa_aN r) wn < 2 ^ 31 := by unfold pa_x; omega
    have fin : ∀ υ, pc_fb B σ4 υ → pc_O h υ ∧ pc_fr B σ υ := by
      intro υ fb
      refine ⟨fb.O hB hO4, ?_⟩
      exact sm.fr.tr fb.fr
    by_cases c3 : wn ≤ pa_x L (pa_aN r) wn
    · refine pz_t (nI_le c3 hxx) ?_
      unfold pa_hd
      rw [if_pos c3]
      refine pz_im (pc_sv1 hB hI hH4 hK hw hL L1 L2 hE hM hxx g4 (fun _ _ => rfl)) (fun _ υ hu => ?_)
      exact ⟨hu.1, fin υ hu.2⟩
    · refine pz_e (nI_ge (by omega) (by omega)) ?_
      unfold pa_hd
      rw [if_neg c3]
      refine pc_l17 g4 (i := w) (by omega) rfl ?_
      refine pc_w17 g4 (i := w) (by omega) rfl (fun σ5 g5 => ?_)
      have ea : pa_all r = pa_all (upd r (77 + w) (r (77 + w) + 1)) := pa_all_congr (fun k hk => by rw [upd_ne _ _ (by omega)])
      rw [ea] at g5
      refine pz_im (pc_sv1 hB hI hH4 (fun d hd => ?_) hw hL L1 L2 hE hM hxx g5 (fun j hj => pa_don_congr hI.2.1.2 (fun k hk => by rw [upd_ne _ _ (by omega)]))) (fun _ υ hu => ⟨hu.1, fin υ hu.2⟩)
      unfold pa_N
      rw [upd_ne _ _ (by omega)]
      exact hK d hd
  · rw [if_neg c]
    refine pc_l14 g (i := w) (by omega) rfl ?_
    refine pc_w14 g (i := w) (by omega) rfl (fun σ5 g5 => ?_)
    refine pz_done ⟨g5.1.S (pa_all_congr (fun k hk => by rw [upd_ne _ _ (by omega)])) (fun j hj => pa_don_congr hI.2.1.2 (fun k hk => by rw [upd_ne _ _ (by omega)])), g5.2.O hB hO, g5.2.fr⟩
end SVC
