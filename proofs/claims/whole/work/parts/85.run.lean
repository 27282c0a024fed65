def qt_rn1 (B1 : Nat) (y2 : Int32) (y3 : Int32) (x4 : Int32) (n : Nat) (σ8 : ps_S) : Option (Int32 × ps_S) :=
  ps_bd (qX0_run_76 B1 y2 y3 x4 ps_N 0 σ8) (fun res σ16 => match res with
  | v17 =>
    ps_bd (qX0_run_104 B1 y2 y3 x4 ps_N 0 σ16) (fun res σ24 => match res with
    | v25 =>
      ps_let (x4 + 1) fun v26 =>
      qX0_run_22 B1 y2 y3 n v26 σ24))
theorem qf_rn (B1 : Nat) (y2 : Int32) (y3 : Int32) (n : Nat) (x4 : Int32) (σ : ps_S) : qX0_run_22 B1 y2 y3 (n + 1) x4 σ =
  if y2 ≤ x4 then
  some (x4, σ)
  else
  ps_let (σ.1 B1 8) fun v5 =>
  ps_let (ps_rI σ B1 (upd (σ.1 B1) 8 ((v5 + 1)))) fun σ6 =>
  ps_bd (qX0_writeOut B1 σ6) (fun _ σ8 =>
  ps_let (σ8.1 12 4) fun v9 =>
  if v9 ≤ 0 then
  qt_rn1 B1 y2 y3 x4 n σ8
  else
  ps_let (σ8.1 B1 8) fun v27 =>
  ps_let (σ8.1 12 4) fun v28 =>
  if v28 = 0 then none else
  if ((v27 - v27 / v28 * v28)) = 0 then
  ps_bd (qX0_closeWindow B1 σ8) (fun _ σ36 =>
  qt_rn1 B1 y2 y3 x4 n σ36)
  else
  qt_rn1 B1 y2 y3 x4 n σ8) := rfl
/-! ticks of the reference -/
section RUNG
variable {h : pa_R} {D F W : Nat} {σ0 : ps_S} {p : pa_P}
theorem pg_woT {d : Nat} {σ : ps_S} {r : pa_R} {e : pa_D} (hI : pa_HI h D F W) (hLI : pa_LI h) (h1 : pa_I1 r D F W) (hd : d < D) (g : pg_T h D W σ0 σ r e p) : ps_ok (qX9_writesOut (nI d) σ) (fun _ τ => pg_T h D W σ0 τ (pa_wod h p r d) e p) := by
  obtain ⟨g1, g2, g3, g4, g5⟩ := g
  subst g1 g2 g3
  refine pz_im (pg_writesOut (F := F) (p := p) hd hI hLI h1.2.2.2 h1.2.2.1 h1.1 (g4.2.1 d hd) g4.2.2.1) (fun _ τ ht => ?_)
  exact pg_T.to ⟨rfl, rfl, rfl, g4, g5⟩ ht.1 ht.2.1 ht.2.2
theorem pg_woL' (hI : pa_HI h D F W) (hLI : pa_LI h) : ∀ (m d fuel : Nat) (σ : ps_S) (r : pa_R) (e : pa_D), d + m = D → m < fuel → pa_I1 r D F W → pg_T h D W σ0 σ r e p → ps_ok (qX9_ticksOnce_12 fuel (nI d) σ) (fun _ τ => pg_T h D W σ0 τ (pa_wos h p d m r) e p) := by
  intro m
  have hD := hI.1.2
  have hDe := hI.1.1
  induction m with
  | zero =>
    intro d fuel σ r e h1 h2 i1 g
    obtain ⟨f, rfl⟩ : ∃ f, fuel = f + 1 := ⟨fuel - 1, by omega⟩
    rw [qX9_ticksOnce_12]
    refine pg_hl g 1 (by omega) ?_
    rw [hDe]
    exact pz_t (nI_le (by omega) (by omega)) (pz_done g)
  | succ m ih =>
    intro d fuel σ r e h1 h2 i1 g
    obtain ⟨f, rfl⟩ : ∃ f, fuel = f + 1 := ⟨fuel - 1, by omega⟩
    rw [qX9_ticksOnce_12]
    refine pg_hl g 1 (by omega) ?_
    rw [hDe]
    refine pz_e (nI_ge (by omega) (by omega)) ?_
    refine pz_bd (pg_woT hI hLI i1 (by omega) g) (fun _ τ gt => ?_)
    rw [pz_lt, nI_1]
    exact ih (d + 1) f τ (pa_wod h p r d) e (by omega) (by omega) (pa_wodI i1 (by omega) hD).1 gt
theorem pg_fillL (hI : pa_HI h D F W) : ∀ (m d fuel : Nat) (σ : ps_S) (r : pa_R) (e : pa_D), d + m = D → m < fuel → pa_IA r D F → pa_IT r → pg_T h D W σ0 σ r e p → ps_ok (qX9_ticksOnce_75 fuel (nI d) σ) (fun _ τ => pg_T h D W σ0 τ (pa_fills h F d m r) e p) := by
  intro m
  have hD := hI.1.2
  have hDe := hI.1.1
  induction m with
  | zero =>
    intro d fuel σ r e h1 h2 hA hT g
    obtain ⟨f, rfl⟩ : ∃ f, fuel = f + 1 := ⟨fuel - 1, by omega⟩
    rw [qX9_ticksOnce_75]
    refine pg_hl g 1 (by omega) ?_
    rw [hDe]
    exact pz_t (nI_le (by omega) (by omega)) (pz_done g)
  | succ m ih =>
    intro d fuel σ r e h1 h2 hA hT g
    obtain ⟨f, rfl⟩ : ∃ f, fuel = f + 1 := ⟨fuel - 1, by omega⟩
    rw [qX9_ticksOnce_75]
    refine pg_hl g 1 (by omega) ?_
    rw [hDe]
    refine pz_e (nI_ge (by omega) (by omega)) ?_
    obtain ⟨a1, a2, a3⟩ := pa_fillI hI (show d < D by omega) 99 r hA hT
    have ht : ps_ok (qX9_takesUp (nI d) σ) (fun _ τ => pg_T h D W σ0 τ (pa_fill h d F 99 r) e p) := by
      have g' := g
      obtain ⟨g1, g2, g3, g4, g5⟩ := g
      subst g1 g2 g3
      refine pz_im (pg_takesUp (F := F) (show d < D by omega) hI hA hT) (fun _ τ ht => ?_)
      exact g'.to ht.1 ht.2.1 ht.2.2
    refine pz_bd ht (fun _ τ gt => ?_)
    rw [pz_lt, nI_1]
    exact ih (d + 1) f τ (pa_fill h d F 99 r) e (by omega) (by omega) a1 a2 gt
theorem pg_svL {L t M : Nat} (hI : pa_HI h D F W) (hLI : pa_LI h) (hL : p.1 = nI L) (L1 : pa_N h 11 < L) (L2 : L ≤ 999) (hM : M < 2 ^ 53) (ht : t < 2 ^ 30) (hq : p.2.2.2 = 0) {e : pa_D} (hE : ∀ d, d < D → pf_E (e d) M) : ∀ (m k fuel : Nat) (σ : ps_S) (r : pa_R) (N N' : Nat), k + m = W → m < fuel → pa_I1 r D F W → pa_IK r D → r 0 = nI t → pa_IB r 71 6 N → pa_IB r 77 6 N' → N + 99 * m < 2 ^ 31 → N' + m < 2 ^ 31 → pg_T h D W σ0 σ r e p → ps_ok (qX9_ticksOnce_98 fuel (nI k) σ) (fun _ τ => pg_T h D W σ0 τ (pa_svs h e D F W L t k m r) e p) := by
  intro m
  have hW := hI.2.2.1.2
  have hWe := hI.2.2.1.1
  induction m with
  | zero =>
    intro k fuel σ r N N' h1 h2 i1 iK i0 b1 b2 c1 c2 g
    obtain ⟨f, rfl⟩ : ∃ f, fuel = f + 1 := ⟨fuel - 1, by omega⟩
    rw [qX9_ticksOnce_98]
    refine pg_hl g 3 (by omega) ?_
    rw [hWe]
    exact pz_t (nI_le (by omega) (by omega)) (pz_done g)
  | succ m ih =>
    intro k fuel σ r N N' h1 h2 i1 iK i0 b1 b2 c1 c2 g
    obtain ⟨f, rfl⟩ : ∃ f, fuel = f + 1 := ⟨fuel - 1, by omega⟩
    have hw : (t + k) % W < W := Nat.mod_lt _ (by omega)
    obtain ⟨a1, a2, a3, a4, a5⟩ := pa_svI (e := e) (L := L) (w := (t + k) % W) hI i1 iK hw L2 b1 b2 (by omega) (by omega)
    rw [qX9_ticksOnce_98]
    refine pg_hl g 3 (by omega) ?_
    rw [hWe]
    refine pz_e (nI_ge (by omega) (by omega)) ?_
    rw [pz_lt]
    refine pz_e (g.2.2.2.1.2.2.2.mp hq) ?_
    refine pg_lt g ?_
    refine pg_hl g 3 (by omega) ?_
    rw [hWe, i0]
    refine pz_nz (nI_ne0 (by omega) (by omega)) ?_
    refine pg_hl g 3 (by omega) ?_
    rw [hWe]
    refine pz_nz (nI_ne0 (by omega) (by omega)) ?_
    have hmt := Nat.mod_lt t (show 0 < W by omega)
    have ei : nI t - nI t / nI W * nI W + nI k - (nI t - nI t / nI W * nI W + nI k) / nI W * nI W = nI ((t + k) % W) := by
      rw [nI_rem (by omega) (by omega) (by omega), nI_add, nI_rem (by omega) (by omega) (by omega), Nat.mod_add_mod]
    rw [ei]
    refine pz_bd (pg_writes hI hLI i1.1 iK hw hL L1 L2 hE hM g) (fun _ τ gt => ?_)
    rw [pz_lt, nI_1]
    exact ih (k + 1) f τ (pa_sv h r e D F W L ((t + k) % W)) (N + 99) (N' + 1) (by omega) (by omega) a1 a2 (by rw [a5 0 (by omega)]; exact i0) a3 a4 (by omega) (by omega) gt
theorem pg_quiet {e : pa_D} {σ : ps_S} {r : pa_R} (hI : pa_HI h D F W) (hq : ¬ p.2.2.2 = 0) (g : pg_T h D W σ0 σ r e p) : ps_ok (qX9_ticksOnce_98 ps_N 0 σ) (fun _ τ => pg_T h D W σ0 τ r e p) := by
  have hW := hI.2.2.1.2
  have hWe := hI.2.2.1.1
  have hN : ps_N = 9999 + 1 := rfl
  rw [hN, qX9_ticksOnce_98]
  refine pg_hl g 3 (by omega) ?_
  refine pz_if (fun _ => pz_done g) (fun _ => ?_)
  rw [pz_lt]
  refine pz_t ?_ (pz_done g)
  have := g.2.2.2.1.2.2.2
  exact Decidable.of_not_not (fun hn => hq (this.mpr hn))
theorem pg_tick {t : Nat} {σ : ps_S} {x : pa_R × pa_D} (hI : pa_HI h D F W) (hLI : pa_LI h) (hp : pa_PI h p) (gI : pa_IV h D F W t x) (ht : t + 1 ≤ 3000000) (g : pg_T h D W σ0 σ x.1 x.2 p) : ps_ok (qX9_ticksOnce σ) (fun _ τ => pg_T h D W σ0 τ (pa_tick h D F W p x).1 (pa_tick h D F W p x).2 p) := by
  have hD := hI.1.2
  obtain ⟨wi, hwi, w1, w2⟩ := pa_wi hI
  have hwN : pa_N h 14 = wi := by unfold pa_N; rw [hwi, nI_clamp (by omega)]
  obtain ⟨r1, r2, r3, r4, e3, er1, i1, r10, er2, i2, r20, hWE, er3, i3, r30, k3, E3, er4, i4, r40, k4, b4, c4, tk, -⟩ := pa_stg hI hp gI ht
  rw [tk]
  unfold qX9_ticksOnce
  refine pg_lt g ?_
  rw [gI.2.1, nI_1]
  refine pg_wt g (fun σ1 g1 => ?_)
  rw [← er1] at g1
  refine pz_bd (pg_woL' hI hLI D 0 ps_N σ1 r1 x.2 (by omega) (by unfold ps_N; omega) i1 g1) (fun _ σ2 g2 => ?_)
  rw [← er2] at g2
  have hwin : ps_ok (qX9_ticksOnce_35 ps_N 0 σ2) (fun _ τ => pg_T h D W σ0 τ r3 e3 p) := by
    unfold pa_win at er3
    rw [hwN] at er3
    by_cases c : (t + 1) % wi = 0
    · rw [if_pos c] at er3
      have q1 : r3 = (pa_cws h 0 D r2 x.2).1 := by rw [← er3]
      have q2 : e3 = (pa_cws h 0 D r2 x.2).2 := by rw [← er3]
      rw [q1, q2]
      exact pg_cwL hI (M := 1024 + 16777216 * t) (by omega) D 0 ps_N σ2 r2 x.2 (by omega) (by unfold ps_N; omega) hWE g2 (t + 1) wi hwi w1 w2 r20 (by omega) c
    · rw [if_neg c] at er3
      have q1 : r3 = r2 := congrArg Prod.fst er3
      have q2 : e3 = x.2 := congrArg Prod.snd er3
      rw [q1, q2]
      have hN : ps_N = 9999 + 1 := rfl
      rw [hN, qX9_ticksOnce_35]
      refine pg_hl g2 1 (by omega) ?_
      refine pz_if (fun _ => pz_done g2) (fun _ => ?_)
      refine pg_lt g2 ?_
      refine pg_hl g2 14 (by omega) ?_
      rw [hwi, r20]
      refine pz_nz (nI_ne0 (by omega) (by omega)) ?_
      refine pz_e ?_ (pz_done g2)
      rw [nI_rem (by omega) (by omega) (by omega)]
      have := Nat.mod_lt (t + 1) (show 0 < wi by omega)
      exact nI_ne0 (by omega) (by omega)
  refine pz_bd hwin (fun _ σ3 g3 => ?_)
  refine pz_bd (pg_fillL hI D 0 ps_N σ3 r3 e3 (by omega) (by unfold ps_N; omega) i3.1 i3.2.1 g3) (fun _ σ4 g4 => ?_)
  rw [← er4] at g4
  have hW := hI.2.2.1.2
  by_cases c : p.2.2.2 = 0
  · rw [if_pos c]
    refine pz_bd (pg_svL (L := p.1.toNatClampNeg) (t := t + 1) (M := 1024 + 16777216 * (t + 1)) hI hLI hp.1 hp.2.1 hp.2.2 (by omega) (by omega) c E3 W 0 ps_N σ4 r4 (600 * t) (6 * t) (by omega) (by unfold ps_N; omega) i4 k4 r40 b4 c4 (by omega) (by omega) g4) (fun _ σ5 g5 => ?_)
    exact pz_done g5
  · rw [if_neg c]
    refine pz_bd (pg_quiet hI c g4) (fun _ σ5 g5 => ?_)
    exact pz_done g5
theorem pg_ticksL {n : Nat} (hI : pa_HI h D F W) (hLI : pa_LI h) (hp : pa_PI h p) (hn : n < 2 ^ 31) : ∀ (m i fuel t : Nat) (σ : ps_S) (x : pa_R × pa_D), i + m = n → m < fuel → pa_IV h D F W t x → t + m ≤ 3000000 → pg_T h D W σ0 σ x.1 x.2 p → ps_ok (qX9_ticksFor_2 (nI n) fuel (nI i) σ) (fun _ τ => pg_T h D W σ0 τ (pa_ticks h D F W p m x).1 (pa_ticks h D F W p m x).2 p) := by
  intro m
  induction m with
  | zero =>
    intro i fuel t σ x h1 h2 gI ht g
    obtain ⟨f, rfl⟩ : ∃ f, fuel = f + 1 := ⟨fuel - 1, by omega⟩
    rw [qX9_ticksFor_2]
    exact pz_t (nI_le (by omega) (by omega)) (pz_done g)
  | succ m ih =>
    intro i fuel t σ x h1 h2 gI ht g
    obtain ⟨f, rfl⟩ : ∃ f, fuel = f + 1 := ⟨fuel - 1, by omega⟩
    rw [qX9_ticksFor_2]
    refine pz_e (nI_ge (by omega) (by omega)) ?_
    refine pz_bd (pg_tick hI hLI hp gI (by omega) g) (fun _ τ gt => ?_)
    rw [pz_lt, nI_1]
    exact ih (i + 1) f (t + 1) τ (pa_tick h D F W p x) (by omega) (by omega) (pa_ticksI hI hp 1 t x gI (by omega)) (by omega) gt
theorem pg_ticks {n t : Nat} {σ : ps_S} {x : pa_R × pa_D} (hI : pa_HI h D F W) (hLI : pa_LI h) (hp : pa_PI h p) (hn : n ≤ 999) (gI : pa_IV h D F W t x) (ht : t + n ≤ 3000000) (g : pg_T h D W σ0 σ x.1 x.2 p) : ps_ok (qX9_ticksFor (nI n) σ) (fun _ τ => pg_T h D W σ0 τ (pa_ticks h D F W p n x).1 (pa_ticks h D F W p n x).2 p) := by
  unfold qX9_ticksFor
  refine pz_bd (pg_ticksL hI hLI hp (by omega) n 0 ps_N t σ x (by omega) (by unfold ps_N; omega) gI ht g) (fun _ τ gt => ?_)
  exact pz_done gt
end RUNG
/-! ticks of the class -/
def pc_G (h : pa_R) (D F W B : Nat) (p : pa_P) (σ : ps_S) (x : pa_R × pa_D) : Prop := pc_S h D F W B σ x.1 x.2 p ∧ pc_H 12 h D F W σ ∧ pc_L 12 h σ ∧ pc_O h σ
section RUNC
variable {h : pa_R} {D F W B : Nat} {p : pa_P}
theorem pc_fillL' {e : pa_D} {y2 y3 y4 : Int32} (hB : 26 ≤ B) (hI : pa_HI h D F W) : ∀ (m d fuel : Nat) (σ : ps_S) (r : pa_R), d + m = D → m < fuel → pa_IA r D F → pa_IT r → pc_G h D F W B p σ (r, e) → ps_ok (qX0_run_76 B y2 y3 y4 fuel (nI d) σ) (fun _ τ => pc_G h D F W B p τ (pa_fills h F d m r, e) ∧ pc_fr B σ τ) := by
  intro m
  have hD := hI.1.2
  have hDe := hI.1.1
  induction m with
  | zero =>
    intro d fuel σ r h1 h2 hA hT g
    obtain ⟨f, rfl⟩ : ∃ f, fuel = f + 1 := ⟨fuel - 1, by omega⟩
    rw [qX0_run_76]
    refine pz_l g.2.1.1.2.2.2.2.2.2.2.1 ?_
    rw [hDe]
    exact pz_t (nI_le (by omega) (by omega)) (pz_done ⟨g, pc_fr.rf _ _⟩)
  | succ m ih =>
    intro d fuel σ r h1 h2 hA hT g
    obtain ⟨f, rfl⟩ : ∃ f, fuel = f + 1 := ⟨fuel - 1, by omega⟩
    rw [qX0_run_76]
    refine pz_l g.2.1.1.2.2.2.2.2.2.2.1 ?_
    rw [hDe]
    refine pz_e (nI_ge (by omega) (by omega)) ?_
    obtain ⟨a1, a2, a3⟩ := pa_fillI hI (show d < D by omega) 99 r hA hT
    refine pz_bd (pc_fillQ hB hI (show d < D by omega) g.2.1 g.1 hA hT) (fun _ τ gt => ?_)
    obtain ⟨t1, t2, t3, t4, t5⟩ := gt
    rw [pz_lt, nI_1]
    refine pz_im (ih (d + 1) f τ (pa_fill h d F 99 r) (by omega) (by omega) a1 a2 ⟨t1, t2.H hB g.2.1, t2.L hB g.2.2.1, ?_⟩) (fun _ υ hu => ⟨hu.1, t2.tr hu.2⟩)
    unfold pc_O
    rw [t3, t4]
    exact g.2.2.2
theorem pc_svL {L t M : Nat} {e : pa_D} {y2 y4 : Int32} (hB : 26 ≤ B) (hI : pa_HI h D F W) (hLI : pa_LI h) (hL : p.1 = nI L) (L1 : pa_N h 11 < L) (L2 : L ≤ 999) (hM : M < 2 ^ 53) (ht : t < 2 ^ 30) (hE : ∀ d, d < D → pf_E (e d) M) : ∀ (m k fuel : Nat) (σ : ps_S) (r : pa_R) (N N' : Nat), k + m = W → m < fuel → pa_I1 r D F W → pa_IK r D → r 0 = nI t → pa_IB r 71 6 N → pa_IB r 77 6 N' → N + 99 * m < 2 ^ 31 → N' + m < 2 ^ 31 → pc_G h D F W B p σ (r, e) → ps_ok (qX0_run_104 B y2 (nI W) y4 fuel (nI k) σ) (fun _ τ => pc_G h D F W B p τ (pa_svs h e D F W L t k m r, e) ∧ pc_fr B σ τ) := by
  intro m
  have hW := hI.2.2.1.2
  induction m with
  | zero =>
    intro k fuel σ r N N' h1 h2 i1 iK i0 b1 b2 c1 c2 g
    obtain ⟨f, rfl⟩ : ∃ f, fuel = f + 1 := ⟨fuel - 1, by omega⟩
    rw [qX0_run_104]
    exact pz_t (nI_le (by omega) (by omega)) (pz_done ⟨g, pc_fr.rf _ _⟩)
  | succ m ih =>
    intro k fuel σ r N N' h1 h2 i1 iK i0 b1 b2 c1 c2 g
    obtain ⟨f, rfl⟩ : ∃ f, fuel = f + 1 := ⟨fuel - 1, by omega⟩
    have hw : (t + k) % W < W := Nat.mod_lt _ (by omega)
    obtain ⟨a1, a2, a3, a4, a5⟩ := pa_svI (e := e) (L := L) (w := (t + k) % W) hI i1 iK hw L2 b1 b2 (by omega) (by omega)
    rw [qX0_run_104]
    refine pz_e (nI_ge (by omega) (by omega)) ?_
    refine pz_l (g.1.Q.rdt.trans i0) ?_
    refine pz_nz (nI_ne0 (by omega) (by omega)) ?_
    rw [nI_add, nI_rem (by omega) (by omega) (by omega)]
    refine pz_bd (pc_serve hB hI hLI g.2.1 g.2.2.1 g.2.2.2 i1 i0 (by omega) iK hw hL L1 L2 hE hM g.1) (fun _ τ gt => ?_)
    rw [pz_lt, nI_1]
    refine pz_im (ih (k + 1) f τ (pa_sv h r e D F W L ((t + k) % W)) (N + 99) (N' + 1) (by omega) (by omega) a1 a2 (by rw [a5 0 (by omega)]; exact i0) a3 a4 (by omega) (by omega) ⟨gt.1, gt.2.2.H hB g.2.1, gt.2.2.L hB g.2.2.1, gt.2.1⟩) (fun _ υ hu => ⟨hu.1, gt.2.2.tr hu.2⟩)
theorem pc_rnL {n : Nat} (hB : 26 ≤ B) (hI : pa_HI h D F W) (hLI : pa_LI h) (hp : pa_PI h p) (hn : n < 2 ^ 31) : ∀ (m i fuel t : Nat) (σ : ps_S) (x : pa_R × pa_D), i + m = n → m < fuel → pa_IV h D F W t x → t + m ≤ 3000000 → pc_G h D F W B p σ x → ps_ok (qX0_run_22 B (nI n) (if p.2.2.2 = 0 then nI W else 0) fuel (nI i) σ) (fun _ τ => pc_G h D F W B p τ (pa_ticks h D F W p m x) ∧ pc_fr B σ τ) := by
  intro m
  have hD := hI.1.2
  have hW := hI.2.2.1.2
  obtain ⟨wi, hwi, w1, w2⟩ := pa_wi hI
  have hwN : pa_N h 14 = wi := by unfold pa_N; rw [hwi, nI_clamp (by omega)]
  induction m with
  | zero =>
    intro i fuel t σ x h1 h2 gI ht g
    obtain ⟨f, rfl⟩ : ∃ f, fuel = f + 1 := ⟨fuel - 1, by omega⟩
    rw [qX0_run_22]
    exact pz_t (nI_le (by omega) (by omega)) (pz_done ⟨g, pc_fr.rf _ _⟩)
  | succ m ih =>
    intro i fuel t σ x h1 h2 gI ht g
    obtain ⟨f, rfl⟩ : ∃ f, fuel = f + 1 := ⟨fuel - 1, by omega⟩
    obtain ⟨r1, r2, r3, r4, e3, er1, i1, r10, er2, i2, r20, hWE, er3, i3, r30, k3, E3, er4, i4, r40, k4, b4, c4, tk, gI'⟩ := pa_stg hI hp gI (by omega)
    rw [qf_rn]
    refine pz_e (nI_ge (by omega) (by omega)) ?_
    have g0 : pc_T D W B σ σ x.1 x.2 (pa_all x.1) (fun d => pa_don h x.1 (nI d) F) p := pc_T.of g.1.Q
    refine pc_lt g0 ?_
    rw [gI.2.1, nI_1]
    refine pc_wt g0 (fun σ1 g1 => ?_)
    have hS1 : pc_S h D F W B σ1 r1 x.2 p := by
      rw [er1]
      exact g1.1.S (pa_all_congr (fun k hk => (upd_ne _ _ (by omega)).symm)) (fun d hd => pa_don_congr hI.2.1.2 (fun k hk => (upd_ne _ _ (by omega)).symm))
    refine pz_bd (pc_writeOut hB hI hLI (t := t + 1) (by omega) i1 r10 (g1.2.H hB g.2.1) (g1.2.L hB g.2.2.1) (g1.2.O hB g.2.2.2) hS1) (fun _ σ2 g2 => ?_)
    obtain ⟨hS2, hO2, fr2⟩ := g2
    rw [← er2] at hS2
    have fr02 : pc_fr B σ σ2 := g1.2.fr.tr fr2
    have G2 : pc_G h D F W B p σ2 (r2, x.2) := ⟨hS2, fr02.H hB g.2.1, fr02.L hB g.2.2.1, hO2⟩
    -- behind the window
    have rest : ∀ σ3, pc_G h D F W B p σ3 (r3, e3) → pc_fr B σ σ3 → ps_ok (qt_rn1 B (nI n) (if p.2.2.2 = 0 then nI W else 0) (nI i) f σ3) (fun _ τ => pc_G h D F W B p τ (pa_ticks h D F W p (m + 1) x) ∧ pc_fr B σ τ) := by
      intro σ3 G3 fr3
      unfold qt_rn1
      refine pz_bd (pc_fillL' hB hI D 0 ps_N σ3 r3 (by omega) (by unfold ps_N; omega) i3.1 i3.2.1 G3) (fun _ σ4 g4 => ?_)
      rw [← er4] at g4
      by_cases c : p.2.2.2 = 0
      · rw [if_pos c] at tk ⊢
        rw [if_pos c] at ih
        refine pz_bd (pc_svL (L := p.1.toNatClampNeg) (t := t + 1) (M := 1024 + 16777216 * (t + 1)) hB hI hLI hp.1 hp.2.1 hp.2.2 (by omega) (by omega) E3 W 0 ps_N σ4 r4 (600 * t) (6 * t) (by omega) (by unfold ps_N; omega) i4 k4 r40 b4 c4 (by omega) (by omega) g4.1) (fun _ σ5 g5 => ?_)
        rw [pz_lt, nI_1]
        have G5 : pc_G h D F W B p σ5 (pa_tick h D F W p x) := by rw [tk]; exact g5.1
        exact pz_im (ih (i + 1) f (t + 1) σ5 (pa_tick h D F W p x) (by omega) (by omega) gI' (by omega) G5) (fun _ υ hu => ⟨hu.1, fr3.tr (g4.2.tr (g5.2.tr hu.2))⟩)
      · rw [if_neg c] at tk ⊢
        rw [if_neg c] at ih
        have hN : ps_N = 9999 + 1 := rfl
        have hq : qX0_run_104 B (nI n) 0 (nI i) ps_N 0 σ4 = some (0, σ4) := by
          rw [hN, qX0_run_104, if_pos (by decide)]
        refine pz_bd' hq ?_
        rw [pz_lt, nI_1]
        have G5 : pc_G h D F W B p σ4 (pa_tick h D F W p x) := by rw [tk]; exact g4.1
        exact pz_im (ih (i + 1) f (t + 1) σ4 (pa_tick h D F W p x) (by omega) (by omega) gI' (by omega) G5) (fun _ υ hu => ⟨hu.1, fr3.tr (g4.2.tr hu.2)⟩)
    refine pz_l (G2.2.1.1.2.2.2.2.1.trans hwi) ?_
    refine pz_e (nI_nle (by omega) (by omega)) ?_
    refine pz_l (hS2.Q.rdt.trans r20) ?_
    refine pz_l (G2.2.1.1.2.2.2.2.1.trans hwi) ?_
    refine pz_nz (nI_ne0 (by omega) (by omega)) ?_
    rw [nI_rem (by omega) (by omega) (by omega)]
    unfold pa_win at er3
    rw [hwN] at er3
    by_cases c : (t + 1) % wi = 0
    · rw [if_pos c] at er3
      have q1 : r3 = (pa_cws h 0 D r2 x.2).1 := by rw [← er3]
      have q2 : e3 = (pa_cws h 0 D r2 x.2).2 := by rw [← er3]
      rw [c]
      refine pz_t rfl ?_
      refine pz_bd (pc_cw hB hI (M := 1024 + 16777216 * t) (by omega) G2.2.1 hWE (pc_T.of hS2.Q)) (fun _ σ3 g3 => ?_)
      rw [← q1, ← q2] at g3
      have hb : pa_IB r2 49 D 10000 := fun j hj => by
        obtain ⟨_, v, v1, v2⟩ := hWE j (Nat.zero_le _) hj
        unfold pa_N
        rw [v2, nI_clamp (by omega)]
        exact ⟨pa_NNn (by omega), v1⟩
      have hk : pa_IK r2 D := by
        rw [er2]
        exact gI.2.2.1.congr (fun k hk => by rw [(pa_wosI (h := h) (p := p) hD D 0 r1 (by omega) i1).2 k (by omega), er1, upd_ne _ _ (by omega)])
      obtain ⟨_, _, _, ff⟩ := pa_cwsI hI (M := 1024 + 16777216 * t) (by omega) D 0 r2 x.2 (by omega) hb (pa_IB.X hb) hk (fun j hj => by rw [if_neg (by omega)]; exact (hWE j (Nat.zero_le _) hj).1)
      rw [← q1] at ff
      refine rest σ3 ⟨g3.1.S (pa_all_congr (fun k hk => (ff k (by omega)).symm)) (fun d hd => pa_don_congr hI.2.1.2 (fun k hk => (ff k (by omega)).symm)), g3.2.H hB G2.2.1, g3.2.L hB G2.2.2.1, g3.2.O hB G2.2.2.2⟩ (fr02.tr g3.2.fr)
    · rw [if_neg c] at er3
      have q1 : r3 = r2 := congrArg Prod.fst er3
      have q2 : e3 = x.2 := congrArg Prod.snd er3
      have hm := Nat.mod_lt (t + 1) (show 0 < wi by omega)
      refine pz_e (nI_ne0 (by omega) (by omega)) ?_
      exact rest σ2 (by rw [q1, q2]; exact G2) fr02
theorem pc_run {n t : Nat} {σ : ps_S} {x : pa_R × pa_D} (hB : 26 ≤ B) (hI : pa_HI h D F W) (hLI : pa_LI h) (hp : pa_PI h p) (hn : n ≤ 999) (gI : pa_IV h D F W t x) (ht : t + n ≤ 3000000) (g : pc_G h D F W B p σ x) : ps_ok (qX0_run B (nI n) σ) (fun _ τ => pc_G h D F W B p τ (pa_ticks h D F W p n x) ∧ pc_fr B σ τ) := by
  have hWe := hI.2.2.1.1
  have key := pc_rnL hB hI hLI hp (show n < 2 ^ 31 by omega) n 0 ps_N t σ x (by omega) (by unfold ps_N; omega) gI ht g
  unfold qX0_run
  refine pz_l g.1.2.2.2.2.2.2.2 ?_
  by_cases c : p.2.2.2 = 0
  · rw [if_pos c] at key
    refine pz_t c ?_
    refine pz_l (g.2.1.1.2.2.2.2.2.2.2.2.2.1.trans hWe) ?_
    exact pz_bd key (fun _ τ gt => pz_done gt)
  · rw [if_neg c] at key
    refine pz_e c ?_
    exact pz_bd key (fun _ τ gt => pz_done gt)
end RUNC
