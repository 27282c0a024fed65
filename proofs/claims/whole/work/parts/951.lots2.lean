/-! stalls: the reference -/
section LOTS2
variable {H : pa_H} {x : pa_X} {n : Nat} {P : Nat → pa_X} {im : pa_Im} {tr : pa_Tr} {tp : pa_Tp} {fl : Int32 × Int32} {σ0 σ τ : ps_S} {p : pa_P} {y : pa_X} {t : Nat}
theorem pg_kp.L (σ : ps_S) (f : Nat → Int64) : pg_kp σ (ps_rL σ 327 f) := ⟨fun k hk => ⟨rfl, ps_rL_ne _ _ (by omega), rfl⟩, fun _ _ => rfl, ps_rL_ne _ _ (by omega), rfl, fun _ _ => rfl⟩
theorem pg_Y.L (g : pg_Y H x n P im tr tp fl σ0 p τ y) (f : Nat → Int64) : pg_Y H x n P im tr tp fl σ0 p (ps_rL τ 327 f) y := g.to g.1.1 g.1.2.1 g.1.2.2.2.1 (pg_kp.L τ f)
theorem nI_lin (a n k : Nat) : nI a * nI n + nI k = nI (a * n + k) := by rw [nI_mul, nI_add]
/-- rows kept at a level -/
def pg_lv (H : pa_H) (l : Nat) (y : pa_X) (τ : ps_S) : Prop := pa_can H.2.1 H.2.2.2 (fun k => τ.1 340 (83 * l + k)) = y.1 ∧ (fun k => if k < H.2.1 then τ.2.2 341 (4 * l + k) else 0) = y.2
/-- fields that lots leave -/
def pg_lf (σ τ : ps_S) : Prop := ∀ j, j ≠ 22 → τ.1 327 j = σ.1 327 j
def pa_sp0 (H : pa_H) (p : pa_P) : Prop := p.1 = H.1 10 ∧ p.2.2 = (-1, 0)
theorem pg_lsave {l : Nat} {rec : Nat → Int32 → Int32 → Int64 → ps_S → Option (Unit × ps_S)} {y1 y2 : Int32} {y3 : Int64} (hD : H.2.1 ≤ 4) (hl : l < 3) (hp : pa_sp0 H p) (g : pg_Y H x n P im tr tp fl σ0 p τ y) : ps_ok (ps_bd (qX9_goesLots_51 rec y1 y2 y3 (nI l) ps_N 0 τ) (fun _ σ9 => qX9_goesLots_87 rec y1 y2 y3 (nI l) ps_N 0 σ9)) (fun _ υ => pg_Y H x n P im tr tp fl σ0 p υ y ∧ pg_lv H l y υ ∧ (∀ i, 83 * (l + 1) ≤ i → υ.1 340 i = τ.1 340 i) ∧ (∀ i, 4 * (l + 1) ≤ i → υ.2.2 341 i = τ.2.2 341 i) ∧ υ.2.1 = τ.2.1 ∧ υ.1 327 = τ.1 327) := by
  have l1 : qX9_goesLots_51 rec y1 y2 y3 (nI l) ps_N 0 τ = some (nI 83, ps_rI τ 340 (pz_cp (τ.1 335) (τ.1 340) 0 (83 * l) 0 83)) := pz_cpI (F := qX9_goesLots_51 rec y1 y2 y3 (nI l)) (a := fun _ x => x) (b := fun _ x => 83 * nI l + x) (fun _ => True) (fun n x σ => rfl) rfl (by decide) (fun σ k _ _ => by rw [Nat.zero_add]) (fun σ k _ _ => nI_lin 83 l k) (by decide) (show 83 * l + 83 ≤ 249 by omega) (by decide) (by decide) (Or.inl (by decide)) (fun _ _ _ _ _ => trivial) 83 0 ps_N τ (by decide) (by unfold ps_N; decide) trivial
  refine pz_bd' l1 ?_
  have r1 : ∀ k, k < 83 → (ps_rI τ 340 (pz_cp (τ.1 335) (τ.1 340) 0 (83 * l) 0 83)).1 340 (83 * l + k) = τ.1 335 k := fun k hk => by
    rw [ps_rI_at, pz_cp_in (by omega) hk, Nat.zero_add]
  have r2 : ∀ i, 83 * (l + 1) ≤ i → (ps_rI τ 340 (pz_cp (τ.1 335) (τ.1 340) 0 (83 * l) 0 83)).1 340 i = τ.1 340 i := fun i hi => by
    rw [ps_rI_at, pz_cp_out (by omega)]
  have o1 : ∀ c, c ≠ 340 → (ps_rI τ 340 (pz_cp (τ.1 335) (τ.1 340) 0 (83 * l) 0 83)).1 c = τ.1 c := fun c hc => ps_rI_ne _ _ hc
  have kp1 : pg_kp τ (ps_rI τ 340 (pz_cp (τ.1 335) (τ.1 340) 0 (83 * l) 0 83)) := pg_kp.I _ _ (by omega)
  have d1 : (ps_rI τ 340 (pz_cp (τ.1 335) (τ.1 340) 0 (83 * l) 0 83)).2 = τ.2 := rfl
  generalize ps_rI τ 340 (pz_cp (τ.1 335) (τ.1 340) 0 (83 * l) 0 83) = σ1 at r1 r2 o1 kp1 d1 ⊢
  have l2 : qX9_goesLots_87 rec y1 y2 y3 (nI l) ps_N 0 σ1 = some (nI 4, ps_rD σ1 341 (pz_cp (σ1.2.2 336) (σ1.2.2 341) 0 (4 * l) 0 4)) := pz_cpD (F := qX9_goesLots_87 rec y1 y2 y3 (nI l)) (a := fun _ x => x) (b := fun _ x => 4 * nI l + x) (fun _ => True) (fun n x σ => rfl) rfl (by decide) (fun σ k _ _ => by rw [Nat.zero_add]) (fun σ k _ _ => nI_lin 4 l k) (by decide) (show 4 * l + 4 ≤ 12 by omega) (by decide) (by decide) (Or.inl (by decide)) (fun _ _ _ _ _ => trivial) 4 0 ps_N σ1 (by decide) (by unfold ps_N; decide) trivial
  refine pz_ok_eq l2 ?_
  have e1 : ∀ k, k < 4 → (ps_rD σ1 341 (pz_cp (σ1.2.2 336) (σ1.2.2 341) 0 (4 * l) 0 4)).2.2 341 (4 * l + k) = τ.2.2 336 k := fun k hk => by
    rw [ps_rD_at, pz_cp_in (by omega) hk, Nat.zero_add, d1]
  have h23 : ∀ d, d < 4 → τ.1 327 23 ≠ nI d := fun d hd => by
    rw [← g.1.2.2.2.1.2.2.1, hp.2]
    exact fun hh => nI_m1 (by omega) hh.symm
  refine ⟨g.to ?_ ?_ ?_ (kp1.tr (pg_kp.D _ _ (by omega))), ⟨?_, ?_⟩, fun i hi => r2 i hi, fun i hi => ?_, ?_, ?_⟩
  · rw [← g.1.1]
    unfold pg_r pg_f
    show pa_can _ _ (fun k => if 25 ≤ k ∧ k < 29 ∧ σ1.1 327 23 = nI (k - 25) then σ1.1 327 24 else σ1.1 335 k) = _
    rw [o1 327 (by decide), o1 335 (by decide)]
  · rw [← g.1.2.1]
    unfold pg_e
    rw [ps_rD_ne _ _ (by decide), d1]
  · have := g.1.2.2.2.1
    unfold pg_p at this ⊢
    show σ1.1 327 21 = _ ∧ _
    rw [ps_rD_1, o1 327 (by decide)]
    exact this
  · rw [← g.1.1, pg_rows h23]
    exact pa_can_ext (fun k hk => r1 k hk)
  · rw [← g.1.2.1]
    funext k
    unfold pg_e
    by_cases c : k < H.2.1
    · rw [if_pos c, if_pos c]
      exact e1 k (by omega)
    · rw [if_neg c, if_neg c]
  · rw [ps_rD_at, pz_cp_out (by omega), d1]
  · rw [ps_rD_21, d1]
  · rw [ps_rD_1, o1 327 (by decide)]
theorem pg_lback {l : Nat} {rec : Nat → Int32 → Int32 → Int64 → ps_S → Option (Unit × ps_S)} {y1 y2 y6 : Int32} {y3 : Int64} (hI : pa_WH H) (hl : l < 3) (kp : pg_kp σ0 τ) (w : pg_W H x n P im tr tp fl τ) (h21 : τ.1 327 21 = H.1 10) (h23 : τ.1 327 23 = -1) (h25 : τ.1 327 25 ≠ 0) (lv : pg_lv H l y τ) : ps_ok (ps_bd (qX9_goesLots_181 rec y1 y2 y3 (nI l) y6 ps_N 0 τ) (fun _ σ9 => qX9_goesLots_217 rec y1 y2 y3 (nI l) y6 ps_N 0 σ9)) (fun _ υ => pg_Y H x n P im tr tp fl σ0 (H.1 10, τ.1 327 22, -1, 0) υ y ∧ υ.1 340 = τ.1 340 ∧ υ.2.2 341 = τ.2.2 341 ∧ υ.2.1 = τ.2.1 ∧ υ.1 327 = τ.1 327) := by
  have hD := hI.1.1.2
  have l1 : qX9_goesLots_181 rec y1 y2 y3 (nI l) y6 ps_N 0 τ = some (nI 83, ps_rI τ 335 (pz_cp (τ.1 340) (τ.1 335) (83 * l) 0 0 83)) := pz_cpI (F := qX9_goesLots_181 rec y1 y2 y3 (nI l) y6) (a := fun _ x => 83 * nI l + x) (b := fun _ x => x) (fun _ => True) (fun n x σ => rfl) rfl (by decide) (fun σ k _ _ => nI_lin 83 l k) (fun σ k _ _ => by rw [Nat.zero_add]) (show 83 * l + 83 ≤ 249 by omega) (by decide) (by decide) (by decide) (Or.inl (by decide)) (fun _ _ _ _ _ => trivial) 83 0 ps_N τ (by decide) (by unfold ps_N; decide) trivial
  refine pz_bd' l1 ?_
  have r1 : ∀ k, k < 83 → (ps_rI τ 335 (pz_cp (τ.1 340) (τ.1 335) (83 * l) 0 0 83)).1 335 k = τ.1 340 (83 * l + k) := fun k hk => by
    have := pz_cp_in (s := τ.1 340) (d := τ.1 335) (A := 83 * l) (B := 0) (i := 0) (N := 83) (k := k) (by omega) hk
    rw [Nat.zero_add] at this
    rw [ps_rI_at, this]
  have o1 : ∀ c, c ≠ 335 → (ps_rI τ 335 (pz_cp (τ.1 340) (τ.1 335) (83 * l) 0 0 83)).1 c = τ.1 c := fun c hc => ps_rI_ne _ _ hc
  have kp1 : pg_kp τ (ps_rI τ 335 (pz_cp (τ.1 340) (τ.1 335) (83 * l) 0 0 83)) := pg_kp.I _ _ (by omega)
  have d1 : (ps_rI τ 335 (pz_cp (τ.1 340) (τ.1 335) (83 * l) 0 0 83)).2 = τ.2 := rfl
  generalize ps_rI τ 335 (pz_cp (τ.1 340) (τ.1 335) (83 * l) 0 0 83) = σ1 at r1 o1 kp1 d1 ⊢
  have l2 : qX9_goesLots_217 rec y1 y2 y3 (nI l) y6 ps_N 0 σ1 = some (nI 4, ps_rD σ1 336 (pz_cp (σ1.2.2 341) (σ1.2.2 336) (4 * l) 0 0 4)) := pz_cpD (F := qX9_goesLots_217 rec y1 y2 y3 (nI l) y6) (a := fun _ x => 4 * nI l + x) (b := fun _ x => x) (fun _ => True) (fun n x σ => rfl) rfl (by decide) (fun σ k _ _ => nI_lin 4 l k) (fun σ k _ _ => by rw [Nat.zero_add]) (show 4 * l + 4 ≤ 12 by omega) (by decide) (by decide) (by decide) (Or.inl (by decide)) (fun _ _ _ _ _ => trivial) 4 0 ps_N σ1 (by decide) (by unfold ps_N; decide) trivial
  refine pz_ok_eq l2 ?_
  have e1 : ∀ k, k < 4 → (ps_rD σ1 336 (pz_cp (σ1.2.2 341) (σ1.2.2 336) (4 * l) 0 0 4)).2.2 336 k = τ.2.2 341 (4 * l + k) := fun k hk => by
    have := pz_cp_in (s := σ1.2.2 341) (d := σ1.2.2 336) (A := 4 * l) (B := 0) (i := 0) (N := 4) (k := k) (by omega) hk
    rw [Nat.zero_add] at this
    rw [ps_rD_at, this, d1]
  have kp2 : pg_kp τ (ps_rD σ1 336 (pz_cp (σ1.2.2 341) (σ1.2.2 336) (4 * l) 0 0 4)) := kp1.tr (pg_kp.D _ _ (by omega))
  have w2 := kp2.W w
  have e327 : (ps_rD σ1 336 (pz_cp (σ1.2.2 341) (σ1.2.2 336) (4 * l) 0 0 4)).1 327 = τ.1 327 := by rw [ps_rD_1, o1 327 (by decide)]
  refine ⟨⟨⟨?_, ?_, w2.1.1, ⟨?_, fun d hd => ?_, ?_, ?_⟩, pg_fr.rf _⟩, kp.tr kp2, w2⟩, ?_, ?_, ?_, e327⟩
  · rw [pg_rows (fun d hd => by rw [e327, h23]; exact fun hh => nI_m1 (by omega) hh.symm), ← lv.1]
    exact pa_can_ext (fun k hk => r1 k hk)
  · rw [← lv.2]
    funext k
    unfold pg_e
    by_cases c : k < H.2.1
    · rw [if_pos c, if_pos c]
      exact e1 k (by omega)
    · rw [if_neg c, if_neg c]
  · rw [e327, h21]
  · rw [e327]
  · rw [e327, h23]
  · rw [e327]
    exact ⟨fun _ => h25, fun _ => rfl⟩
  · rw [ps_rD_1, o1 340 (by decide)]
  · rw [ps_rD_ne _ _ (by decide), d1]
  · rw [ps_rD_21, d1]
theorem pz_assoc {α β γ : Type} {A : Option (α × ps_S)} {f : α → ps_S → Option (β × ps_S)} {g : β → ps_S → Option (γ × ps_S)} {R : γ → ps_S → Prop} (h : ps_ok (ps_bd (ps_bd A f) g) R) : ps_ok (ps_bd A (fun a s => ps_bd (f a s) g)) R := by
  cases A with
  | none => exact h
  | some z => exact h
theorem sp_su_hd {g : Nat → Nat} {a m : Nat} : sp_su (fun i => g (a + i)) (m + 1) = g a + sp_su (fun i => g (a + 1 + i)) m := by
  have h := sp_su_block (g := fun i => g (a + i)) (N := 1) m
  rw [Nat.add_comm 1 m] at h
  rw [h]
  have e : sp_su (fun i => g (a + (1 + i))) m = sp_su (fun i => g (a + 1 + i)) m := sp_su_congr (fun i _ => by rw [Nat.add_assoc])
  rw [e]
  show 0 + g (a + 0) + _ = _
  rw [Nat.zero_add, Nat.add_zero]
def pg_post (H : pa_H) (x : pa_X) (n : Nat) (P : Nat → pa_X) (im : pa_Im) (tr : pa_Tr) (tp : pa_Tp) (fl : Int32 × Int32) (σ0 : ps_S) (l : Nat) (sb sa : Nat) (τ υ : ps_S) : Prop :=
  pg_kp σ0 υ ∧ pg_W H x n P im tr tp fl υ ∧ pg_lf τ υ ∧ (∀ i, 83 * l ≤ i → υ.1 340 i = τ.1 340 i) ∧ (∀ i, 4 * l ≤ i → υ.2.2 341 i = τ.2.2 341 i) ∧ υ.2.1 327 33 = τ.2.1 327 33 + lN sb ∧ υ.2.1 327 34 = τ.2.1 327 34 + lN sa
theorem pg_lots {k : Nat} (hI : pa_WH H) : ∀ (l fuel t likely : Nat) (p : pa_P) (τ : ps_S) (y : pa_X), l < fuel → l ≤ 3 → pa_sp0 H p → pa_V H t y → t + 10 * l ≤ 3000000 → pg_Y H x n P im tr tp fl σ0 p τ y → ps_ok (rc_X9l fuel 0 (nI k) (nI l) (lN likely) τ) (fun _ υ => pg_post H x n P im tr tp fl σ0 l (likely * sp_L H (pa_fk k) l y) (likely * sp_L H pa_fa l y) τ υ) := by
  have hD := hI.1.1.2
  have hDe := hI.1.1.1
  intro l
  induction l with
  | zero =>
    intro fuel t likely p τ y h1 h2 hp iv ht g
    obtain ⟨f, rfl⟩ : ∃ f, fuel = f + 1 := ⟨fuel - 1, by omega⟩
    obtain ⟨ea, ba⟩ := pa_faE iv
    rw [rc_X9l]
    refine pz_t rfl ?_
    unfold bX9_goesLots
    refine pz_t rfl ?_
    rw [pz_lt]
    refine pz_bd' g.1.all ?_
    have go : ∀ b : Nat, b = likely * pa_fk k y → ps_ok (ps_let (ps_rL τ 327 (vp_updL (τ.2.1 327) 33 (τ.2.1 327 33 + lN b))) fun σ59 => ps_let (σ59.2.1 327 34) fun v60 => ps_bd (qX9_allNow σ59) (fun v61 σ62 => ps_let (ps_rL σ62 327 (vp_updL (σ62.2.1 327) 34 (v60 + lN likely * v61.toInt64))) fun σ63 => some ((), σ63))) (fun _ υ => pg_post H x n P im tr tp fl σ0 0 (likely * sp_L H (pa_fk k) 0 y) (likely * sp_L H pa_fa 0 y) τ υ) := by
      intro b hb
      rw [pz_lt]
      have g2 := g.L (vp_updL (τ.2.1 327) 33 (τ.2.1 327 33 + lN b))
      refine pz_l (show _ = τ.2.1 327 34 by rw [ps_rL_at, vl_ne _ _ (by decide)]) ?_
      refine pz_bd' g2.1.all ?_
      rw [ea, nI_l (by omega), lN_mul, pz_lt]
      have g3 := g2.L (vp_updL ((ps_rL τ 327 (vp_updL (τ.2.1 327) 33 (τ.2.1 327 33 + lN b))).2.1 327) 34 (τ.2.1 327 34 + lN (likely * pa_fa y)))
      refine pz_done ⟨g3.2.1, g3.2.2, fun j _ => rfl, fun i _ => rfl, fun i _ => rfl, ?_, ?_⟩
      · rw [ps_rL_at, vl_ne _ _ (by decide), ps_rL_at, vl_self, hb]
        rfl
      · rw [ps_rL_at, vl_self]
        rfl
    by_cases c : nI k ≤ pa_all y.1
    · refine pz_t c ?_
      have e0 : (0 : Int64) = lN 0 := rfl
      rw [e0]
      exact go 0 (by unfold pa_fk; rw [if_pos c]; omega)
    · refine pz_e c ?_
      exact go likely (by unfold pa_fk; rw [if_neg c]; omega)
  | succ l ih =>
    intro fuel t likely p τ y h1 h2 hp iv ht g
    obtain ⟨f, rfl⟩ : ∃ f, fuel = f + 1 := ⟨fuel - 1, by omega⟩
    rw [rc_X9l]
    refine pz_t rfl ?_
    unfold bX9_goesLots
    refine pz_e (nI_ne0 (by omega) (by omega)) ?_
    rw [nI_pred, pz_lt]
    -- the lots, one by one
    have loop : ∀ (m a fuel2 : Nat) (q : pa_P) (υ : ps_S), a + m = H.2.1 + 1 → m < fuel2 → pa_sp0 H q → pg_Y H x n P im tr tp fl σ0 q υ y → pg_lv H l y υ → ps_ok (qX9_goesLots_121 (rc_X9l f) (nI k) (nI (l + 1)) (lN likely) (nI l) fuel2 (nI a) υ) (fun _ ω => pg_post H x n P im tr tp fl σ0 (l + 1) (likely * sp_su (fun i => pa_om H.2.1 (a + i) * sp_L H (pa_fk k) l (pa_sl H (a + i) y)) m) (likely * sp_su (fun i => pa_om H.2.1 (a + i) * sp_L H pa_fa l (pa_sl H (a + i) y)) m) υ ω) := by
      intro m
      induction m with
      | zero =>
        intro a fuel2 q υ e1 e2 hq gu lv
        obtain ⟨f2, rfl⟩ : ∃ f, fuel2 = f + 1 := ⟨fuel2 - 1, by omega⟩
        rw [qX9_goesLots_121]
        refine pg_hl gu.1 1 (by omega) ?_
        rw [hDe]
        refine pz_t (nI_lt (by omega) (by omega)) (pz_done ⟨gu.2.1, gu.2.2, fun j _ => rfl, fun i _ => rfl, fun i _ => rfl, ?_, ?_⟩)
        · show _ = _ + (0 : Int64); rw [Int64.add_zero]
        · show _ = _ + (0 : Int64); rw [Int64.add_zero]
      | succ m ihm =>
        intro a fuel2 q υ e1 e2 hq gu lv
        obtain ⟨f2, rfl⟩ : ∃ f, fuel2 = f + 1 := ⟨fuel2 - 1, by omega⟩
        rw [qX9_goesLots_121]
        refine pg_hl gu.1 1 (by omega) ?_
        rw [hDe]
        refine pz_e (nI_nlt (by omega) (by omega)) ?_
        rw [pz_lt]
        have g2 : pg_Y H x n P im tr tp fl σ0 (pa_ps H a) (ps_rI υ 327 (upd (υ.1 327) 22 (nI a))) y := by
          obtain ⟨q1, q2, q3, q4⟩ := gu.1.2.2.2.1
          refine gu.to ?_ gu.1.2.1 ⟨?_, fun d hd => ?_, ?_, ?_⟩ (pg_kp.F _ _ (by decide))
          · rw [← gu.1.1]
            unfold pg_r pg_f
            rw [ps_rI_at, ps_rI_ne _ _ (by decide), upd_ne _ _ (by decide), upd_ne _ _ (by decide)]
          · rw [ps_rI_at, upd_ne _ _ (by decide), q1, hq.1]; rfl
          · rw [ps_rI_at, upd_self]
            show (if a < H.2.1 then nI a else -1) = nI d ↔ _
            by_cases c : a < H.2.1
            · rw [if_pos c]
            · rw [if_neg c]
              refine ⟨fun hh => absurd hh.symm (nI_m1 (by omega)), fun hh => ?_⟩
              have := (nI_eq (by omega) (by omega)).mp hh
              omega
          · rw [ps_rI_at, upd_ne _ _ (by decide), ← q3, hq.2]; rfl
          · rw [ps_rI_at, upd_ne _ _ (by decide), ← q4, hq.2]
            exact ⟨fun _ => rfl, fun _ => rfl⟩
        have fr2 : pg_lf υ (ps_rI υ 327 (upd (υ.1 327) 22 (nI a))) := fun j hj => by rw [ps_rI_at, upd_ne _ _ hj]
        have c2 : (ps_rI υ 327 (upd (υ.1 327) 22 (nI a))).1 340 = υ.1 340 := ps_rI_ne _ _ (by decide)
        have c3 : (ps_rI υ 327 (upd (υ.1 327) 22 (nI a))).2 = υ.2 := rfl
        generalize ps_rI υ 327 (upd (υ.1 327) 22 (nI a)) = υ2 at g2 fr2 c2 c3 ⊢
        -- ten ticks, with all that they leave
        have tick := pg_ticks (n := 10) (σ0 := υ2) hI.1 hI.2 (pa_psI hI a) (by decide) iv (show t + 10 ≤ 3000000 by omega) g2.1
        refine pz_bd tick (fun _ υ3 g3 => ?_)
        have fr3 := g3.2.2.2.2
        have kp3 := fr3.kp
        have gy3 : pg_Y H x n P im tr tp fl σ0 (pa_ps H a) υ3 (pa_sl H a y) := ⟨g3.re (pg_fr.rf _), g2.2.1.tr kp3, kp3.W g2.2.2⟩
        have iv3 : pa_V H (t + 10) (pa_sl H a y) := iv.tks hI (pa_psI hI a) (by omega)
        have x340 : υ3.1 340 = υ.1 340 := (fr3.1 340 (by decide) (by decide) (by decide)).trans c2
        have x341 : υ3.2.2 341 = υ.2.2 341 := (fr3.2.2 341 (by decide)).trans (by rw [c3])
        have x21 : υ3.2.1 = υ.2.1 := fr3.2.1.trans (by rw [c3])
        have xlf : pg_lf υ υ3 := fun j hj => by rw [fr3.1 327 (by decide) (by decide) (by decide)]; exact fr2 j hj
        refine pg_hl gy3.1 1 (by omega) ?_
        rw [hDe]
        -- behind the rest of this lot
        have rest : ∀ lk : Nat, lk = likely * pa_om H.2.1 a → ∀ υ4, pg_post H x n P im tr tp fl σ0 l (lk * sp_L H (pa_fk k) l (pa_sl H a y)) (lk * sp_L H pa_fa l (pa_sl H a y)) υ3 υ4 → ps_ok (ps_bd (qX9_goesLots_181 (rc_X9l f) (nI k) (nI (l + 1)) (lN likely) (nI l) (nI a) ps_N 0 υ4) (fun _ σ35 => ps_bd (qX9_goesLots_217 (rc_X9l f) (nI k) (nI (l + 1)) (lN likely) (nI l) (nI a) ps_N 0 σ35) (fun _ σ43 => ps_let (nI a + 1) fun v45 => qX9_goesLots_121 (rc_X9l f) (nI k) (nI (l + 1)) (lN likely) (nI l) f2 v45 σ43))) (fun _ ω => pg_post H x n P im tr tp fl σ0 (l + 1) (likely * sp_su (fun i => pa_om H.2.1 (a + i) * sp_L H (pa_fk k) l (pa_sl H (a + i) y)) (m + 1)) (likely * sp_su (fun i => pa_om H.2.1 (a + i) * sp_L H pa_fa l (pa_sl H (a + i) y)) (m + 1)) υ ω) := by
          intro lk elk υ4 hpost
          obtain ⟨p1, p2, p3, p4, p5, p6, p7⟩ := hpost
          obtain ⟨q1, q2, q3, q4⟩ := gu.1.2.2.2.1
          have lf4 : pg_lf υ υ4 := fun j hj => (p3 j hj).trans (xlf j hj)
          have lv4 : pg_lv H l y υ4 := by
            refine ⟨?_, ?_⟩
            · rw [← lv.1]
              exact pa_can_ext (fun i hi => by rw [p4 _ (by omega), x340])
            · rw [← lv.2]
              funext i
              by_cases c : i < H.2.1
              · rw [if_pos c, if_pos c, p5 _ (by omega), x341]
              · rw [if_neg c, if_neg c]
          have b := pg_lback (rec := rc_X9l f) (y1 := nI k) (y2 := nI (l + 1)) (y6 := nI a) (y3 := lN likely) hI (show l < 3 by omega) p1 p2 (by rw [lf4 21 (by decide), q1, hq.1]) (by rw [lf4 23 (by decide), ← q3, hq.2]) (by rw [lf4 25 (by decide)]; exact q4.mp (by rw [hq.2])) lv4
          refine pz_assoc (pz_bd b (fun _ υ6 hb => ?_))
          obtain ⟨g6, e340, e341, e21, e327⟩ := hb
          have lv6 : pg_lv H l y υ6 := by
            unfold pg_lv
            rw [e340, e341]
            exact lv4
          rw [pz_lt, nI_1]
          refine pz_im (ihm (a + 1) f2 (H.1 10, υ4.1 327 22, -1, 0) υ6 (by omega) (by omega) ⟨rfl, rfl⟩ g6 lv6) (fun _ ω hω => ?_)
          obtain ⟨o1, o2, o3, o4, o5, o6, o7⟩ := hω
          refine ⟨o1, o2, fun j hj => ?_, fun i hi => ?_, fun i hi => ?_, ?_, ?_⟩
          · rw [o3 j hj, e327]; exact lf4 j hj
          · rw [o4 i hi, e340, p4 i (by omega), x340]
          · rw [o5 i hi, e341, p5 i (by omega), x341]
          · rw [o6, e21, p6, x21, Int64.add_assoc, lN_add, sp_su_hd (g := fun i => pa_om H.2.1 i * sp_L H (pa_fk k) l (pa_sl H i y)), Nat.mul_add, elk, Nat.mul_assoc]
          · rw [o7, e21, p7, x21, Int64.add_assoc, lN_add, sp_su_hd (g := fun i => pa_om H.2.1 i * sp_L H pa_fa l (pa_sl H i y)), Nat.mul_add, elk, Nat.mul_assoc]
        by_cases c : a < H.2.1
        · refine pz_e (nI_ge c (by omega)) ?_
          refine pz_bd (ih f (t + 10) likely (pa_ps H a) υ3 (pa_sl H a y) (by omega) (by omega) ⟨rfl, rfl⟩ iv3 (by omega) gy3) (fun _ υ4 h4 => ?_)
          exact rest likely (by unfold pa_om; rw [if_pos c, Nat.mul_one]) υ4 h4
        · refine pz_t (nI_le (by omega) (by omega)) ?_
          refine pg_hl gy3.1 1 (by omega) ?_
          have e10 : (10 : Int32) - nI H.2.1 = nI (10 - H.2.1) := nI_sub (a := 10) (b := H.2.1) (by omega)
          rw [hDe, e10, nI_l (by omega), lN_mul]
          refine pz_bd (ih f (t + 10) (likely * (10 - H.2.1)) (pa_ps H a) υ3 (pa_sl H a y) (by omega) (by omega) ⟨rfl, rfl⟩ iv3 (by omega) gy3) (fun _ υ4 h4 => ?_)
          exact rest (likely * (10 - H.2.1)) (by unfold pa_om; rw [if_neg c]) υ4 h4
    refine pz_assoc (pz_bd (pg_lsave (rec := rc_X9l f) (y1 := nI k) (y2 := nI (l + 1)) (y3 := lN likely) hD (show l < 3 by omega) hp g) (fun _ υ hs => ?_))
    obtain ⟨s1, s2, s3, s4, s5, s6⟩ := hs
    refine pz_bd (loop (H.2.1 + 1) 0 ps_N p υ (by omega) (by unfold ps_N; omega) hp s1 s2) (fun _ ω hω => ?_)
    obtain ⟨o1, o2, o3, o4, o5, o6, o7⟩ := hω
    refine pz_done ⟨o1, o2, fun j hj => by rw [o3 j hj, s6], fun i hi => by rw [o4 i hi, s3 i hi], fun i hi => by rw [o5 i hi, s4 i hi], ?_, ?_⟩
    · rw [o6, s5, sp_L]
      congr 3
      exact sp_su_congr (fun i _ => by rw [Nat.zero_add])
    · rw [o7, s5, sp_L]
      congr 3
      exact sp_su_congr (fun i _ => by rw [Nat.zero_add])
end LOTS2
