/-! steps over a state of the class: its row, what stands beside it, and the rest as it was -/
def pc_fb (B : Nat) (σ τ : ps_S) : Prop := (∀ k, k < B ∨ B + 18 ≤ k → τ.1 k = σ.1 k) ∧ τ.2.1 = σ.2.1 ∧ ∀ k, k < B ∨ B + 18 ≤ k → τ.2.2 k = σ.2.2 k
theorem pc_fb.rf (B : Nat) (σ : ps_S) : pc_fb B σ σ := ⟨fun _ _ => rfl, rfl, fun _ _ => rfl⟩
theorem pc_fb.tr {B : Nat} {σ τ υ : ps_S} (h : pc_fb B σ τ) (g : pc_fb B τ υ) : pc_fb B σ υ := ⟨fun k a => (g.1 k a).trans (h.1 k a), g.2.1.trans h.2.1, fun k a => (g.2.2 k a).trans (h.2.2 k a)⟩
theorem pc_fb.fr {B : Nat} {σ τ : ps_S} (h : pc_fb B σ τ) : pc_fr B σ τ := ⟨fun k a _ => h.1 k a, h.2.1, h.2.2⟩
theorem pc_fb.I {B : Nat} (σ : ps_S) (o : Nat) (f : pa_R) (ho : o < 18) : pc_fb B σ (ps_rI σ (B + o) f) := ⟨fun j a => ps_rI_ne _ _ (by omega), rfl, fun _ _ => rfl⟩
theorem pc_fb.D {B : Nat} (σ : ps_S) (f : pa_D) : pc_fb B σ (ps_rD σ (B + 6) f) := ⟨fun j a => rfl, rfl, fun _ h => ps_rD_ne _ _ (by omega)⟩
theorem pc_fb.H {h : pa_R} {D F W B : Nat} {σ τ : ps_S} (g : pc_fb B σ τ) (hB : 26 ≤ B) (hH : pc_H 12 h D F W σ) : pc_H 12 h D F W τ := g.fr.H hB hH
theorem pc_fb.L {h : pa_R} {B : Nat} {σ τ : ps_S} (g : pc_fb B σ τ) (hB : 26 ≤ B) (hL : pc_L 12 h σ) : pc_L 12 h τ := by
  unfold pc_L
  rw [g.1 (12 + 7) (by omega), g.1 (12 + 8) (by omega)]
  exact hL
theorem pc_fb.O {h : pa_R} {B : Nat} {σ τ : ps_S} (g : pc_fb B σ τ) (hB : 26 ≤ B) (hO : pc_O h σ) : pc_O h τ := by
  unfold pc_O
  rw [g.1 23 (by omega), g.1 24 (by omega)]
  exact hO
theorem pc_fr.L {h : pa_R} {B : Nat} {σ τ : ps_S} (g : pc_fr B σ τ) (hB : 26 ≤ B) (hL : pc_L 12 h σ) : pc_L 12 h τ := by
  unfold pc_L
  rw [g.1 (12 + 7) (by omega) (by omega), g.1 (12 + 8) (by omega) (by omega)]
  exact hL
/-- the row; the estimates; all; dirty by devices; suppositions -/
def pc_Q (D W B : Nat) (σ : ps_S) (r : pa_R) (e : pa_D) (a : Int32) (dd : pa_R) (p : pa_P) : Prop :=
  pc_r D W B σ = r ∧ pc_e D B σ = e ∧ σ.1 B 9 = a ∧ (∀ d, d < 4 → σ.1 (B + 4) d = dd d) ∧ σ.1 B 10 = p.1 ∧ σ.1 B 11 = p.2.1 ∧ σ.1 B 12 = p.2.2.1 ∧ σ.1 B 13 = p.2.2.2
section PCQ1
variable {h : pa_R} {D F W B i : Nat} {σ : ps_S} {r : pa_R} {e : pa_D} {a v : Int32} {dd : pa_R} {p : pa_P}
theorem pc_S.Q (g : pc_S h D F W B σ r e p) : pc_Q D W B σ r e (pa_all r) (fun d => pa_don h r (nI d) F) p := g
theorem pc_Q.S (g : pc_Q D W B σ r e a dd p) (ha : a = pa_all r) (hd : ∀ d, d < 4 → dd d = pa_don h r (nI d) F) : pc_S h D F W B σ r e p := by
  obtain ⟨g1, g2, g3, g4, g5⟩ := g
  exact ⟨g1, g2, g3.trans ha, fun d h => (g4 d h).trans (hd d h), g5⟩
theorem pc_Q.all (g : pc_Q D W B σ r e a dd p) : pc_Q D W B (ps_rI σ B (upd (σ.1 B) 9 v)) r e v dd p := by
  obtain ⟨g1, g2, g3, g4, g5, g6, g7, g8⟩ := g
  refine ⟨by rw [pc_up0 (by decide), g1], g2, by rw [ps_rI_at, upd_self], fun d hd => by rw [ps_rI_ne _ _ (by omega)]; exact g4 d hd, ?_, ?_, ?_, ?_⟩
  · rw [ps_rI_at, upd_ne _ _ (by decide)]; exact g5
  · rw [ps_rI_at, upd_ne _ _ (by decide)]; exact g6
  · rw [ps_rI_at, upd_ne _ _ (by decide)]; exact g7
  · rw [ps_rI_at, upd_ne _ _ (by decide)]; exact g8
theorem pc_Q.tick (g : pc_Q D W B σ r e a dd p) : pc_Q D W B (ps_rI σ B (upd (σ.1 B) 8 v)) (upd r 0 v) e a dd p := by
  obtain ⟨g1, g2, g3, g4, g5, g6, g7, g8⟩ := g
  refine ⟨by rw [pc_upt, g1], g2, by rw [ps_rI_at, upd_ne _ _ (by decide)]; exact g3, fun d hd => by rw [ps_rI_ne _ _ (by omega)]; exact g4 d hd, ?_, ?_, ?_, ?_⟩
  · rw [ps_rI_at, upd_ne _ _ (by decide)]; exact g5
  · rw [ps_rI_at, upd_ne _ _ (by decide)]; exact g6
  · rw [ps_rI_at, upd_ne _ _ (by decide)]; exact g7
  · rw [ps_rI_at, upd_ne _ _ (by decide)]; exact g8
theorem pc_Q.don (g : pc_Q D W B σ r e a dd p) : pc_Q D W B (ps_rI σ (B + 4) (upd (σ.1 (B + 4)) i v)) r e a (upd dd i v) p := by
  obtain ⟨g1, g2, g3, g4, g5⟩ := g
  refine ⟨by rw [pc_up4, g1], g2, by rw [ps_rI_ne _ _ (by omega)]; exact g3, fun d hd => ?_, by rw [ps_rI_ne _ _ (by omega)]; exact g5⟩
  rw [ps_rI_at]
  unfold upd
  by_cases c : d = i
  · rw [if_pos c, if_pos c]
  · rw [if_neg c, if_neg c]; exact g4 d hd
theorem pc_Q.est (g : pc_Q D W B σ r e a dd p) {x : UInt64} (hi : i < D) : pc_Q D W B (ps_rD σ (B + 6) (vf_upd (σ.2.2 (B + 6)) i x)) r (vf_upd e i x) a dd p := by
  obtain ⟨g1, g2, g3⟩ := g
  exact ⟨g1, by rw [pc_eU hi, g2], g3⟩
theorem pc_Q.rdt (g : pc_Q D W B σ r e a dd p) : σ.1 B 8 = r 0 := by rw [← g.1, pc_rdt]
theorem pc_Q.up11 (g : pc_Q D W B σ r e a dd p) (hi : i < 12) : pc_Q D W B (ps_rI σ (B + 11) (upd (σ.1 (B + 11)) i v)) (upd r (1 + i) v) e a dd p := by
  obtain ⟨g1, g2, g3, g4, g5⟩ := g
  exact ⟨by rw [pc_up11 hi, g1], g2, by rw [ps_rI_ne _ _ (by omega)]; exact g3, fun d hd => by rw [ps_rI_ne _ _ (by omega)]; exact g4 d hd, by rw [ps_rI_ne _ _ (by omega)]; exact g5⟩
theorem pc_Q.rd11 (g : pc_Q D W B σ r e a dd p) (hi : i < 12) : σ.1 (B + 11) i = r (1 + i) := by rw [← g.1, pc_rd11 hi]
theorem pc_Q.up12 (g : pc_Q D W B σ r e a dd p) (hi : i < 12) : pc_Q D W B (ps_rI σ (B + 12) (upd (σ.1 (B + 12)) i v)) (upd r (13 + i) v) e a dd p := by
  obtain ⟨g1, g2, g3, g4, g5⟩ := g
  exact ⟨by rw [pc_up12 hi, g1], g2, by rw [ps_rI_ne _ _ (by omega)]; exact g3, fun d hd => by rw [ps_rI_ne _ _ (by omega)]; exact g4 d hd, by rw [ps_rI_ne _ _ (by omega)]; exact g5⟩
theorem pc_Q.rd12 (g : pc_Q D W B σ r e a dd p) (hi : i < 12) : σ.1 (B + 12) i = r (13 + i) := by rw [← g.1, pc_rd12 hi]
theorem pc_Q.up2 (g : pc_Q D W B σ r e a dd p) (hD : D ≤ 4) (hi : i < D) : pc_Q D W B (ps_rI σ (B + 2) (upd (σ.1 (B + 2)) i v)) (upd r (25 + i) v) e a dd p := by
  obtain ⟨g1, g2, g3, g4, g5⟩ := g
  exact ⟨by rw [pc_up2 hD hi, g1], g2, by rw [ps_rI_ne _ _ (by omega)]; exact g3, fun d hd => by rw [ps_rI_ne _ _ (by omega)]; exact g4 d hd, by rw [ps_rI_ne _ _ (by omega)]; exact g5⟩
theorem pc_Q.rd2 (g : pc_Q D W B σ r e a dd p) (hD : D ≤ 4) (hi : i < D) : σ.1 (B + 2) i = r (25 + i) := by rw [← g.1, pc_rd2 hD hi]
theorem pc_Q.up3 (g : pc_Q D W B σ r e a dd p) (hi : i < 4) : pc_Q D W B (ps_rI σ (B + 3) (upd (σ.1 (B + 3)) i v)) (upd r (29 + i) v) e a dd p := by
  obtain ⟨g1, g2, g3, g4, g5⟩ := g
  exact ⟨by rw [pc_up3 hi, g1], g2, by rw [ps_rI_ne _ _ (by omega)]; exact g3, fun d hd => by rw [ps_rI_ne _ _ (by omega)]; exact g4 d hd, by rw [ps_rI_ne _ _ (by omega)]; exact g5⟩
theorem pc_Q.rd3 (g : pc_Q D W B σ r e a dd p) (hi : i < 4) : σ.1 (B + 3) i = r (29 + i) := by rw [← g.1, pc_rd3 hi]
theorem pc_Q.up5 (g : pc_Q D W B σ r e a dd p) (hi : i < 4) : pc_Q D W B (ps_rI σ (B + 5) (upd (σ.1 (B + 5)) i v)) (upd r (33 + i) v) e a dd p := by
  obtain ⟨g1, g2, g3, g4, g5⟩ := g
  exact ⟨by rw [pc_up5 hi, g1], g2, by rw [ps_rI_ne _ _ (by omega)]; exact g3, fun d hd => by rw [ps_rI_ne _ _ (by omega)]; exact g4 d hd, by rw [ps_rI_ne _ _ (by omega)]; exact g5⟩
theorem pc_Q.rd5 (g : pc_Q D W B σ r e a dd p) (hi : i < 4) : σ.1 (B + 5) i = r (33 + i) := by rw [← g.1, pc_rd5 hi]
theorem pc_Q.up7 (g : pc_Q D W B σ r e a dd p) (hi : i < 4) : pc_Q D W B (ps_rI σ (B + 7) (upd (σ.1 (B + 7)) i v)) (upd r (37 + i) v) e a dd p := by
  obtain ⟨g1, g2, g3, g4, g5⟩ := g
  exact ⟨by rw [pc_up7 hi, g1], g2, by rw [ps_rI_ne _ _ (by omega)]; exact g3, fun d hd => by rw [ps_rI_ne _ _ (by omega)]; exact g4 d hd, by rw [ps_rI_ne _ _ (by omega)]; exact g5⟩
theorem pc_Q.rd7 (g : pc_Q D W B σ r e a dd p) (hi : i < 4) : σ.1 (B + 7) i = r (37 + i) := by rw [← g.1, pc_rd7 hi]
theorem pc_Q.up10 (g : pc_Q D W B σ r e a dd p) (hi : i < 4) : pc_Q D W B (ps_rI σ (B + 10) (upd (σ.1 (B + 10)) i v)) (upd r (41 + i) (v + 1)) e a dd p := by
  obtain ⟨g1, g2, g3, g4, g5⟩ := g
  exact ⟨by rw [pc_up10 hi, g1], g2, by rw [ps_rI_ne _ _ (by omega)]; exact g3, fun d hd => by rw [ps_rI_ne _ _ (by omega)]; exact g4 d hd, by rw [ps_rI_ne _ _ (by omega)]; exact g5⟩
theorem pc_Q.rd10 (g : pc_Q D W B σ r e a dd p) (hi : i < 4) : σ.1 (B + 10) i + 1 = r (41 + i) := by rw [← g.1, pc_rd10 hi]
theorem pc_Q.up8 (g : pc_Q D W B σ r e a dd p) (hi : i < 4) : pc_Q D W B (ps_rI σ (B + 8) (upd (σ.1 (B + 8)) i v)) (upd r (45 + i) v) e a dd p := by
  obtain ⟨g1, g2, g3, g4, g5⟩ := g
  exact ⟨by rw [pc_up8 hi, g1], g2, by rw [ps_rI_ne _ _ (by omega)]; exact g3, fun d hd => by rw [ps_rI_ne _ _ (by omega)]; exact g4 d hd, by rw [ps_rI_ne _ _ (by omega)]; exact g5⟩
theorem pc_Q.rd8 (g : pc_Q D W B σ r e a dd p) (hi : i < 4) : σ.1 (B + 8) i = r (45 + i) := by rw [← g.1, pc_rd8 hi]
theorem pc_Q.up9 (g : pc_Q D W B σ r e a dd p) (hi : i < 4) : pc_Q D W B (ps_rI σ (B + 9) (upd (σ.1 (B + 9)) i v)) (upd r (49 + i) v) e a dd p := by
  obtain ⟨g1, g2, g3, g4, g5⟩ := g
  exact ⟨by rw [pc_up9 hi, g1], g2, by rw [ps_rI_ne _ _ (by omega)]; exact g3, fun d hd => by rw [ps_rI_ne _ _ (by omega)]; exact g4 d hd, by rw [ps_rI_ne _ _ (by omega)]; exact g5⟩
theorem pc_Q.rd9 (g : pc_Q D W B σ r e a dd p) (hi : i < 4) : σ.1 (B + 9) i = r (49 + i) := by rw [← g.1, pc_rd9 hi]
theorem pc_Q.up13 (g : pc_Q D W B σ r e a dd p) (hD : W ≤ 6) (hi : i < W) : pc_Q D W B (ps_rI σ (B + 13) (upd (σ.1 (B + 13)) i v)) (upd r (53 + i) v) e a dd p := by
  obtain ⟨g1, g2, g3, g4, g5⟩ := g
  exact ⟨by rw [pc_up13 hD hi, g1], g2, by rw [ps_rI_ne _ _ (by omega)]; exact g3, fun d hd => by rw [ps_rI_ne _ _ (by omega)]; exact g4 d hd, by rw [ps_rI_ne _ _ (by omega)]; exact g5⟩
theorem pc_Q.rd13 (g : pc_Q D W B σ r e a dd p) (hD : W ≤ 6) (hi : i < W) : σ.1 (B + 13) i = r (53 + i) := by rw [← g.1, pc_rd13 hD hi]
theorem pc_Q.up14 (g : pc_Q D W B σ r e a dd p) (hi : i < 6) : pc_Q D W B (ps_rI σ (B + 14) (upd (σ.1 (B + 14)) i v)) (upd r (59 + i) v) e a dd p := by
  obtain ⟨g1, g2, g3, g4, g5⟩ := g
  exact ⟨by rw [pc_up14 hi, g1], g2, by rw [ps_rI_ne _ _ (by omega)]; exact g3, fun d hd => by rw [ps_rI_ne _ _ (by omega)]; exact g4 d hd, by rw [ps_rI_ne _ _ (by omega)]; exact g5⟩
theorem pc_Q.rd14 (g : pc_Q D W B σ r e a dd p) (hi : i < 6) : σ.1 (B + 14) i = r (59 + i) := by rw [← g.1, pc_rd14 hi]
theorem pc_Q.up15 (g : pc_Q D W B σ r e a dd p) (hi : i < 6) : pc_Q D W B (ps_rI σ (B + 15) (upd (σ.1 (B + 15)) i v)) (upd r (65 + i) v) e a dd p := by
  obtain ⟨g1, g2, g3, g4, g5⟩ := g
  exact ⟨by rw [pc_up15 hi, g1], g2, by rw [ps_rI_ne _ _ (by omega)]; exact g3, fun d hd => by rw [ps_rI_ne _ _ (by omega)]; exact g4 d hd, by rw [ps_rI_ne _ _ (by omega)]; exact g5⟩
theorem pc_Q.rd15 (g : pc_Q D W B σ r e a dd p) (hi : i < 6) : σ.1 (B + 15) i = r (65 + i) := by rw [← g.1, pc_rd15 hi]
theorem pc_Q.up16 (g : pc_Q D W B σ r e a dd p) (hi : i < 6) : pc_Q D W B (ps_rI σ (B + 16) (upd (σ.1 (B + 16)) i v)) (upd r (71 + i) v) e a dd p := by
  obtain ⟨g1, g2, g3, g4, g5⟩ := g
  exact ⟨by rw [pc_up16 hi, g1], g2, by rw [ps_rI_ne _ _ (by omega)]; exact g3, fun d hd => by rw [ps_rI_ne _ _ (by omega)]; exact g4 d hd, by rw [ps_rI_ne _ _ (by omega)]; exact g5⟩
theorem pc_Q.rd16 (g : pc_Q D W B σ r e a dd p) (hi : i < 6) : σ.1 (B + 16) i = r (71 + i) := by rw [← g.1, pc_rd16 hi]
theorem pc_Q.up17 (g : pc_Q D W B σ r e a dd p) (hi : i < 6) : pc_Q D W B (ps_rI σ (B + 17) (upd (σ.1 (B + 17)) i v)) (upd r (77 + i) v) e a dd p := by
  obtain ⟨g1, g2, g3, g4, g5⟩ := g
  exact ⟨by rw [pc_up17 hi, g1], g2, by rw [ps_rI_ne _ _ (by omega)]; exact g3, fun d hd => by rw [ps_rI_ne _ _ (by omega)]; exact g4 d hd, by rw [ps_rI_ne _ _ (by omega)]; exact g5⟩
theorem pc_Q.rd17 (g : pc_Q D W B σ r e a dd p) (hi : i < 6) : σ.1 (B + 17) i = r (77 + i) := by rw [← g.1, pc_rd17 hi]
end PCQ1
def qt_wo2 (B1 n : Nat) (x3 v7 : Int32) (σ27 : ps_S) : Option (Int32 × ps_S) :=
  if ps_in x3 4 = true then
  ps_let (σ27.1 (B1 + 8) (x3).toNatClampNeg) fun v28 =>
  if ps_in x3 4 = true then
  ps_let (ps_rI σ27 (B1 + 8) (upd (σ27.1 (B1 + 8)) (x3).toNatClampNeg ((v28 + v7)))) fun σ29 =>
  if ps_in x3 4 = true then
  ps_let (σ29.1 (B1 + 9) (x3).toNatClampNeg) fun v30 =>
  if ps_in x3 4 = true then
  ps_let (ps_rI σ29 (B1 + 9) (upd (σ29.1 (B1 + 9)) (x3).toNatClampNeg ((v30 + v7)))) fun σ31 =>
  ps_let (σ31.1 B1 9) fun v32 =>
  ps_let (ps_rI σ31 B1 (upd (σ31.1 B1) 9 ((v32 - v7)))) fun σ33 =>
  ps_let (x3 + 1) fun v34 =>
  qX0_writeOut_7 B1 n v34 σ33
  else none
  else none
  else none
  else none
def qt_wo (B1 n : Nat) (x3 : Int32) (σ : ps_S) : Option (Int32 × ps_S) :=
  if ps_in x3 4 = true then
  ps_let (σ.1 (B1 + 5) (x3).toNatClampNeg) fun v5 =>
  if ps_in x3 4 = true then
  ps_let (σ.1 (B1 + 3) (x3).toNatClampNeg) fun v6 =>
  ps_let (if v6 < ((v5 / 100)) then v6 else ((v5 / 100))) fun v7 =>
  if ps_in x3 4 = true then
  ps_let (σ.1 (B1 + 3) (x3).toNatClampNeg) fun v8 =>
  if ps_in x3 4 = true then
  ps_let (ps_rI σ (B1 + 3) (upd (σ.1 (B1 + 3)) (x3).toNatClampNeg ((v8 - v7)))) fun σ9 =>
  if ps_in x3 4 = true then
  ps_let (σ9.1 (B1 + 3) (x3).toNatClampNeg) fun v10 =>
  if v10 = 0 then
  if ps_in x3 4 = true then
  ps_let (ps_rI σ9 (B1 + 5) (upd (σ9.1 (B1 + 5)) (x3).toNatClampNeg 0)) fun σ27 =>
  qt_wo2 B1 n x3 v7 σ27
  else none
  else
  if ps_in x3 4 = true then
  ps_let (σ9.1 (B1 + 5) (x3).toNatClampNeg) fun v12 =>
  if ps_in x3 4 = true then
  ps_let (ps_rI σ9 (B1 + 5) (upd (σ9.1 (B1 + 5)) (x3).toNatClampNeg ((v12 - ((100 * v7)))))) fun σ13 =>
  qt_wo2 B1 n x3 v7 σ13
  else none
  else none
  else none
  else none
  else none
  else none
  else none
theorem qf_writeOut (B1 n : Nat) (x3 : Int32) (σ : ps_S) : qX0_writeOut_7 B1 (n + 1) x3 σ =
    ps_let (σ.1 12 7) fun v1 =>
    if v1 ≤ x3 then
    some (x3, σ)
    else
    ps_let (σ.1 B1 11) fun v3 =>
    if v3 = x3 then
    qt_wo B1 n x3 σ
    else
    if ps_in x3 4 = true then
    ps_let (σ.1 (B1 + 5) (x3).toNatClampNeg) fun v45 =>
    ps_bd (qX4_speedOf B1 x3 σ) (fun v46 σ47 =>
    if ps_in x3 4 = true then
    ps_let (ps_rI σ47 (B1 + 5) (upd (σ47.1 (B1 + 5)) (x3).toNatClampNeg ((v45 + v46)))) fun σ48 =>
    qt_wo B1 n x3 σ48
    else none)
    else none := rfl
theorem nI_div {a b : Nat} (ha : a < 2 ^ 31) (hb : b < 2 ^ 31) : nI a / nI b = nI (a / b) := by
  apply Int32.toInt_inj.mp
  have h3 : a / b ≤ a := Nat.div_le_self a b
  rw [Int32.toInt_div, nI_toInt ha, nI_toInt hb, ← Int.ofNat_tdiv, nI_toInt (by omega)]
  have h4 : (0 : Int) ≤ ((a / b : Nat) : Int) := Int.natCast_nonneg _
  have h5 : ((a / b : Nat) : Int) < 2147483648 := by omega
  generalize ((a / b : Nat) : Int) = z at h4 h5
  rw [Int.bmod_eq_of_le (by omega) (by omega)]
/-- written out: credit, in flight, written in all and lately -/
def pa_w4 (r : pa_R) (d : Nat) (a b : Int32) (m : Nat) : pa_R := upd (upd (upd (upd r (33 + d) a) (29 + d) b) (45 + d) (r (45 + d) + nI m)) (49 + d) (r (49 + d) + nI m)
theorem pa_w4_at {r : pa_R} {d : Nat} {a b : Int32} {m : Nat} (hd : d < 4) : pa_w4 r d a b m (33 + d) = a ∧ pa_w4 r d a b m (29 + d) = b ∧ pa_w4 r d a b m (45 + d) = r (45 + d) + nI m ∧ pa_w4 r d a b m (49 + d) = r (49 + d) + nI m := by
  unfold pa_w4
  refine ⟨?_, ?_, ?_, ?_⟩
  · rw [upd_ne _ _ (by omega), upd_ne _ _ (by omega), upd_ne _ _ (by omega), upd_self]
  · rw [upd_ne _ _ (by omega), upd_ne _ _ (by omega), upd_self]
  · rw [upd_ne _ _ (by omega), upd_self]
  · rw [upd_self]
theorem pa_w4_ne {r : pa_R} {d k : Nat} {a b : Int32} {m : Nat} (h1 : k ≠ 33 + d) (h2 : k ≠ 29 + d) (h3 : k ≠ 45 + d) (h4 : k ≠ 49 + d) : pa_w4 r d a b m k = r k := by
  unfold pa_w4
  rw [upd_ne _ _ h4, upd_ne _ _ h3, upd_ne _ _ h2, upd_ne _ _ h1]
/-- a row that is so at these four places, and as it was elsewhere -/
theorem pa_w4_of {r s : pa_R} {d : Nat} {a b : Int32} {m : Nat} (hd : d < 4) (h : ∀ k, k ≠ 33 + d → k ≠ 29 + d → k ≠ 45 + d → k ≠ 49 + d → s k = r k) (h1 : s (33 + d) = a) (h2 : s (29 + d) = b) (h3 : s (45 + d) = r (45 + d) + nI m) (h4 : s (49 + d) = r (49 + d) + nI m) : s = pa_w4 r d a b m := by
  funext k
  obtain ⟨e1, e2, e3, e4⟩ := pa_w4_at (r := r) (a := a) (b := b) (m := m) hd
  by_cases c1 : k = 33 + d
  · subst c1; rw [e1, h1]
  · by_cases c2 : k = 29 + d
    · subst c2; rw [e2, h2]
    · by_cases c3 : k = 45 + d
      · subst c3; rw [e3, h3]
      · by_cases c4 : k = 49 + d
        · subst c4; rw [e4, h4]
        · rw [pa_w4_ne c1 c2 c3 c4]; exact h k c1 c2 c3 c4
def pa_c (h r : pa_R) (p : pa_P) (d : Nat) : Nat := pa_N r (33 + d) + (if p.2.1 = nI d then 0 else (pa_spd h r p.2.2.1 d).toNatClampNeg)
def pa_m (c fl : Nat) : Nat := min (c / 100) fl
def pa_wo (r : pa_R) (d c fl : Nat) : pa_R := pa_w4 r d (if fl = pa_m c fl then 0 else nI (c - 100 * pa_m c fl)) (nI (fl - pa_m c fl)) (pa_m c fl)
def pa_wod (h : pa_R) (p : pa_P) (r : pa_R) (d : Nat) : pa_R := pa_wo r d (pa_c h r p d) (pa_N r (29 + d))
def pa_IC (r : pa_R) : Prop := ∀ d, d < 4 → pa_NN (r (33 + d)) ∧ (r (33 + d)).toNatClampNeg ≤ 99
/-- speeds and wants as told -/
def pa_IS (r : pa_R) (D W : Nat) : Prop := (∀ d, d < D → ∃ n, n ≤ 999 ∧ r (25 + d) = nI n) ∧ ∀ w, w < W → ∃ n, n ≤ 99 ∧ r (53 + w) = nI n
theorem pa_spdR {h r : pa_R} {lw : Int32} {d D W : Nat} (hS : pa_IS r D W) (hd : d < D) : ∃ n, n ≤ 999 ∧ pa_spd h r lw d = nI n := by
  unfold pa_spd
  by_cases c : nI d = lw
  · rw [if_pos c]; exact hS.1 d hd
  · rw [if_neg c]; exact pa_clR (hi := 999) (by omega)
theorem pa_cR {h r : pa_R} {p : pa_P} {d D W : Nat} (hS : pa_IS r D W) (hC : pa_IC r) (hd : d < D) (hD : D ≤ 4) : pa_c h r p d ≤ 1098 := by
  unfold pa_c
  have := (hC d (by omega)).2
  obtain ⟨n, hn, e⟩ := pa_spdR (h := h) (lw := p.2.2.1) hS hd
  rw [e, nI_clamp (by omega)]
  unfold pa_N
  by_cases c : p.2.1 = nI d
  · rw [if_pos c]; omega
  · rw [if_neg c]; omega
theorem pg_woL {D W d : Nat} (hd : d < 4) : ∀ (m c fl fuel : Nat) (σ : ps_S), pa_m c fl = m → pg_r D W σ (33 + d) = nI c → pg_r D W σ (29 + d) = nI fl → c < 2 ^ 31 → fl < 2 ^ 31 → m < fuel → ∃ τ, qX9_writesOut_25 (nI d) fuel σ = some ((), τ) ∧ pg_r D W τ = pa_w4 (pg_r D W σ) d (nI (c - 100 * m)) (nI (fl - m)) m ∧ pg_e D τ = pg_e D σ ∧ pg_fr σ τ := by
  intro m
  induction m with
  | zero =>
    intro c fl fuel σ hm hc hf h1 h2 h3
    obtain ⟨f, rfl⟩ : ∃ f, fuel = f + 1 := ⟨fuel - 1, by omega⟩
    have e33 : σ.1 335 (33 + d) = nI c := by rw [← hc, pg_rd (by omega) (by omega) (by omega)]
    have e29 : σ.1 335 (29 + d) = nI fl := by rw [← hf, pg_rd (by omega) (by omega) (by omega)]
    have fin : ∃ τ, some ((), σ) = some ((), τ) ∧ pg_r D W τ = pa_w4 (pg_r D W σ) d (nI (c - 100 * 0)) (nI (fl - 0)) 0 ∧ pg_e D τ = pg_e D σ ∧ pg_fr σ τ := by
      refine ⟨σ, rfl, ?_, rfl, pg_fr.rf σ⟩
      refine pa_w4_of hd (fun _ _ _ _ _ => rfl) ?_ ?_ ?_ ?_
      · rw [hc]; rfl
      · rw [hf]; rfl
      · rw [nI_0, Int32.add_zero]
      · rw [nI_0, Int32.add_zero]
    rw [qX9_writesOut_25, pz_a33, if_pos (pz_ini (a := 33 + d) (by omega) (by omega)), nI_clamp (n := 33 + d) (by omega), pz_lt, e33]
    by_cases c1 : c < 100
    · have q : nI c < 100 := nI_lt (b := 100) c1 (by omega)
      rw [if_pos q]
      exact fin
    · have q : ¬ nI c < 100 := nI_nlt (a := c) (b := 100) (by omega) h1
      have hfl : fl = 0 := by
        unfold pa_m at hm
        have : 1 ≤ c / 100 := (Nat.le_div_iff_mul_le (by omega)).mpr (by omega)
        omega
      have q2 : nI fl ≤ 0 := by rw [hfl]; decide
      rw [if_neg q, pz_a29, if_pos (pz_ini (a := 29 + d) (by omega) (by omega)), nI_clamp (n := 29 + d) (by omega), pz_lt, e29, if_pos q2]
      exact fin
  | succ m ih =>
    intro c fl fuel σ hm hc hf h1 h2 h3
    obtain ⟨f, rfl⟩ : ∃ f, fuel = f + 1 := ⟨fuel - 1, by omega⟩
    have e33 : σ.1 335 (33 + d) = nI c := by rw [← hc, pg_rd (by omega) (by omega) (by omega)]
    have e29 : σ.1 335 (29 + d) = nI fl := by rw [← hf, pg_rd (by omega) (by omega) (by omega)]
    have hc1 : 100 ≤ c ∧ 1 ≤ fl ∧ pa_m (c - 100) (fl - 1) = m := by
      unfold pa_m at hm ⊢
      have : (c - 100) / 100 = c / 100 - 1 := Nat.sub_mul_div c 100 1
      have : c / 100 * 100 ≤ c := Nat.div_mul_le_self c 100
      omega
    have q : ¬ nI c < 100 := nI_nlt (a := c) (b := 100) hc1.1 h1
    have q2 : ¬ nI fl ≤ 0 := nI_nle hc1.2.1 h2
    have s1 : nI c - 100 = nI (c - 100) := nI_sub (b := 100) hc1.1
    have s2 : nI fl - 1 = nI (fl - 1) := nI_sub (b := 1) hc1.2.1
    rw [qX9_writesOut_25, pz_a33, if_pos (pz_ini (a := 33 + d) (by omega) (by omega)), nI_clamp (n := 33 + d) (by omega), pz_lt, e33, if_neg q, pz_a29, if_pos (pz_ini (a := 29 + d) (by omega) (by omega)), nI_clamp (n := 29 + d) (by omega), pz_lt, e29, if_neg q2, if_pos (pz_ini (a := 33 + d) (by omega) (by omega)), pz_lt, if_pos (pz_ini (a := 33 + d) (by omega) (by omega)), pz_lt, s1, if_pos (pz_ini (a := 29 + d) (by omega) (by omega)), pz_lt, if_pos (pz_ini (a := 29 + d) (by omega) (by omega)), pz_lt, pz_a45, pz_a49, nI_clamp (n := 45 + d) (by omega), nI_clamp (n := 49 + d) (by omega), if_pos (pz_ini (a := 45 + d) (by omega) (by omega)), pz_lt, if_pos (pz_ini (a := 45 + d) (by omega) (by omega)), pz_lt, if_pos (pz_ini (a := 49 + d) (by omega) (by omega)), pz_lt, if_pos (pz_ini (a := 49 + d) (by omega) (by omega)), pz_lt]
    generalize hσ8 : ps_rI σ 335 (upd (σ.1 335) (33 + d) (nI (c - 100))) = σ8
    have r8 : pg_r D W σ8 = upd (pg_r D W σ) (33 + d) (nI (c - 100)) := by rw [← hσ8, pg_up (by omega) (by omega) (by omega)]
    have f8 : pg_fr σ σ8 := by rw [← hσ8]; exact pg_fr.I _ _ _ (by omega)
    have e8 : pg_e D σ8 = pg_e D σ := by rw [← hσ8]; rfl
    have x8 : σ8.1 335 (29 + d) = nI fl := by rw [← pg_rd (D := D) (W := W) (by omega) (by omega) (by omega), r8, upd_ne _ _ (by omega), hf]
    rw [x8, s2]
    generalize hσ9 : ps_rI σ8 335 (upd (σ8.1 335) (29 + d) (nI (fl - 1))) = σ9
    have r9 : pg_r D W σ9 = upd (pg_r D W σ8) (29 + d) (nI (fl - 1)) := by rw [← hσ9, pg_up (by omega) (by omega) (by omega)]
    have f9 : pg_fr σ8 σ9 := by rw [← hσ9]; exact pg_fr.I _ _ _ (by omega)
    have e9 : pg_e D σ9 = pg_e D σ8 := by rw [← hσ9]; rfl
    have x9 : σ9.1 335 (45 + d) = pg_r D W σ (45 + d) := by rw [← pg_rd (D := D) (W := W) (by omega) (by omega) (by omega), r9, r8, upd_ne _ _ (by omega), upd_ne _ _ (by omega)]
    rw [x9]
    generalize hσ10 : ps_rI σ9 335 (upd (σ9.1 335) (45 + d) (pg_r D W σ (45 + d) + 1)) = σ10
    have r10 : pg_r D W σ10 = upd (pg_r D W σ9) (45 + d) (pg_r D W σ (45 + d) + 1) := by rw [← hσ10, pg_up (by omega) (by omega) (by omega)]
    have f10 : pg_fr σ9 σ10 := by rw [← hσ10]; exact pg_fr.I _ _ _ (by omega)
    have e10 : pg_e D σ10 = pg_e D σ9 := by rw [← hσ10]; rfl
    have x10 : σ10.1 335 (49 + d) = pg_r D W σ (49 + d) := by rw [← pg_rd (D := D) (W := W) (by omega) (by omega) (by omega), r10, r9, r8, upd_ne _ _ (by omega), upd_ne _ _ (by omega), upd_ne _ _ (by omega)]
    rw [x10]
    generalize hσ11 : ps_rI σ10 335 (upd (σ10.1 335) (49 + d) (pg_r D W σ (49 + d) + 1)) = σ11
    have r11 : pg_r D W σ11 = upd (pg_r D W σ10) (49 + d) (pg_r D W σ (49 + d) + 1) := by rw [← hσ11, pg_up (by omega) (by omega) (by omega)]
    have f11 : pg_fr σ10 σ11 := by rw [← hσ11]; exact pg_fr.I _ _ _ (by omega)
    have e11 : pg_e D σ11 = pg_e D σ10 := by rw [← hσ11]; rfl
    have one : nI 1 = (1 : Int32) := rfl
    have rr : pg_r D W σ11 = pa_w4 (pg_r D W σ) d (nI (c - 100)) (nI (fl - 1)) 1 := by
      rw [r11, r10, r9, r8]
      unfold pa_w4
      rw [one]
    obtain ⟨w1, w2, w3, w4⟩ := pa_w4_at (r := pg_r D W σ) (a := nI (c - 100)) (b := nI (fl - 1)) (m := 1) hd
    obtain ⟨τ, g1, g2, g3, g4⟩ := ih (c - 100) (fl - 1) f σ11 hc1.2.2 (by rw [rr]; exact w1) (by rw [rr]; exact w2) (by omega) (by omega) (by omega)
    refine ⟨τ, g1, ?_, by rw [g3, e11, e10, e9, e8], f8.tr (f9.tr (f10.tr (f11.tr g4)))⟩
    rw [g2]
    obtain ⟨y1, y2, y3, y4⟩ := pa_w4_at (r := pg_r D W σ11) (a := nI (c - 100 - 100 * m)) (b := nI (fl - 1 - m)) (m := m) hd
    refine pa_w4_of hd (fun k k1 k2 k3 k4 => ?_) ?_ ?_ ?_ ?_
    · rw [pa_w4_ne k1 k2 k3 k4, rr, pa_w4_ne k1 k2 k3 k4]
    · rw [y1]; congr 1; omega
    · rw [y2]; congr 1; omega
    · rw [y3, rr, w3, Int32.add_assoc, nI_add, Nat.add_comm 1 m]
    · rw [y4, rr, w4, Int32.add_assoc, nI_add, Nat.add_comm 1 m]
def qt_wend (p1 : Int32) (σ25 : ps_S) : Option (Unit × ps_S) :=
  if ps_in ((29 + p1)) 83 = true then
  ps_let (σ25.1 335 ((29 + p1)).toNatClampNeg) fun v26 =>
  if v26 = 0 then
  if ps_in ((33 + p1)) 83 = true then
  ps_let (ps_rI σ25 335 (upd (σ25.1 335) ((33 + p1)).toNatClampNeg 0)) fun σ28 =>
  some ((), σ28)
  else none
  else
  some ((), σ25)
  else none
theorem qf_writesOut (p1 : Int32) (σ : ps_S) : qX9_writesOut p1 σ =
    ps_let (σ.1 327 22) fun v1 =>
    if p1 = v1 then
    ps_bd (qX9_writesOut_25 p1 ps_N σ) (fun res σ25 => match res with
    | _ =>
      qt_wend p1 σ25)
    else
    if ps_in ((33 + p1)) 83 = true then
    ps_let (σ.1 335 ((33 + p1)).toNatClampNeg) fun v31 =>
    ps_bd (qX9_speedNow p1 σ) (fun v32 σ33 =>
    if ps_in ((33 + p1)) 83 = true then
    ps_let (ps_rI σ33 335 (upd (σ33.1 335) ((33 + p1)).toNatClampNeg ((v31 + v32)))) fun σ34 =>
    ps_bd (qX9_writesOut_25 p1 ps_N σ34) (fun res σ35 => match res with
    | _ =>
      qt_wend p1 σ35)
    else none)
    else none := rfl
theorem pg_wend {D W d c fl m : Nat} {r : pa_R} {σ : ps_S} (hd : d < 4) (hr : pg_r D W σ = pa_w4 r d (nI (c - 100 * m)) (nI (fl - m)) m) (hm : m ≤ fl) (hfl : fl < 2 ^ 31) : ps_ok (qt_wend (nI d) σ) (fun _ τ => pg_r D W τ = pa_w4 r d (if fl = m then 0 else nI (c - 100 * m)) (nI (fl - m)) m ∧ pg_e D τ = pg_e D σ ∧ pg_fr σ τ) := by
  obtain ⟨w1, w2, w3, w4⟩ := pa_w4_at (r := r) (a := nI (c - 100 * m)) (b := nI (fl - m)) (m := m) hd
  have e29 : σ.1 335 (29 + d) = nI (fl - m) := by rw [← w2, ← hr, pg_rd (by omega) (by omega) (by omega)]
  unfold qt_wend
  rw [pz_a29, pz_a33, nI_clamp (n := 29 + d) (by omega), nI_clamp (n := 33 + d) (by omega), if_pos (pz_ini (a := 29 + d) (by omega) (by omega)), pz_lt, e29]
  by_cases c1 : fl = m
  · have q : nI (fl - m) = 0 := by rw [show fl - m = 0 by omega]; rfl
    rw [if_pos q, if_pos (pz_ini (a := 33 + d) (by omega) (by omega)), pz_lt, if_pos c1]
    refine ps_os ⟨?_, rfl, pg_fr.I _ _ _ (by omega)⟩
    rw [pg_up (by omega) (by omega) (by omega), hr]
    refine pa_w4_of hd (fun k k1 k2 k3 k4 => ?_) ?_ ?_ ?_ ?_
    · rw [upd_ne _ _ k1, pa_w4_ne k1 k2 k3 k4]
    · rw [upd_self]
    · rw [upd_ne _ _ (by omega), w2]
    · rw [upd_ne _ _ (by omega), w3]
    · rw [upd_ne _ _ (by omega), w4]
  · have q : ¬ nI (fl - m) = 0 := nI_ne0 (by omega) (by omega)
    rw [if_neg q, if_neg c1]
    exact ps_os ⟨hr, rfl, pg_fr.rf σ⟩
theorem pg_writesOut {D F W d : Nat} {p : pa_P} {σ : ps_S} (hd : d < D) (hI : pa_HI (pg_h σ) D F W) (hL : pa_LI (pg_h σ)) (hS : pa_IS (pg_r D W σ) D W) (hC : pa_IC (pg_r D W σ)) (hA : pa_IA (pg_r D W σ) D F) (hp1 : p.2.1 = nI d ↔ σ.1 327 22 = nI d) (hp2 : p.2.2.1 = σ.1 327 23) : ps_ok (qX9_writesOut (nI d) σ) (fun _ τ => pg_r D W τ = pa_wod (pg_h σ) p (pg_r D W σ) d ∧ pg_e D τ = pg_e D σ ∧ pg_fr σ τ) := by
  have hD := hI.1.2
  obtain ⟨ec, hc⟩ := pa_NNe (hC d (by omega)).1
  have hc9 := (hC d (by omega)).2
  obtain ⟨ef, hfl⟩ := pa_NNe (hA.2.1 d (by omega))
  have hcR := pa_cR (h := pg_h σ) (p := p) hS hC hd hD
  have hmle : ∀ c fl, pa_m c fl ≤ fl := fun c fl => by unfold pa_m; omega
  have hmle2 : ∀ c fl, pa_m c fl ≤ c := fun c fl => by unfold pa_m; have := Nat.div_le_self c 100; omega
  rw [qf_writesOut, pz_lt]
  by_cases c1 : nI d = σ.1 327 22
  · rw [if_pos c1]
    have q : p.2.1 = nI d := hp1.mpr c1.symm
    have ecd : pa_c (pg_h σ) (pg_r D W σ) p d = pa_N (pg_r D W σ) (33 + d) := by unfold pa_c; rw [if_pos q]; rfl
    obtain ⟨τ, g1, g2, g3, g4⟩ := pg_woL (D := D) (W := W) (d := d) (by omega) _ (pa_N (pg_r D W σ) (33 + d)) (pa_N (pg_r D W σ) (29 + d)) ps_N σ rfl ec ef hc hfl (by have := hmle2 (pa_N (pg_r D W σ) (33 + d)) (pa_N (pg_r D W σ) (29 + d)); unfold pa_N at this ⊢; unfold ps_N; omega)
    rw [pz_bde g1]
    refine ps_ok.mono (pg_wend (by omega) g2 (hmle _ _) hfl) (fun _ υ hu => ⟨?_, hu.2.1.trans g3, g4.tr hu.2.2⟩)
    rw [hu.1]
    unfold pa_wod pa_wo
    rw [ecd]
  · rw [if_neg c1]
    have q : ¬ p.2.1 = nI d := fun z => c1 (hp1.mp z).symm
    have e33 : σ.1 335 (33 + d) = pg_r D W σ (33 + d) := by rw [pg_rd (by omega) (by omega) (by omega)]
    obtain ⟨n, hn, en⟩ := pa_spdR (h := pg_h σ) (lw := p.2.2.1) hS hd
    have ecd : pa_c (pg_h σ) (pg_r D W σ) p d = pa_N (pg_r D W σ) (33 + d) + n := by unfold pa_c; rw [if_neg q, en, nI_clamp (by omega)]
    rw [pz_a33, nI_clamp (n := 33 + d) (by omega), if_pos (pz_ini (a := 33 + d) (by omega) (by omega)), pz_lt, e33]
    refine pz_bd (pg_speed (W := W) hD hd hL) (fun v υ hv => ?_)
    obtain ⟨hv1, sm⟩ := hv
    refine pz_gd (pz_ini (a := 33 + d) (by omega) (by omega)) ?_
    rw [pz_lt, hv1, ← hp2, en, ec, nI_add]
    generalize hσ4 : ps_rI υ 335 (upd (υ.1 335) (33 + d) (nI ((pg_r D W σ (33 + d)).toNatClampNeg + n))) = σ4
    have r4 : pg_r D W σ4 = upd (pg_r D W σ) (33 + d) (nI ((pg_r D W σ (33 + d)).toNatClampNeg + n)) := by rw [← hσ4, pg_up (by omega) (by omega) (by omega), sm.r]
    have f4 : pg_fr σ σ4 := by rw [← hσ4]; exact sm.fr.tr (pg_fr.I _ _ _ (by omega))
    have e4 : pg_e D σ4 = pg_e D σ := by rw [← hσ4]; exact sm.e
    have x1 : pg_r D W σ4 (33 + d) = nI (pa_N (pg_r D W σ) (33 + d) + n) := by rw [r4, upd_self]; rfl
    have x2 : pg_r D W σ4 (29 + d) = nI (pa_N (pg_r D W σ) (29 + d)) := by rw [r4, upd_ne _ _ (by omega)]; exact ef
    obtain ⟨τ, g1, g2, g3, g4⟩ := pg_woL (D := D) (W := W) (d := d) (by omega) _ (pa_N (pg_r D W σ) (33 + d) + n) (pa_N (pg_r D W σ) (29 + d)) ps_N σ4 rfl x1 x2 (by unfold pa_N; omega) hfl (by have := hmle2 (pa_N (pg_r D W σ) (33 + d) + n) (pa_N (pg_r D W σ) (29 + d)); unfold pa_N at this ⊢; unfold ps_N; omega)
    rw [pz_bde g1]
    refine ps_ok.mono (pg_wend (by omega) g2 (hmle _ _) hfl) (fun _ υ hu => ⟨?_, (hu.2.1.trans g3).trans e4, f4.tr (g4.tr hu.2.2)⟩)
    rw [hu.1]
    unfold pa_wod pa_wo
    rw [ecd, r4]
    obtain ⟨w1, w2, w3, w4⟩ := pa_w4_at (r := upd (pg_r D W σ) (33 + d) (nI ((pg_r D W σ (33 + d)).toNatClampNeg + n))) (a := if pa_N (pg_r D W σ) (29 + d) = pa_m (pa_N (pg_r D W σ) (33 + d) + n) (pa_N (pg_r D W σ) (29 + d)) then 0 else nI (pa_N (pg_r D W σ) (33 + d) + n - 100 * pa_m (pa_N (pg_r D W σ) (33 + d) + n) (pa_N (pg_r D W σ) (29 + d)))) (b := nI (pa_N (pg_r D W σ) (29 + d) - pa_m (pa_N (pg_r D W σ) (33 + d) + n) (pa_N (pg_r D W σ) (29 + d)))) (m := pa_m (pa_N (pg_r D W σ) (33 + d) + n) (pa_N (pg_r D W σ) (29 + d))) (show d < 4 by omega)
    refine pa_w4_of (by omega) (fun k k1 k2 k3 k4 => ?_) w1 w2 ?_ ?_
    · rw [pa_w4_ne k1 k2 k3 k4, upd_ne _ _ k1]
    · rw [w3, upd_ne _ _ (by omega)]
    · rw [w4, upd_ne _ _ (by omega)]
/-- what is kept by writing out, in numbers -/
theorem pa_woI {r : pa_R} {D F d c fl : Nat} (hA : pa_IA r D F) (hC : pa_IC r) (hd : d < D) (hD : D ≤ 4) (hc : c ≤ 1098) (hf : r (29 + d) = nI fl) (hfl : fl < 2 ^ 31) :
    pa_IA (pa_wo r d c fl) D F ∧ pa_IC (pa_wo r d c fl) ∧ pa_all (pa_wo r d c fl) = pa_all r - nI (pa_m c fl) ∧ pa_m c fl ≤ 10 ∧ pa_m c fl ≤ fl := by
  have hm10 : pa_m c fl ≤ 10 := by
    unfold pa_m
    have : c / 100 ≤ 10 := Nat.le_of_lt_succ ((Nat.div_lt_iff_lt_mul (by omega)).mpr (by omega))
    omega
  have hmf : pa_m c fl ≤ fl := by unfold pa_m; omega
  have hcm : fl ≠ pa_m c fl → c - 100 * pa_m c fl ≤ 99 := by
    intro h
    have : pa_m c fl = c / 100 := by unfold pa_m at h ⊢; omega
    rw [this]
    have := Nat.mod_lt c (show 0 < 100 by omega)
    have := Nat.div_add_mod c 100
    omega
  have nfl : pa_N r (29 + d) = fl := by unfold pa_N; rw [hf, nI_clamp hfl]
  unfold pa_wo
  generalize hm : pa_m c fl = m at *
  obtain ⟨w1, w2, w3, w4⟩ := pa_w4_at (r := r) (a := if fl = m then 0 else nI (c - 100 * m)) (b := nI (fl - m)) (m := m) (show d < 4 by omega)
  have s1 : pa_sN (pa_w4 r d (if fl = m then 0 else nI (c - 100 * m)) (nI (fl - m)) m) 1 12 = pa_sN r 1 12 := by
    unfold pa_w4
    rw [pa_sN_upd_ne (by omega), pa_sN_upd_ne (by omega), pa_sN_upd_ne (by omega), pa_sN_upd_ne (by omega)]
  have s2 : pa_sN (pa_w4 r d (if fl = m then 0 else nI (c - 100 * m)) (nI (fl - m)) m) 29 4 + fl = pa_sN r 29 4 + (fl - m) := by
    unfold pa_w4
    rw [pa_sN_upd_ne (by omega), pa_sN_upd_ne (by omega)]
    have := pa_sN_upd (r := upd r (33 + d) (if fl = m then 0 else nI (c - 100 * m))) (k := 29 + d) (v := nI (fl - m)) (a := 29) (n := 4) (by omega) (by omega)
    rw [pa_N_upd_ne _ _ (by omega), nfl, pa_sN_upd_ne (r := r) (k := 33 + d) (by omega), nI_clamp (by omega)] at this
    exact this
  have hge := pa_sN_ge (r := r) (a := 29) (k := 29 + d) (n := 4) (by omega) (by omega)
  rw [nfl] at hge
  have hsum := hA.2.2.1
  have hA2 : pa_IA (pa_w4 r d (if fl = m then 0 else nI (c - 100 * m)) (nI (fl - m)) m) D F := by
    refine ⟨fun f hf => ?_, fun d' hd' => ?_, by omega, fun f h1 h2 => ?_, fun d' h1 h2 => ?_⟩
    · rw [pa_w4_ne (by omega) (by omega) (by omega) (by omega)]; exact hA.1 f hf
    · by_cases e : d' = d
      · subst e; rw [w2]; exact pa_NNn (by omega)
      · rw [pa_w4_ne (by omega) (by omega) (by omega) (by omega)]; exact hA.2.1 d' hd'
    · rw [pa_w4_ne (by omega) (by omega) (by omega) (by omega)]; exact hA.2.2.2.1 f h1 h2
    · rw [pa_w4_ne (by omega) (by omega) (by omega) (by omega)]; exact hA.2.2.2.2 d' h1 h2
  refine ⟨hA2, fun d' hd' => ?_, ?_, hm10, hmf⟩
  · by_cases e : d' = d
    · subst e
      rw [w1]
      by_cases q : fl = m
      · rw [if_pos q]; exact ⟨by unfold pa_NN; decide, by decide⟩
      · rw [if_neg q, nI_clamp (by omega)]; exact ⟨pa_NNn (by omega), hcm q⟩
    · rw [pa_w4_ne (by omega) (by omega) (by omega) (by omega)]; exact hC d' hd'
  · rw [pa_all_nI hA2, pa_all_nI hA, nI_sub (by omega)]
    congr 1
    omega
section PCW
variable {h : pa_R} {D F W B : Nat}
theorem pc_wo2 {n d m : Nat} {σ : ps_S} {r : pa_R} {e : pa_D} {a : Int32} {dd : pa_R} {p : pa_P} {P : Int32 → ps_S → Prop} (hd : d < 4) (g : pc_Q D W B σ r e a dd p)
    (k : ∀ τ, pc_Q D W B τ (upd (upd r (45 + d) (r (45 + d) + nI m)) (49 + d) (r (49 + d) + nI m)) e (a - nI m) dd p → pc_fb B σ τ → ps_ok (qX0_writeOut_7 B n (nI (d + 1)) τ) P) : ps_ok (qt_wo2 B n (nI d) (nI m) σ) P := by
  have e45 : σ.1 (B + 8) d = r (45 + d) := g.rd8 (by omega)
  unfold qt_wo2
  rw [nI_clamp (n := d) (by omega), if_pos (pz_ini (a := d) (by omega) (by omega)), pz_lt, e45, if_pos (pz_ini (a := d) (by omega) (by omega))]
  refine pz_le (fun σ1 h1 => ?_)
  have g1 := g.up8 (i := d) (v := r (45 + d) + nI m) (by omega)
  rw [← h1] at g1
  have b1 : pc_fb B σ σ1 := by rw [h1]; exact pc_fb.I _ 8 _ (by omega)
  have e49 : σ1.1 (B + 9) d = r (49 + d) := by rw [g1.rd9 (by omega), upd_ne _ _ (by omega)]
  rw [if_pos (pz_ini (a := d) (by omega) (by omega)), pz_lt, e49, if_pos (pz_ini (a := d) (by omega) (by omega))]
  refine pz_le (fun σ2 h2 => ?_)
  have g2 := g1.up9 (i := d) (v := r (49 + d) + nI m) (by omega)
  rw [← h2] at g2
  have b2 : pc_fb B σ σ2 := b1.tr (by rw [h2]; exact pc_fb.I _ 9 _ (by omega))
  rw [pz_lt, g2.2.2.1]
  refine pz_le (fun σ3 h3 => ?_)
  have g3 := g2.all (v := a - nI m)
  rw [← h3] at g3
  have b3 : pc_fb B σ σ3 := b2.tr (by rw [h3]; exact pc_fb.I _ 0 _ (by omega))
  rw [pz_lt, nI_1]
  exact k σ3 g3 b3
theorem pc_wo1 {n d c fl : Nat} {σ : ps_S} {r : pa_R} {e : pa_D} {a : Int32} {dd : pa_R} {p : pa_P} {P : Int32 → ps_S → Prop} (hd : d < 4) (hc : c < 2 ^ 31) (hfl : fl < 2 ^ 31) (hr1 : r (33 + d) = nI c) (hr2 : r (29 + d) = nI fl) (g : pc_Q D W B σ r e a dd p)
    (k : ∀ τ, pc_Q D W B τ (pa_wo r d c fl) e (a - nI (pa_m c fl)) dd p → pc_fb B σ τ → ps_ok (qX0_writeOut_7 B n (nI (d + 1)) τ) P) : ps_ok (qt_wo B n (nI d) σ) P := by
  have e33 : σ.1 (B + 5) d = nI c := by rw [g.rd5 (by omega), hr1]
  have e29 : σ.1 (B + 3) d = nI fl := by rw [g.rd3 (by omega), hr2]
  have hm : (if nI fl < nI c / 100 then nI fl else nI c / 100) = nI (pa_m c fl) := by
    have q : nI c / 100 = nI (c / 100) := nI_div (b := 100) hc (by omega)
    have q2 : c / 100 < 2 ^ 31 := Nat.lt_of_le_of_lt (Nat.div_le_self c 100) hc
    rw [q]
    unfold pa_m
    by_cases c1 : fl < c / 100
    · rw [if_pos (nI_lt c1 q2), show min (c / 100) fl = fl by omega]
    · rw [if_neg (nI_nlt (by omega) hfl), show min (c / 100) fl = c / 100 by omega]
  have hmf : pa_m c fl ≤ fl := by unfold pa_m; omega
  have hmc : 100 * pa_m c fl ≤ c := by
    have : c / 100 * 100 ≤ c := Nat.div_mul_le_self c 100
    unfold pa_m; omega
  unfold qt_wo
  rw [nI_clamp (n := d) (by omega), if_pos (pz_ini (a := d) (by omega) (by omega)), pz_lt, e33, if_pos (pz_ini (a := d) (by omega) (by omega)), pz_lt, e29, pz_lt, hm, if_pos (pz_ini (a := d) (by omega) (by omega)), pz_lt, if_pos (pz_ini (a := d) (by omega) (by omega)), nI_sub hmf]
  refine pz_le (fun σ1 h1 => ?_)
  have g1 := g.up3 (i := d) (v := nI (fl - pa_m c fl)) (by omega)
  rw [← h1] at g1
  have b1 : pc_fb B σ σ1 := by rw [h1]; exact pc_fb.I _ 3 _ (by omega)
  have x1 : σ1.1 (B + 3) d = nI (fl - pa_m c fl) := by rw [g1.rd3 (by omega), upd_self]
  have x2 : σ1.1 (B + 5) d = nI c := by rw [g1.rd5 (by omega), upd_ne _ _ (by omega), hr1]
  rw [if_pos (pz_ini (a := d) (by omega) (by omega)), pz_lt, x1]
  have fin : ∀ (v : Int32) (s : pa_R), v = (if fl = pa_m c fl then 0 else nI (c - 100 * pa_m c fl)) → s = upd (upd r (29 + d) (nI (fl - pa_m c fl))) (33 + d) v → upd (upd s (45 + d) (s (45 + d) + nI (pa_m c fl))) (49 + d) (s (49 + d) + nI (pa_m c fl)) = pa_wo r d c fl := by
    intro v s hv hs
    unfold pa_wo
    refine pa_w4_of hd (fun j j1 j2 j3 j4 => ?_) ?_ ?_ ?_ ?_
    · rw [upd_ne _ _ j4, upd_ne _ _ j3, hs, upd_ne _ _ j1, upd_ne _ _ j2]
    · rw [upd_ne _ _ (by omega), upd_ne _ _ (by omega), hs, upd_self, hv]
    · rw [upd_ne _ _ (by omega), upd_ne _ _ (by omega), hs, upd_ne _ _ (by omega), upd_self]
    · rw [upd_ne _ _ (by omega), upd_self, hs, upd_ne _ _ (by omega), upd_ne _ _ (by omega)]
    · rw [upd_self, hs, upd_ne _ _ (by omega), upd_ne _ _ (by omega)]
  by_cases c1 : fl = pa_m c fl
  · have q : nI (fl - pa_m c fl) = 0 := by rw [show fl - pa_m c fl = 0 by omega]; rfl
    rw [if_pos q, if_pos (pz_ini (a := d) (by omega) (by omega))]
    refine pz_le (fun σ2 h2 => ?_)
    have g2 := g1.up5 (i := d) (v := 0) (by omega)
    rw [← h2] at g2
    have b2 : pc_fb B σ σ2 := b1.tr (by rw [h2]; exact pc_fb.I _ 5 _ (by omega))
    refine pc_wo2 hd g2 (fun τ hτ bτ => k τ ?_ (b2.tr bτ))
    rw [← fin 0 _ (by rw [if_pos c1]) rfl]
    exact hτ
  · have q : ¬ nI (fl - pa_m c fl) = 0 := nI_ne0 (by omega) (by omega)
    have q3 : 100 * nI (pa_m c fl) = nI (100 * pa_m c fl) := (Int32.ofNat_mul 100 (pa_m c fl)).symm
    rw [if_neg q, if_pos (pz_ini (a := d) (by omega) (by omega)), pz_lt, x2, if_pos (pz_ini (a := d) (by omega) (by omega)), q3, nI_sub hmc]
    refine pz_le (fun σ2 h2 => ?_)
    have g2 := g1.up5 (i := d) (v := nI (c - 100 * pa_m c fl)) (by omega)
    rw [← h2] at g2
    have b2 : pc_fb B σ σ2 := b1.tr (by rw [h2]; exact pc_fb.I _ 5 _ (by omega))
    refine pc_wo2 hd g2 (fun τ hτ bτ => k τ ?_ (b2.tr bτ))
    rw [← fin _ _ (by rw [if_neg c1]) rfl]
    exact hτ
end PCW
/-- the row behind writing out, device by device -/
def pa_wos (h : pa_R) (p : pa_P) : Nat → Nat → pa_R → pa_R
  | _, 0, r => r
  | d, m + 1, r => pa_wos h p (d + 1) m (pa_wod h p r d)
/-- what is asked of a row so that a tick can be followed -/
def pa_I1 (r : pa_R) (D F W : Nat) : Prop := pa_IA r D F ∧ pa_IT r ∧ pa_IC r ∧ pa_IS r D W
theorem pa_wodI {h r : pa_R} {p : pa_P} {D F W d : Nat} (hI : pa_I1 r D F W) (hd : d < D) (hD : D ≤ 4) : pa_I1 (pa_wod h p r d) D F W ∧ (pa_all (pa_wod h p r d) = pa_all r - nI (pa_m (pa_c h r p d) (pa_N r (29 + d)))) ∧ (∀ x n, pa_don h (pa_wod h p r d) x n = pa_don h r x n ∨ 28 ≤ n) ∧ (∀ k, k < 29 ∨ (37 ≤ k ∧ k < 45) ∨ 53 ≤ k → pa_wod h p r d k = r k) := by
  obtain ⟨hA, hT, hC, hS⟩ := hI
  obtain ⟨ef, hfl⟩ := pa_NNe (hA.2.1 d (by omega))
  have hcR := pa_cR (h := h) (p := p) hS hC hd hD
  obtain ⟨a1, a2, a3, a4, a5⟩ := pa_woI hA hC hd hD hcR ef hfl
  have ne : ∀ k, k < 29 ∨ (37 ≤ k ∧ k < 45) ∨ 53 ≤ k → pa_wod h p r d k = r k := fun k hk => by
    unfold pa_wod pa_wo
    rw [pa_w4_ne (by omega) (by omega) (by omega) (by omega)]
  refine ⟨⟨a1, fun d' h' => ?_, a2, fun d' h' => ?_, fun w hw => ?_⟩, a3, fun x n => ?_, ne⟩
  · rw [ne _ (by omega)]; exact hT d' h'
  · rw [ne _ (by omega)]; exact hS.1 d' h'
  · rw [ne _ (by omega)]; exact hS.2 w hw
  · by_cases q : 28 ≤ n
    · exact Or.inr q
    · refine Or.inl ?_
      unfold pa_wod pa_wo pa_w4
      rw [pa_don_ne (by omega), pa_don_ne (by omega), pa_don_ne (by omega), pa_don_ne (by omega)]
theorem pa_wosI {h : pa_R} {p : pa_P} {D F W : Nat} (hD : D ≤ 4) : ∀ (m d : Nat) (r : pa_R), d + m = D → pa_I1 r D F W → pa_I1 (pa_wos h p d m r) D F W ∧ (∀ k, k < 29 ∨ (37 ≤ k ∧ k < 45) ∨ 53 ≤ k → pa_wos h p d m r k = r k)
  | 0, d, r, _, hI => ⟨hI, fun _ _ => rfl⟩
  | m + 1, d, r, hd, hI => by
    obtain ⟨b1, b2⟩ := pa_wosI hD m (d + 1) (pa_wod h p r d) (by omega) (pa_wodI hI (by omega) hD).1
    exact ⟨b1, fun k hk => (b2 k hk).trans ((pa_wodI hI (by omega) hD).2.2.2 k hk)⟩
theorem pc_writeOutL {h : pa_R} {D F W B : Nat} {e : pa_D} {p : pa_P} {t : Nat} (hB : 26 ≤ B) (hI : pa_HI h D F W) (hL : pa_LI h) (ht : t < 2 ^ 31) : ∀ (m d fuel : Nat) (σ : ps_S) (r : pa_R), d + m = D → m < fuel → pa_I1 r D F W → r 0 = nI t → pc_H 12 h D F W σ → pc_L 12 h σ → pc_O h σ → pc_S h D F W B σ r e p → ps_ok (qX0_writeOut_7 B fuel (nI d) σ) (fun _ τ => pc_S h D F W B τ (pa_wos h p d m r) e p ∧ pc_O h τ ∧ pc_fr B σ τ) := by
  have hD := hI.1.2
  have hF := hI.2.1.2
  intro m
  induction m with
  | zero =>
    intro d fuel σ r hd hf h1 h0 hH hC hO hS
    obtain ⟨f, rfl⟩ : ∃ f, fuel = f + 1 := ⟨fuel - 1, by omega⟩
    have e7 : σ.1 12 7 = nI D := hH.1.2.2.2.2.2.2.2.1.trans hI.1.1
    have : d = D := by omega
    subst this
    rw [qf_writeOut, pz_lt, e7, if_pos (nI_le (Nat.le_refl _) (by omega))]
    exact ps_os ⟨hS, hO, pc_fr.rf B σ⟩
  | succ m ih =>
    intro d fuel σ r hd hf h1 h0 hH hC hO hS
    obtain ⟨f, rfl⟩ : ∃ f, fuel = f + 1 := ⟨fuel - 1, by omega⟩
    have e7 : σ.1 12 7 = nI D := hH.1.2.2.2.2.2.2.2.1.trans hI.1.1
    obtain ⟨hA, hT, hCr, hSr⟩ := id h1
    obtain ⟨ef, hfl⟩ := pa_NNe (hA.2.1 d (by omega))
    obtain ⟨ec, hcc⟩ := pa_NNe (hCr d (by omega)).1
    have hcR := pa_cR (h := h) (p := p) hSr hCr (show d < D by omega) hD
    obtain ⟨i1, i2, i3, i4⟩ := pa_wodI (h := h) (p := p) h1 (show d < D by omega) hD
    have est : σ.1 B 11 = p.2.1 := hS.2.2.2.2.2.1
    -- the rest of the devices
    have go : ∀ (σ1 τ : ps_S), pc_fr B σ σ1 → pc_O h σ1 → pc_Q D W B τ (pa_wod h p r d) e (pa_all r - nI (pa_m (pa_c h r p d) (pa_N r (29 + d)))) (fun d => pa_don h r (nI d) F) p → pc_fb B σ1 τ → ps_ok (qX0_writeOut_7 B f (nI (d + 1)) τ) (fun _ τ' => pc_S h D F W B τ' (pa_wos h p d (m + 1) r) e p ∧ pc_O h τ' ∧ pc_fr B σ τ') := by
      intro σ1 τ f1 o1 q1 b1
      have f2 := f1.tr b1.fr
      refine ps_ok.mono (ih (d + 1) f τ (pa_wod h p r d) (by omega) (by omega) i1 (by rw [i4 _ (by omega)]; exact h0) (f2.H hB hH) (f2.L hB hC) (b1.O hB o1) (q1.S i2.symm (fun x hx => ((i3 (nI x) F).resolve_right (by omega)).symm))) (fun _ τ' hh => ⟨hh.1, hh.2.1, f2.tr hh.2.2⟩)
    rw [qf_writeOut, pz_lt, e7, if_neg (nI_ge (by omega) (by omega)), pz_lt, est]
    by_cases c1 : p.2.1 = nI d
    · rw [if_pos c1]
      have ecd : pa_c h r p d = (r (33 + d)).toNatClampNeg := by unfold pa_c; rw [if_pos c1]; rfl
      refine pc_wo1 (c := (r (33 + d)).toNatClampNeg) (fl := (r (29 + d)).toNatClampNeg) (by omega) hcc hfl ec ef hS.Q (fun τ q b => go σ τ (pc_fr.rf B σ) hO ?_ b)
      have : pa_wod h p r d = pa_wo r d (r (33 + d)).toNatClampNeg (r (29 + d)).toNatClampNeg := by unfold pa_wod; rw [ecd]; rfl
      rw [this, ecd]
      exact q
    · obtain ⟨n, hn, en⟩ := pa_spdR (h := h) (lw := p.2.2.1) hSr (show d < D by omega)
      have ecd : pa_c h r p d = (r (33 + d)).toNatClampNeg + n := by unfold pa_c; rw [if_neg c1, en, nI_clamp (by omega)]; rfl
      have e33 : σ.1 (B + 5) d = r (33 + d) := hS.Q.rd5 (by omega)
      rw [if_neg c1, nI_clamp (n := d) (by omega), if_pos (pz_ini (a := d) (by omega) (by omega)), pz_lt, e33]
      refine pz_bd (pc_speed hB hI hL hH hC hO hS (show d < D by omega) (hSr.1 d (by omega)) h0 ht) (fun v σ1 hv => ?_)
      obtain ⟨v1, v2, v3⟩ := hv
      rw [if_pos (pz_ini (a := d) (by omega) (by omega)), v1, en, ec, nI_add]
      have S1 := v3.S hB hS
      refine pz_le (fun σ2 h2 => ?_)
      have g2 := S1.Q.up5 (i := d) (v := nI ((r (33 + d)).toNatClampNeg + n)) (by omega)
      rw [← h2] at g2
      have b2 : pc_fb B σ1 σ2 := by rw [h2]; exact pc_fb.I _ 5 _ (by omega)
      refine pc_wo1 (c := (r (33 + d)).toNatClampNeg + n) (fl := (r (29 + d)).toNatClampNeg) (by omega) (by omega) hfl (by rw [upd_self]) (by rw [upd_ne _ _ (by omega)]; exact ef) g2 (fun τ q b => go σ1 τ v3.fr v2 ?_ (b2.tr b))
      have : pa_wod h p r d = pa_wo (upd r (33 + d) (nI ((r (33 + d)).toNatClampNeg + n))) d ((r (33 + d)).toNatClampNeg + n) (r (29 + d)).toNatClampNeg := by
        unfold pa_wod
        rw [ecd]
        unfold pa_wo
        obtain ⟨w1, w2, w3, w4⟩ := pa_w4_at (r := r) (a := if pa_N r (29 + d) = pa_m ((r (33 + d)).toNatClampNeg + n) (pa_N r (29 + d)) then 0 else nI ((r (33 + d)).toNatClampNeg + n - 100 * pa_m ((r (33 + d)).toNatClampNeg + n) (pa_N r (29 + d)))) (b := nI (pa_N r (29 + d) - pa_m ((r (33 + d)).toNatClampNeg + n) (pa_N r (29 + d)))) (m := pa_m ((r (33 + d)).toNatClampNeg + n) (pa_N r (29 + d))) (show d < 4 by omega)
        refine pa_w4_of (by omega) (fun k k1 k2 k3 k4 => ?_) w1 w2 ?_ ?_
        · rw [pa_w4_ne k1 k2 k3 k4, upd_ne _ _ k1]
        · rw [w3, upd_ne _ _ (by omega)]; rfl
        · rw [w4, upd_ne _ _ (by omega)]; rfl
      rw [this, ecd]
      exact q
theorem pc_writeOut {h : pa_R} {D F W B : Nat} {e : pa_D} {p : pa_P} {t : Nat} {σ : ps_S} {r : pa_R} (hB : 26 ≤ B) (hI : pa_HI h D F W) (hL : pa_LI h) (ht : t < 2 ^ 31) (h1 : pa_I1 r D F W) (h0 : r 0 = nI t) (hH : pc_H 12 h D F W σ) (hC : pc_L 12 h σ) (hO : pc_O h σ) (hS : pc_S h D F W B σ r e p) : ps_ok (qX0_writeOut B σ) (fun _ τ => pc_S h D F W B τ (pa_wos h p 0 D r) e p ∧ pc_O h τ ∧ pc_fr B σ τ) := by
  unfold qX0_writeOut
  have hD := hI.1.2
  have e : ps_ok (qX0_writeOut_7 B ps_N 0 σ) _ := pc_writeOutL hB hI hL ht D 0 ps_N σ r (by omega) (by unfold ps_N; omega) h1 h0 hH hC hO hS
  exact pz_bd e (fun _ τ hh => ps_os hh)
