/-! the world between two calls -/
abbrev pa_H : Type := pa_R × Nat × Nat × Nat
abbrev pa_X : Type := pa_R × pa_D
abbrev pa_Im : Type := Nat → Option (pa_H × pa_X)
abbrev pa_Tr : Type := Nat → Option (Int32 × Nat × (Nat → Int64))
abbrev pa_Tp : Type := Nat × (Nat → Nat)
def pa_sb (b : Nat) : Int32 := if b < 128 then nI b else nI b - 256
/-! what holds of the numbers -/
def pa_W1 (T : Nat) (H : pa_H) (x : pa_X) : Prop := ∃ t, t ≤ T ∧ pa_IV H.1 H.2.1 H.2.2.1 H.2.2.2 t x
def pa_WH (H : pa_H) : Prop := pa_HI H.1 H.2.1 H.2.2.1 H.2.2.2 ∧ pa_LI H.1
def pa_W (T : Nat) (H : pa_H) (x : pa_X) (n : Nat) (P : Nat → pa_X) (im : pa_Im) (tr : pa_Tr) (tp : pa_Tp) : Prop :=
  pa_WH H ∧ pa_W1 T H x ∧ (n ≤ 10 ∧ ∀ i, i < n → pa_W1 T H (P i)) ∧ (∀ i, i < 2 → ∀ y, im i = some y → pa_WH y.1 ∧ pa_W1 T y.1 y.2) ∧ (∀ i, i < 4 → ∀ y, tr i = some y → (∃ s, s < 4 ∧ y.1 = nI s) ∧ y.2.1 ≤ 40) ∧ (tp.1 ≤ 900 ∧ ∀ j, j < tp.1 → tp.2 j < 256)
/-! the class -/
def pc_Ws (H : pa_H) (B : Nat) (σ : ps_S) (x : pa_X) : Prop := pc_S H.1 H.2.1 H.2.2.1 H.2.2.2 B σ x.1 x.2 (pa_p0 H.1)
def pc_Wh (H : pa_H) (B : Nat) (σ : ps_S) : Prop := pc_H B H.1 H.2.1 H.2.2.1 H.2.2.2 σ ∧ pc_L B H.1 σ
def pc_Wp (H : pa_H) (n : Nat) (P : Nat → pa_X) (σ : ps_S) : Prop := ∃ f, f < 10 ∧ σ.1 0 10 = nI f ∧ σ.1 0 11 = nI n ∧ ∀ i, i < n → pc_Ws H (85 + 18 * ((f + i) % 10)) σ (P i)
def pc_Wi (im : pa_Im) (σ : ps_S) : Prop := ∀ i, i < 2 → (im i = none → σ.1 84 i = 0) ∧ ∀ y, im i = some y → σ.1 84 i = 1 ∧ pc_Wh y.1 (273 + 27 * i) σ ∧ pc_Ws y.1 (282 + 27 * i) σ y.2
def pc_Wt (tr : pa_Tr) (σ : ps_S) : Prop := ∀ i, i < 4 → (tr i = none → σ.1 (265 + 2 * i) 1 = 1) ∧ ∀ y, tr i = some y → σ.1 (265 + 2 * i) 1 = 0 ∧ σ.1 (265 + 2 * i) 2 = y.1 ∧ σ.1 (265 + 2 * i) 3 = nI y.2.1 ∧ ∀ j, j < y.2.1 → σ.2.1 (266 + 2 * i) j = y.2.2 j
def pc_Wq (tp : pa_Tp) (σ : ps_S) : Prop := σ.1 0 1 = nI tp.1 ∧ ∀ j, j < tp.1 → σ.1 1 j = pa_sb (tp.2 j)
def pc_W (H : pa_H) (x : pa_X) (n : Nat) (P : Nat → pa_X) (im : pa_Im) (tr : pa_Tr) (tp : pa_Tp) (fl : Int32 × Int32) (σ : ps_S) : Prop :=
  (pc_Ws H 26 σ x ∧ pc_Wh H 12 σ ∧ pc_O H.1 σ) ∧ pc_Wp H n P σ ∧ pc_Wi im σ ∧ pc_Wt tr σ ∧ pc_Wq tp σ ∧ (σ.1 11 0 = fl.1 ∧ σ.1 11 1 = fl.2)
/-! the reference -/
def pg_Ws (H : pa_H) (o oe : Nat) (σ : ps_S) (x : pa_X) : Prop := pg_nr H.2.1 H.2.2.2 o σ = x.1 ∧ pg_ne H.2.1 oe σ = x.2
def pg_Wp (H : pa_H) (n : Nat) (P : Nat → pa_X) (σ : ps_S) : Prop := σ.1 328 118 = nI n ∧ ∀ i, i < n → pg_Ws H (119 + 83 * i) (4 + 4 * i) σ (P i)
def pg_Wi (im : pa_Im) (σ : ps_S) : Prop := ∀ i, i < 2 → (im i = none → σ.1 330 i = 0) ∧ ∀ y, im i = some y → σ.1 330 i = 1 ∧ pg_hh (1850 * (i + 1)) σ = y.1.1 ∧ pg_Ws y.1 (1850 * (i + 1) + 35) (44 * (i + 1)) σ y.2
def pg_Wt (tr : pa_Tr) (σ : ps_S) : Prop := ∀ i, i < 4 → (tr i = none → σ.1 342 i = -1) ∧ ∀ y, tr i = some y → σ.1 342 i = y.1 ∧ σ.1 343 i = nI y.2.1 ∧ ∀ j, j < y.2.1 → σ.2.1 344 (40 * i + j) = y.2.2 j
def pg_Wq (tp : pa_Tp) (σ : ps_S) : Prop := σ.1 327 6 = nI tp.1 ∧ ∀ j, j < tp.1 → σ.1 331 j = nI (tp.2 j)
def pg_W (H : pa_H) (x : pa_X) (n : Nat) (P : Nat → pa_X) (im : pa_Im) (tr : pa_Tr) (tp : pa_Tp) (fl : Int32 × Int32) (σ : ps_S) : Prop :=
  (pg_h σ = H.1 ∧ pg_Ws H 35 0 σ x) ∧ pg_Wp H n P σ ∧ pg_Wi im σ ∧ pg_Wt tr σ ∧ pg_Wq tp σ ∧ (σ.1 327 14 = fl.1 ∧ σ.1 327 15 = fl.2)
/-- the class's cells, the reference's cells -/
def pw_r (σ τ : ps_S) : Prop := ∀ k, 327 ≤ k → τ.1 k = σ.1 k ∧ τ.2.1 k = σ.2.1 k ∧ τ.2.2 k = σ.2.2 k
def pw_c (σ τ : ps_S) : Prop := ∀ k, k < 327 → τ.1 k = σ.1 k ∧ τ.2.1 k = σ.2.1 k ∧ τ.2.2 k = σ.2.2 k
theorem pw_r.rf (σ : ps_S) : pw_r σ σ := fun _ _ => ⟨rfl, rfl, rfl⟩
theorem pw_r.tr {σ τ υ : ps_S} (h : pw_r σ τ) (g : pw_r τ υ) : pw_r σ υ := fun k hk => ⟨(g k hk).1.trans (h k hk).1, (g k hk).2.1.trans (h k hk).2.1, (g k hk).2.2.trans (h k hk).2.2⟩
theorem pw_c.rf (σ : ps_S) : pw_c σ σ := fun _ _ => ⟨rfl, rfl, rfl⟩
theorem pw_c.tr {σ τ υ : ps_S} (h : pw_c σ τ) (g : pw_c τ υ) : pw_c σ υ := fun k hk => ⟨(g k hk).1.trans (h k hk).1, (g k hk).2.1.trans (h k hk).2.1, (g k hk).2.2.trans (h k hk).2.2⟩
/-- what a question leaves of the class -/
def pc_ck (σ τ : ps_S) : Prop := (∀ k, (k = 1 ∨ (12 ≤ k ∧ k < 23) ∨ (26 ≤ k ∧ k < 44) ∨ (80 ≤ k ∧ k < 327)) → τ.1 k = σ.1 k ∧ τ.2.2 k = σ.2.2 k) ∧ (∀ k, k < 327 → τ.2.1 k = σ.2.1 k) ∧ (∀ j, j = 1 ∨ j = 10 ∨ j = 11 → τ.1 0 j = σ.1 0 j) ∧ (∀ j, j = 0 ∨ j = 1 → τ.1 11 j = σ.1 11 j)
def pc_kp (σ τ : ps_S) : Prop := pc_ck σ τ ∧ pw_r σ τ
theorem pc_kp.rf (σ : ps_S) : pc_kp σ σ := ⟨⟨fun _ _ => ⟨rfl, rfl⟩, fun _ _ => rfl, fun _ _ => rfl, fun _ _ => rfl⟩, pw_r.rf σ⟩
theorem pc_kp.tr {σ τ υ : ps_S} (h : pc_kp σ τ) (g : pc_kp τ υ) : pc_kp σ υ := ⟨⟨fun k hk => ⟨(g.1.1 k hk).1.trans (h.1.1 k hk).1, (g.1.1 k hk).2.trans (h.1.1 k hk).2⟩, fun k hk => (g.1.2.1 k hk).trans (h.1.2.1 k hk), fun j hj => (g.1.2.2.1 j hj).trans (h.1.2.2.1 j hj), fun j hj => (g.1.2.2.2 j hj).trans (h.1.2.2.2 j hj)⟩, h.2.tr g.2⟩
theorem pc_fr.kp {σ τ : ps_S} {B : Nat} (h : pc_fr B σ τ) (hB : B = 44 ∨ B = 62) : pc_kp σ τ := ⟨⟨fun k hk => ⟨h.1 k (by omega) (by omega), h.2.2 k (by omega)⟩, fun k _ => by rw [h.2.1], fun j _ => by rw [h.1 0 (by omega) (by omega)], fun j _ => by rw [h.1 11 (by omega) (by omega)]⟩, fun k hk => ⟨h.1 k (by omega) (by omega), by rw [h.2.1], h.2.2 k (by omega)⟩⟩
section WRLD
variable {H : pa_H} {x : pa_X} {n : Nat} {P : Nat → pa_X} {im : pa_Im} {tr : pa_Tr} {tp : pa_Tp} {fl : Int32 × Int32} {σ τ : ps_S}
theorem pc_S.congr {h : pa_R} {D F W B : Nat} {r : pa_R} {e : pa_D} {p : pa_P} (g : pc_S h D F W B σ r e p) (h1 : ∀ o, o < 18 → τ.1 (B + o) = σ.1 (B + o)) (h2 : τ.2.2 (B + 6) = σ.2.2 (B + 6)) : pc_S h D F W B τ r e p := by
  have h0 : τ.1 B = σ.1 B := h1 0 (by decide)
  obtain ⟨g1, g2, g3, g4, g5⟩ := g
  refine ⟨(pc_congr h1).trans g1, ?_, by rw [h0]; exact g3, fun d hd => by rw [h1 4 (by decide)]; exact g4 d hd, by rw [h0]; exact g5⟩
  rw [← g2]
  unfold pc_e
  rw [h2]
theorem pc_H.congr {h : pa_R} {D F W B : Nat} (g : pc_H B h D F W σ) (h1 : ∀ o, o < 6 → τ.1 (B + o) = σ.1 (B + o)) : pc_H B h D F W τ := by
  unfold pc_H
  have h0 : τ.1 B = σ.1 B := h1 0 (by decide)
  rw [h0, h1 2 (by decide), h1 3 (by decide), h1 4 (by decide), h1 5 (by decide)]
  exact g
theorem pc_L.congr {h : pa_R} {B : Nat} (g : pc_L B h σ) (h1 : ∀ o, o < 9 → τ.1 (B + o) = σ.1 (B + o)) : pc_L B h τ := by
  unfold pc_L
  rw [h1 7 (by decide), h1 8 (by decide)]
  exact g
theorem pc_Wh.congr {B : Nat} (g : pc_Wh H B σ) (h1 : ∀ o, o < 9 → τ.1 (B + o) = σ.1 (B + o)) : pc_Wh H B τ := ⟨g.1.congr (fun o ho => h1 o (by omega)), g.2.congr h1⟩
theorem pc_Wi.congr (g : pc_Wi im σ) (h : ∀ k, k = 84 ∨ (273 ≤ k ∧ k < 327) → τ.1 k = σ.1 k ∧ τ.2.2 k = σ.2.2 k) : pc_Wi im τ := by
  intro i hi
  obtain ⟨g1, g2⟩ := g i hi
  rw [(h 84 (by omega)).1]
  refine ⟨g1, fun y hy => ?_⟩
  obtain ⟨a1, a2, a3⟩ := g2 y hy
  exact ⟨a1, a2.congr (fun o ho => (h _ (by omega)).1), a3.congr (fun o ho => (h _ (by omega)).1) (h _ (by omega)).2⟩
theorem pc_Wt.congr (g : pc_Wt tr σ) (h : ∀ k, 265 ≤ k ∧ k < 273 → τ.1 k = σ.1 k ∧ τ.2.1 k = σ.2.1 k) : pc_Wt tr τ := by
  intro i hi
  rw [(h (265 + 2 * i) (by omega)).1, (h (266 + 2 * i) (by omega)).2]
  exact g i hi
theorem pc_Wp.congr (g : pc_Wp H n P σ) (h : ∀ k, 85 ≤ k ∧ k < 265 → τ.1 k = σ.1 k ∧ τ.2.2 k = σ.2.2 k) (h0 : ∀ j, j = 10 ∨ j = 11 → τ.1 0 j = σ.1 0 j) : pc_Wp H n P τ := by
  obtain ⟨f, g1, g2, g3, g4⟩ := g
  refine ⟨f, g1, by rw [h0 10 (by omega)]; exact g2, by rw [h0 11 (by omega)]; exact g3, fun i hi => ?_⟩
  have hm := Nat.mod_lt (f + i) (show 0 < 10 by decide)
  exact (g4 i hi).congr (fun o ho => (h _ (by omega)).1) (h _ (by omega)).2
theorem pc_Wq.congr (g : pc_Wq tp σ) (h : τ.1 1 = σ.1 1) (h0 : τ.1 0 1 = σ.1 0 1) : pc_Wq tp τ := by
  unfold pc_Wq
  rw [h, h0]
  exact g
theorem pc_ck.W (g : pc_ck σ τ) (hO : pc_O H.1 τ) (w : pc_W H x n P im tr tp fl σ) : pc_W H x n P im tr tp fl τ := by
  obtain ⟨⟨w1, w2, _⟩, w3, w4, w5, w6, w7⟩ := w
  obtain ⟨k1, k2, k3, k4⟩ := g
  refine ⟨⟨w1.congr (fun o ho => (k1 _ (by omega)).1) (k1 _ (by omega)).2, w2.congr (fun o ho => (k1 _ (by omega)).1), hO⟩, w3.congr (fun k hk => k1 k (by omega)) (fun j hj => k3 j (by omega)), w4.congr (fun k hk => k1 k (by omega)), w5.congr (fun k hk => ⟨(k1 k (by omega)).1, k2 k (by omega)⟩), w6.congr (k1 1 (by omega)).1 (k3 1 (by omega)), ?_⟩
  rw [k4 0 (by omega), k4 1 (by omega)]
  exact w7
theorem pg_nr.congr {D W o : Nat} (h : ∀ k, o ≤ k ∧ k < o + 83 → τ.1 328 k = σ.1 328 k) : pg_nr D W o τ = pg_nr D W o σ := by
  unfold pg_nr
  exact pa_can_ext (fun k hk => h _ (by omega))
theorem pg_ne.congr {D o : Nat} (h : ∀ k, o ≤ k ∧ k < o + D → τ.2.2 329 k = σ.2.2 329 k) : pg_ne D o τ = pg_ne D o σ := by
  unfold pg_ne
  funext k
  by_cases c : k < D
  · rw [if_pos c, if_pos c, h _ (by omega)]
  · rw [if_neg c, if_neg c]
theorem pg_hh.congr {o : Nat} (h : ∀ k, (o ≤ k ∧ k < o + 35) ∨ (o + 949 ≤ k ∧ k < o + 1850) → τ.1 328 k = σ.1 328 k) : pg_hh o τ = pg_hh o σ := by
  unfold pg_hh
  funext k
  by_cases c : k < 35 ∨ (949 ≤ k ∧ k < 1850)
  · rw [if_pos c, if_pos c, h _ (by omega)]
  · rw [if_neg c, if_neg c]
theorem pg_Ws.congr {o oe : Nat} {y : pa_X} (hD : H.2.1 ≤ 4) (g : pg_Ws H o oe σ y) (h : ∀ k, o ≤ k ∧ k < o + 83 → τ.1 328 k = σ.1 328 k) (h2 : ∀ k, oe ≤ k ∧ k < oe + 4 → τ.2.2 329 k = σ.2.2 329 k) : pg_Ws H o oe τ y := ⟨(pg_nr.congr h).trans g.1, (pg_ne.congr (fun k hk => h2 k (by omega))).trans g.2⟩
theorem pg_Wp.congr (hD : H.2.1 ≤ 4) (g : pg_Wp H n P σ) (hn : n ≤ 10) (h : ∀ k, 118 ≤ k ∧ k < 949 → τ.1 328 k = σ.1 328 k) (h2 : ∀ k, 4 ≤ k ∧ k < 44 → τ.2.2 329 k = σ.2.2 329 k) : pg_Wp H n P τ := ⟨by rw [h 118 (by omega)]; exact g.1, fun i hi => (g.2 i hi).congr hD (fun k hk => h k (by omega)) (fun k hk => h2 k (by omega))⟩
theorem pg_Wi.congr (hD : ∀ i, i < 2 → ∀ y, im i = some y → y.1.2.1 ≤ 4) (g : pg_Wi im σ) (h0 : τ.1 330 = σ.1 330) (h : ∀ k, 1850 ≤ k → τ.1 328 k = σ.1 328 k) (h2 : ∀ k, 44 ≤ k → τ.2.2 329 k = σ.2.2 329 k) : pg_Wi im τ := by
  intro i hi
  rw [h0]
  refine ⟨(g i hi).1, fun y hy => ?_⟩
  obtain ⟨a1, a2, a3⟩ := (g i hi).2 y hy
  refine ⟨a1, (pg_hh.congr (fun k hk => h k (by omega))).trans a2, a3.congr (hD i hi y hy) (fun k hk => h k (by omega)) (fun k hk => h2 k (by omega))⟩
theorem pg_Wt.congr (g : pg_Wt tr σ) (h1 : τ.1 342 = σ.1 342) (h2 : τ.1 343 = σ.1 343) (h3 : τ.2.1 344 = σ.2.1 344) : pg_Wt tr τ := by
  unfold pg_Wt
  rw [h1, h2, h3]
  exact g
theorem pg_Wq.congr (g : pg_Wq tp σ) (h : τ.1 331 = σ.1 331) (h0 : τ.1 327 6 = σ.1 327 6) : pg_Wq tp τ := by
  unfold pg_Wq
  rw [h, h0]
  exact g
theorem pg_Wx (h : τ.1 328 = σ.1 328) (h2 : τ.2.2 329 = σ.2.2 329) (g : pg_h σ = H.1 ∧ pg_Ws H 35 0 σ x) : pg_h τ = H.1 ∧ pg_Ws H 35 0 τ x := by
  unfold pg_h pg_Ws pg_nr pg_ne
  rw [h, h2]
  exact g
theorem pg_kpW (g1 : ∀ k, k = 328 ∨ k = 330 ∨ k = 331 ∨ k = 342 ∨ k = 343 → τ.1 k = σ.1 k) (g2 : τ.2.1 344 = σ.2.1 344) (g3 : τ.2.2 329 = σ.2.2 329) (g4 : ∀ j, j = 6 ∨ j = 14 ∨ j = 15 → τ.1 327 j = σ.1 327 j) (w : pg_W H x n P im tr tp fl σ) : pg_W H x n P im tr tp fl τ := by
  obtain ⟨w1, w3, w4, w5, w6, w7⟩ := w
  refine ⟨pg_Wx (g1 328 (by omega)) g3 w1, ?_, ?_, w5.congr (g1 342 (by omega)) (g1 343 (by omega)) g2, w6.congr (g1 331 (by omega)) (g4 6 (by omega)), by rw [g4 14 (by omega), g4 15 (by omega)]; exact w7⟩
  · unfold pg_Wp pg_Ws pg_nr pg_ne at *
    rw [g1 328 (by omega), g3]
    exact w3
  · unfold pg_Wi pg_Ws pg_nr pg_ne pg_hh at *
    rw [g1 328 (by omega), g1 330 (by omega), g3]
    exact w4
theorem pg_kp.W (g : pg_kp σ τ) (w : pg_W H x n P im tr tp fl σ) : pg_W H x n P im tr tp fl τ := pg_kpW g.2.1 g.2.2.1 g.2.2.2.1 g.2.2.2.2 w
theorem pw_r.W (g : pw_r σ τ) (w : pg_W H x n P im tr tp fl σ) : pg_W H x n P im tr tp fl τ := pg_kpW (fun k hk => (g k (by omega)).1) (g 344 (by omega)).2.1 (g 329 (by omega)).2.2 (fun j _ => by rw [(g 327 (by omega)).1]) w
theorem pw_c.ck (g : pw_c σ τ) : pc_ck σ τ := ⟨fun k hk => ⟨(g k (by omega)).1, (g k (by omega)).2.2⟩, fun k hk => (g k hk).2.1, fun j _ => by rw [(g 0 (by omega)).1], fun j _ => by rw [(g 11 (by omega)).1]⟩
theorem pw_c.W (g : pw_c σ τ) (w : pc_W H x n P im tr tp fl σ) : pc_W H x n P im tr tp fl τ := by
  refine g.ck.W ?_ w
  have := w.1.2.2
  unfold pc_O at this ⊢
  rw [(g 23 (by omega)).1, (g 24 (by omega)).1]
  exact this
end WRLD
/-- a world -/
def pw_W (T : Nat) (σ : ps_S) : Prop := ∃ H x n P im tr tp fl, pa_W T H x n P im tr tp ∧ pc_W H x n P im tr tp fl σ ∧ pg_W H x n P im tr tp fl σ
/-- a call of both -/
def pw_call {α : Type} (T : Nat) (qc qg : ps_S → Option (α × ps_S)) (σ : ps_S) : Prop := ps_ok (qc σ) (fun v τ => ps_ok (qg τ) (fun v' υ => v = v' ∧ pw_W T υ))
theorem pa_W1.mono {T U : Nat} {H : pa_H} {x : pa_X} (g : pa_W1 T H x) (h : T ≤ U) : pa_W1 U H x := by
  obtain ⟨t, h1, h2⟩ := g
  exact ⟨t, by omega, h2⟩
theorem pa_W.mono {T U : Nat} {H : pa_H} {x : pa_X} {n : Nat} {P : Nat → pa_X} {im : pa_Im} {tr : pa_Tr} {tp : pa_Tp} (g : pa_W T H x n P im tr tp) (h : T ≤ U) : pa_W U H x n P im tr tp := by
  obtain ⟨g1, g2, g3, g4, g5⟩ := g
  exact ⟨g1, g2.mono h, ⟨g3.1, fun i hi => (g3.2 i hi).mono h⟩, fun i hi y hy => ⟨(g4 i hi y hy).1, (g4 i hi y hy).2.mono h⟩, g5⟩
theorem pw_query {α : Type} {T : Nat} {H : pa_H} {x : pa_X} {n : Nat} {P : Nat → pa_X} {im : pa_Im} {tr : pa_Tr} {tp : pa_Tp} {fl : Int32 × Int32} {σ : ps_S} {qc qg : ps_S → Option (α × ps_S)} {a : α} (hW : pa_W T H x n P im tr tp) (hc : pc_W H x n P im tr tp fl σ) (hg : pg_W H x n P im tr tp fl σ)
    (cl : ps_ok (qc σ) (fun v τ => v = a ∧ pc_kp σ τ ∧ pc_O H.1 τ)) (rf : ∀ τ, pg_W H x n P im tr tp fl τ → ps_ok (qg τ) (fun v υ => v = a ∧ pg_kp τ υ)) : pw_call T qc qg σ := by
  refine pz_im cl (fun v τ h1 => ?_)
  obtain ⟨rfl, k1, k2⟩ := h1
  have hc1 := k1.1.W k2 hc
  have hg1 := k1.2.W hg
  refine pz_im (rf τ hg1) (fun v' υ h2 => ?_)
  obtain ⟨rfl, k3⟩ := h2
  exact ⟨rfl, H, x, n, P, im, tr, tp, fl, hW, pw_c.W k3.1 hc1, k3.W hg1⟩
