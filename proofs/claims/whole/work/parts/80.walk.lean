/-! following a mirror: a read, a write at a time -/
section WALK
variable {β : Type} {x v : Int32} {n k c : Nat} {σ : ps_S} {P : β → ps_S → Prop}
theorem pz_rd {inst : Decidable (ps_in x n = true)} {f : Int32 → Option (β × ps_S)} (hx : x = nI k) (hk : k < n) (hn : n ≤ 2147483648) (hv : σ.1 c k = v) (h : ps_ok (f v) P) : ps_ok (@ite _ (ps_in x n = true) inst (ps_let (σ.1 c x.toNatClampNeg) f) none) P := by
  subst hx
  rw [if_pos (pz_ini hk hn), nI_clamp (by omega), hv]
  exact h
theorem pz_rdD {inst : Decidable (ps_in x n = true)} {w : UInt64} {f : UInt64 → Option (β × ps_S)} (hx : x = nI k) (hk : k < n) (hn : n ≤ 2147483648) (hv : σ.2.2 c k = w) (h : ps_ok (f w) P) : ps_ok (@ite _ (ps_in x n = true) inst (ps_let (σ.2.2 c x.toNatClampNeg) f) none) P := by
  subst hx
  rw [if_pos (pz_ini hk hn), nI_clamp (by omega), hv]
  exact h
theorem pz_rdL {inst : Decidable (ps_in x n = true)} {w : Int64} {f : Int64 → Option (β × ps_S)} (hx : x = nI k) (hk : k < n) (hn : n ≤ 2147483648) (hv : σ.2.1 c k = w) (h : ps_ok (f w) P) : ps_ok (@ite _ (ps_in x n = true) inst (ps_let (σ.2.1 c x.toNatClampNeg) f) none) P := by
  subst hx
  rw [if_pos (pz_ini hk hn), nI_clamp (by omega), hv]
  exact h
theorem pz_wr {inst : Decidable (ps_in x n = true)} {f : ps_S → Option (β × ps_S)} (hx : x = nI k) (hk : k < n) (hn : n ≤ 2147483648) (h : ∀ τ, τ = ps_rI σ c (upd (σ.1 c) k v) → ps_ok (f τ) P) : ps_ok (@ite _ (ps_in x n = true) inst (ps_let (ps_rI σ c (upd (σ.1 c) x.toNatClampNeg v)) f) none) P := by
  subst hx
  rw [if_pos (pz_ini hk hn), nI_clamp (by omega)]
  exact h _ rfl
theorem pz_wrD {inst : Decidable (ps_in x n = true)} {w : UInt64} {f : ps_S → Option (β × ps_S)} (hx : x = nI k) (hk : k < n) (hn : n ≤ 2147483648) (h : ∀ τ, τ = ps_rD σ c (vf_upd (σ.2.2 c) k w) → ps_ok (f τ) P) : ps_ok (@ite _ (ps_in x n = true) inst (ps_let (ps_rD σ c (vf_upd (σ.2.2 c) x.toNatClampNeg w)) f) none) P := by
  subst hx
  rw [if_pos (pz_ini hk hn), nI_clamp (by omega)]
  exact h _ rfl
theorem pz_l {α : Type} {a w : α} {f : α → Option (β × ps_S)} (hv : a = w) (h : ps_ok (f w) P) : ps_ok (ps_let a f) P := by
  subst hv
  exact h
theorem pz_nnl {a : UInt64} {f : UInt64 → Option (β × ps_S)} {inst : Decidable (ps_nn a = true)} (hn : ps_nn a = true) (h : ps_ok (f a) P) : ps_ok (@ite _ (ps_nn a = true) inst (ps_let a f) none) P := by
  rw [if_pos hn]
  exact h
theorem pz_t {A B : Option (β × ps_S)} {c : Prop} {inst : Decidable c} (hc : c) (h : ps_ok A P) : ps_ok (@ite _ c inst A B) P := by rw [if_pos hc]; exact h
theorem pz_e {A B : Option (β × ps_S)} {c : Prop} {inst : Decidable c} (hc : ¬ c) (h : ps_ok B P) : ps_ok (@ite _ c inst A B) P := by rw [if_neg hc]; exact h
theorem pz_bd' {α : Type} {q : Option (α × ps_S)} {f : α → ps_S → Option (β × ps_S)} {a : α} {τ : ps_S} (hq : q = some (a, τ)) (h : ps_ok (f a τ) P) : ps_ok (ps_bd q f) P := by rw [hq]; exact h
theorem pz_done {a : β} (h : P a σ) : ps_ok (some (a, σ)) P := ⟨(a, σ), rfl, h⟩
theorem pz_im {q : Option (β × ps_S)} {Q : β → ps_S → Prop} (h : ps_ok q Q) (hi : ∀ a τ, Q a τ → P a τ) : ps_ok q P := by
  obtain ⟨z, e, hz⟩ := h
  exact ⟨z, e, hi _ _ hz⟩
end WALK

/-- a state of the class on its way from another -/
def pc_T (D W B : Nat) (σ0 σ : ps_S) (r : pa_R) (e : pa_D) (a : Int32) (dd : pa_R) (p : pa_P) : Prop := pc_Q D W B σ r e a dd p ∧ pc_fb B σ0 σ
section WALKC
variable {β : Type} {x v : Int32} {D W B i : Nat} {σ0 σ : ps_S} {r : pa_R} {e : pa_D} {a : Int32} {dd : pa_R} {p : pa_P} {P : β → ps_S → Prop}
theorem pc_T.of (g : pc_Q D W B σ r e a dd p) : pc_T D W B σ σ r e a dd p := ⟨g, pc_fb.rf B σ⟩

theorem pc_l11 (g : pc_T D W B σ0 σ r e a dd p) (hi : i < 12) {inst : Decidable (ps_in x 12 = true)} {f : Int32 → Option (β × ps_S)} (hx : x = nI i) (h : ps_ok (f (r (1 + i))) P) : ps_ok (@ite _ (ps_in x 12 = true) inst (ps_let (σ.1 (B + 11) x.toNatClampNeg) f) none) P := pz_rd hx (by omega) (by decide) (g.1.rd11 hi) h
theorem pc_w11 (g : pc_T D W B σ0 σ r e a dd p) (hi : i < 12) {inst : Decidable (ps_in x 12 = true)} {f : ps_S → Option (β × ps_S)} (hx : x = nI i) (h : ∀ τ, pc_T D W B σ0 τ (upd r (1 + i) v) e a dd p → ps_ok (f τ) P) : ps_ok (@ite _ (ps_in x 12 = true) inst (ps_let (ps_rI σ (B + 11) (upd (σ.1 (B + 11)) x.toNatClampNeg v)) f) none) P := pz_wr hx (by omega) (by decide) (fun τ e => h τ (by subst e; exact ⟨g.1.up11 hi, g.2.tr (pc_fb.I _ _ _ (by decide))⟩))

theorem pc_l12 (g : pc_T D W B σ0 σ r e a dd p) (hi : i < 12) {inst : Decidable (ps_in x 12 = true)} {f : Int32 → Option (β × ps_S)} (hx : x = nI i) (h : ps_ok (f (r (13 + i))) P) : ps_ok (@ite _ (ps_in x 12 = true) inst (ps_let (σ.1 (B + 12) x.toNatClampNeg) f) none) P := pz_rd hx (by omega) (by decide) (g.1.rd12 hi) h
theorem pc_w12 (g : pc_T D W B σ0 σ r e a dd p) (hi : i < 12) {inst : Decidable (ps_in x 12 = true)} {f : ps_S → Option (β × ps_S)} (hx : x = nI i) (h : ∀ τ, pc_T D W B σ0 τ (upd r (13 + i) v) e a dd p → ps_ok (f τ) P) : ps_ok (@ite _ (ps_in x 12 = true) inst (ps_let (ps_rI σ (B + 12) (upd (σ.1 (B + 12)) x.toNatClampNeg v)) f) none) P := pz_wr hx (by omega) (by decide) (fun τ e => h τ (by subst e; exact ⟨g.1.up12 hi, g.2.tr (pc_fb.I _ _ _ (by decide))⟩))

theorem pc_l2 (g : pc_T D W B σ0 σ r e a dd p) (hD : D ≤ 4) (hi : i < D) {inst : Decidable (ps_in x 4 = true)} {f : Int32 → Option (β × ps_S)} (hx : x = nI i) (h : ps_ok (f (r (25 + i))) P) : ps_ok (@ite _ (ps_in x 4 = true) inst (ps_let (σ.1 (B + 2) x.toNatClampNeg) f) none) P := pz_rd hx (by omega) (by decide) (g.1.rd2 hD hi) h
theorem pc_w2 (g : pc_T D W B σ0 σ r e a dd p) (hD : D ≤ 4) (hi : i < D) {inst : Decidable (ps_in x 4 = true)} {f : ps_S → Option (β × ps_S)} (hx : x = nI i) (h : ∀ τ, pc_T D W B σ0 τ (upd r (25 + i) v) e a dd p → ps_ok (f τ) P) : ps_ok (@ite _ (ps_in x 4 = true) inst (ps_let (ps_rI σ (B + 2) (upd (σ.1 (B + 2)) x.toNatClampNeg v)) f) none) P := pz_wr hx (by omega) (by decide) (fun τ e => h τ (by subst e; exact ⟨g.1.up2 hD hi, g.2.tr (pc_fb.I _ _ _ (by decide))⟩))

theorem pc_l3 (g : pc_T D W B σ0 σ r e a dd p) (hi : i < 4) {inst : Decidable (ps_in x 4 = true)} {f : Int32 → Option (β × ps_S)} (hx : x = nI i) (h : ps_ok (f (r (29 + i))) P) : ps_ok (@ite _ (ps_in x 4 = true) inst (ps_let (σ.1 (B + 3) x.toNatClampNeg) f) none) P := pz_rd hx (by omega) (by decide) (g.1.rd3 hi) h
theorem pc_w3 (g : pc_T D W B σ0 σ r e a dd p) (hi : i < 4) {inst : Decidable (ps_in x 4 = true)} {f : ps_S → Option (β × ps_S)} (hx : x = nI i) (h : ∀ τ, pc_T D W B σ0 τ (upd r (29 + i) v) e a dd p → ps_ok (f τ) P) : ps_ok (@ite _ (ps_in x 4 = true) inst (ps_let (ps_rI σ (B + 3) (upd (σ.1 (B + 3)) x.toNatClampNeg v)) f) none) P := pz_wr hx (by omega) (by decide) (fun τ e => h τ (by subst e; exact ⟨g.1.up3 hi, g.2.tr (pc_fb.I _ _ _ (by decide))⟩))

theorem pc_l5 (g : pc_T D W B σ0 σ r e a dd p) (hi : i < 4) {inst : Decidable (ps_in x 4 = true)} {f : Int32 → Option (β × ps_S)} (hx : x = nI i) (h : ps_ok (f (r (33 + i))) P) : ps_ok (@ite _ (ps_in x 4 = true) inst (ps_let (σ.1 (B + 5) x.toNatClampNeg) f) none) P := pz_rd hx (by omega) (by decide) (g.1.rd5 hi) h
theorem pc_w5 (g : pc_T D W B σ0 σ r e a dd p) (hi : i < 4) {inst : Decidable (ps_in x 4 = true)} {f : ps_S → Option (β × ps_S)} (hx : x = nI i) (h : ∀ τ, pc_T D W B σ0 τ (upd r (33 + i) v) e a dd p → ps_ok (f τ) P) : ps_ok (@ite _ (ps_in x 4 = true) inst (ps_let (ps_rI σ (B + 5) (upd (σ.1 (B + 5)) x.toNatClampNeg v)) f) none) P := pz_wr hx (by omega) (by decide) (fun τ e => h τ (by subst e; exact ⟨g.1.up5 hi, g.2.tr (pc_fb.I _ _ _ (by decide))⟩))

theorem pc_l7 (g : pc_T D W B σ0 σ r e a dd p) (hi : i < 4) {inst : Decidable (ps_in x 4 = true)} {f : Int32 → Option (β × ps_S)} (hx : x = nI i) (h : ps_ok (f (r (37 + i))) P) : ps_ok (@ite _ (ps_in x 4 = true) inst (ps_let (σ.1 (B + 7) x.toNatClampNeg) f) none) P := pz_rd hx (by omega) (by decide) (g.1.rd7 hi) h
theorem pc_w7 (g : pc_T D W B σ0 σ r e a dd p) (hi : i < 4) {inst : Decidable (ps_in x 4 = true)} {f : ps_S → Option (β × ps_S)} (hx : x = nI i) (h : ∀ τ, pc_T D W B σ0 τ (upd r (37 + i) v) e a dd p → ps_ok (f τ) P) : ps_ok (@ite _ (ps_in x 4 = true) inst (ps_let (ps_rI σ (B + 7) (upd (σ.1 (B + 7)) x.toNatClampNeg v)) f) none) P := pz_wr hx (by omega) (by decide) (fun τ e => h τ (by subst e; exact ⟨g.1.up7 hi, g.2.tr (pc_fb.I _ _ _ (by decide))⟩))

theorem pc_l10 (g : pc_T D W B σ0 σ r e a dd p) (hi : i < 4) {inst : Decidable (ps_in x 4 = true)} {f : Int32 → Option (β × ps_S)} (hx : x = nI i) (h : ps_ok (f (r (41 + i) - 1)) P) : ps_ok (@ite _ (ps_in x 4 = true) inst (ps_let (σ.1 (B + 10) x.toNatClampNeg) f) none) P := pz_rd hx (by omega) (by decide) ((by rw [← g.1.rd10 hi, Int32.add_sub_cancel])) h
theorem pc_w10 (g : pc_T D W B σ0 σ r e a dd p) (hi : i < 4) {inst : Decidable (ps_in x 4 = true)} {f : ps_S → Option (β × ps_S)} (hx : x = nI i) (h : ∀ τ, pc_T D W B σ0 τ (upd r (41 + i) (v + 1)) e a dd p → ps_ok (f τ) P) : ps_ok (@ite _ (ps_in x 4 = true) inst (ps_let (ps_rI σ (B + 10) (upd (σ.1 (B + 10)) x.toNatClampNeg v)) f) none) P := pz_wr hx (by omega) (by decide) (fun τ e => h τ (by subst e; exact ⟨g.1.up10 hi, g.2.tr (pc_fb.I _ _ _ (by decide))⟩))

theorem pc_l8 (g : pc_T D W B σ0 σ r e a dd p) (hi : i < 4) {inst : Decidable (ps_in x 4 = true)} {f : Int32 → Option (β × ps_S)} (hx : x = nI i) (h : ps_ok (f (r (45 + i))) P) : ps_ok (@ite _ (ps_in x 4 = true) inst (ps_let (σ.1 (B + 8) x.toNatClampNeg) f) none) P := pz_rd hx (by omega) (by decide) (g.1.rd8 hi) h
theorem pc_w8 (g : pc_T D W B σ0 σ r e a dd p) (hi : i < 4) {inst : Decidable (ps_in x 4 = true)} {f : ps_S → Option (β × ps_S)} (hx : x = nI i) (h : ∀ τ, pc_T D W B σ0 τ (upd r (45 + i) v) e a dd p → ps_ok (f τ) P) : ps_ok (@ite _ (ps_in x 4 = true) inst (ps_let (ps_rI σ (B + 8) (upd (σ.1 (B + 8)) x.toNatClampNeg v)) f) none) P := pz_wr hx (by omega) (by decide) (fun τ e => h τ (by subst e; exact ⟨g.1.up8 hi, g.2.tr (pc_fb.I _ _ _ (by decide))⟩))

theorem pc_l9 (g : pc_T D W B σ0 σ r e a dd p) (hi : i < 4) {inst : Decidable (ps_in x 4 = true)} {f : Int32 → Option (β × ps_S)} (hx : x = nI i) (h : ps_ok (f (r (49 + i))) P) : ps_ok (@ite _ (ps_in x 4 = true) inst (ps_let (σ.1 (B + 9) x.toNatClampNeg) f) none) P := pz_rd hx (by omega) (by decide) (g.1.rd9 hi) h
theorem pc_w9 (g : pc_T D W B σ0 σ r e a dd p) (hi : i < 4) {inst : Decidable (ps_in x 4 = true)} {f : ps_S → Option (β × ps_S)} (hx : x = nI i) (h : ∀ τ, pc_T D W B σ0 τ (upd r (49 + i) v) e a dd p → ps_ok (f τ) P) : ps_ok (@ite _ (ps_in x 4 = true) inst (ps_let (ps_rI σ (B + 9) (upd (σ.1 (B + 9)) x.toNatClampNeg v)) f) none) P := pz_wr hx (by omega) (by decide) (fun τ e => h τ (by subst e; exact ⟨g.1.up9 hi, g.2.tr (pc_fb.I _ _ _ (by decide))⟩))

theorem pc_l13 (g : pc_T D W B σ0 σ r e a dd p) (hD : W ≤ 6) (hi : i < W) {inst : Decidable (ps_in x 6 = true)} {f : Int32 → Option (β × ps_S)} (hx : x = nI i) (h : ps_ok (f (r (53 + i))) P) : ps_ok (@ite _ (ps_in x 6 = true) inst (ps_let (σ.1 (B + 13) x.toNatClampNeg) f) none) P := pz_rd hx (by omega) (by decide) (g.1.rd13 hD hi) h
theorem pc_w13 (g : pc_T D W B σ0 σ r e a dd p) (hD : W ≤ 6) (hi : i < W) {inst : Decidable (ps_in x 6 = true)} {f : ps_S → Option (β × ps_S)} (hx : x = nI i) (h : ∀ τ, pc_T D W B σ0 τ (upd r (53 + i) v) e a dd p → ps_ok (f τ) P) : ps_ok (@ite _ (ps_in x 6 = true) inst (ps_let (ps_rI σ (B + 13) (upd (σ.1 (B + 13)) x.toNatClampNeg v)) f) none) P := pz_wr hx (by omega) (by decide) (fun τ e => h τ (by subst e; exact ⟨g.1.up13 hD hi, g.2.tr (pc_fb.I _ _ _ (by decide))⟩))

theorem pc_l14 (g : pc_T D W B σ0 σ r e a dd p) (hi : i < 6) {inst : Decidable (ps_in x 6 = true)} {f : Int32 → Option (β × ps_S)} (hx : x = nI i) (h : ps_ok (f (r (59 + i))) P) : ps_ok (@ite _ (ps_in x 6 = true) inst (ps_let (σ.1 (B + 14) x.toNatClampNeg) f) none) P := pz_rd hx (by omega) (by decide) (g.1.rd14 hi) h
theorem pc_w14 (g : pc_T D W B σ0 σ r e a dd p) (hi : i < 6) {inst : Decidable (ps_in x 6 = true)} {f : ps_S → Option (β × ps_S)} (hx : x = nI i) (h : ∀ τ, pc_T D W B σ0 τ (upd r (59 + i) v) e a dd p → ps_ok (f τ) P) : ps_ok (@ite _ (ps_in x 6 = true) inst (ps_let (ps_rI σ (B + 14) (upd (σ.1 (B + 14)) x.toNatClampNeg v)) f) none) P := pz_wr hx (by omega) (by decide) (fun τ e => h τ (by subst e; exact ⟨g.1.up14 hi, g.2.tr (pc_fb.I _ _ _ (by decide))⟩))

theorem pc_l15 (g : pc_T D W B σ0 σ r e a dd p) (hi : i < 6) {inst : Decidable (ps_in x 6 = true)} {f : Int32 → Option (β × ps_S)} (hx : x = nI i) (h : ps_ok (f (r (65 + i))) P) : ps_ok (@ite _ (ps_in x 6 = true) inst (ps_let (σ.1 (B + 15) x.toNatClampNeg) f) none) P := pz_rd hx (by omega) (by decide) (g.1.rd15 hi) h
theorem pc_w15 (g : pc_T D W B σ0 σ r e a dd p) (hi : i < 6) {inst : Decidable (ps_in x 6 = true)} {f : ps_S → Option (β × ps_S)} (hx : x = nI i) (h : ∀ τ, pc_T D W B σ0 τ (upd r (65 + i) v) e a dd p → ps_ok (f τ) P) : ps_ok (@ite _ (ps_in x 6 = true) inst (ps_let (ps_rI σ (B + 15) (upd (σ.1 (B + 15)) x.toNatClampNeg v)) f) none) P := pz_wr hx (by omega) (by decide) (fun τ e => h τ (by subst e; exact ⟨g.1.up15 hi, g.2.tr (pc_fb.I _ _ _ (by decide))⟩))

theorem pc_l16 (g : pc_T D W B σ0 σ r e a dd p) (hi : i < 6) {inst : Decidable (ps_in x 6 = true)} {f : Int32 → Option (β × ps_S)} (hx : x = nI i) (h : ps_ok (f (r (71 + i))) P) : ps_ok (@ite _ (ps_in x 6 = true) inst (ps_let (σ.1 (B + 16) x.toNatClampNeg) f) none) P := pz_rd hx (by omega) (by decide) (g.1.rd16 hi) h
theorem pc_w16 (g : pc_T D W B σ0 σ r e a dd p) (hi : i < 6) {inst : Decidable (ps_in x 6 = true)} {f : ps_S → Option (β × ps_S)} (hx : x = nI i) (h : ∀ τ, pc_T D W B σ0 τ (upd r (71 + i) v) e a dd p → ps_ok (f τ) P) : ps_ok (@ite _ (ps_in x 6 = true) inst (ps_let (ps_rI σ (B + 16) (upd (σ.1 (B + 16)) x.toNatClampNeg v)) f) none) P := pz_wr hx (by omega) (by decide) (fun τ e => h τ (by subst e; exact ⟨g.1.up16 hi, g.2.tr (pc_fb.I _ _ _ (by decide))⟩))

theorem pc_l17 (g : pc_T D W B σ0 σ r e a dd p) (hi : i < 6) {inst : Decidable (ps_in x 6 = true)} {f : Int32 → Option (β × ps_S)} (hx : x = nI i) (h : ps_ok (f (r (77 + i))) P) : ps_ok (@ite _ (ps_in x 6 = true) inst (ps_let (σ.1 (B + 17) x.toNatClampNeg) f) none) P := pz_rd hx (by omega) (by decide) (g.1.rd17 hi) h
theorem pc_w17 (g : pc_T D W B σ0 σ r e a dd p) (hi : i < 6) {inst : Decidable (ps_in x 6 = true)} {f : ps_S → Option (β × ps_S)} (hx : x = nI i) (h : ∀ τ, pc_T D W B σ0 τ (upd r (77 + i) v) e a dd p → ps_ok (f τ) P) : ps_ok (@ite _ (ps_in x 6 = true) inst (ps_let (ps_rI σ (B + 17) (upd (σ.1 (B + 17)) x.toNatClampNeg v)) f) none) P := pz_wr hx (by omega) (by decide) (fun τ e => h τ (by subst e; exact ⟨g.1.up17 hi, g.2.tr (pc_fb.I _ _ _ (by decide))⟩))

theorem pc_lt (g : pc_T D W B σ0 σ r e a dd p) {f : Int32 → Option (β × ps_S)} (h : ps_ok (f (r 0)) P) : ps_ok (ps_let (σ.1 B 8) f) P := pz_l g.1.rdt h
theorem pc_wt (g : pc_T D W B σ0 σ r e a dd p) {f : ps_S → Option (β × ps_S)} (h : ∀ τ, pc_T D W B σ0 τ (upd r 0 v) e a dd p → ps_ok (f τ) P) : ps_ok (ps_let (ps_rI σ B (upd (σ.1 B) 8 v)) f) P := h _ ⟨g.1.tick, g.2.tr (pc_fb.I _ 0 _ (by decide))⟩
theorem pc_la (g : pc_T D W B σ0 σ r e a dd p) {f : Int32 → Option (β × ps_S)} (h : ps_ok (f a) P) : ps_ok (ps_let (σ.1 B 9) f) P := pz_l g.1.2.2.1 h
theorem pc_wa (g : pc_T D W B σ0 σ r e a dd p) {f : ps_S → Option (β × ps_S)} (h : ∀ τ, pc_T D W B σ0 τ r e v dd p → ps_ok (f τ) P) : ps_ok (ps_let (ps_rI σ B (upd (σ.1 B) 9 v)) f) P := h _ ⟨g.1.all, g.2.tr (pc_fb.I _ 0 _ (by decide))⟩
theorem pc_lp (g : pc_T D W B σ0 σ r e a dd p) {f : Int32 → Option (β × ps_S)} (h : ps_ok (f p.1) P) : ps_ok (ps_let (σ.1 B 10) f) P := pz_l g.1.2.2.2.2.1 h
theorem pc_l4 (g : pc_T D W B σ0 σ r e a dd p) (hi : i < 4) {inst : Decidable (ps_in x 4 = true)} {f : Int32 → Option (β × ps_S)} (hx : x = nI i) (h : ps_ok (f (dd i)) P) : ps_ok (@ite _ (ps_in x 4 = true) inst (ps_let (σ.1 (B + 4) x.toNatClampNeg) f) none) P := pz_rd hx hi (by decide) (g.1.2.2.2.1 i hi) h
theorem pc_w4 (g : pc_T D W B σ0 σ r e a dd p) (hi : i < 4) {inst : Decidable (ps_in x 4 = true)} {f : ps_S → Option (β × ps_S)} (hx : x = nI i) (h : ∀ τ, pc_T D W B σ0 τ r e a (upd dd i v) p → ps_ok (f τ) P) : ps_ok (@ite _ (ps_in x 4 = true) inst (ps_let (ps_rI σ (B + 4) (upd (σ.1 (B + 4)) x.toNatClampNeg v)) f) none) P := pz_wr hx hi (by decide) (fun τ e => h τ (by subst e; exact ⟨g.1.don, g.2.tr (pc_fb.I _ _ _ (by decide))⟩))
theorem pc_le (g : pc_T D W B σ0 σ r e a dd p) (hD : D ≤ 4) (hi : i < D) {inst : Decidable (ps_in x 4 = true)} {f : UInt64 → Option (β × ps_S)} (hx : x = nI i) (h : ps_ok (f (e i)) P) : ps_ok (@ite _ (ps_in x 4 = true) inst (ps_let (σ.2.2 (B + 6) x.toNatClampNeg) f) none) P := pz_rdD hx (by omega) (by decide) (by
  rw [← g.1.2.1]; unfold pc_e; rw [if_pos hi]) h
theorem pc_we (g : pc_T D W B σ0 σ r e a dd p) (hD : D ≤ 4) (hi : i < D) {inst : Decidable (ps_in x 4 = true)} {w : UInt64} {f : ps_S → Option (β × ps_S)} (hx : x = nI i) (h : ∀ τ, pc_T D W B σ0 τ r (vf_upd e i w) a dd p → ps_ok (f τ) P) : ps_ok (@ite _ (ps_in x 4 = true) inst (ps_let (ps_rD σ (B + 6) (vf_upd (σ.2.2 (B + 6)) x.toNatClampNeg w)) f) none) P := pz_wrD hx (by omega) (by decide) (fun τ e => h τ (by subst e; exact ⟨g.1.est hi, g.2.tr (pc_fb.D _ _)⟩))
end WALKC
/-- the same for the reference; its suppositions -/
def pg_p (D : Nat) (p : pa_P) (σ : ps_S) : Prop := σ.1 327 21 = p.1 ∧ (∀ d, d < D → (p.2.1 = nI d ↔ σ.1 327 22 = nI d)) ∧ p.2.2.1 = σ.1 327 23 ∧ (p.2.2.2 = 0 ↔ σ.1 327 25 ≠ 0)
def pg_T (h : pa_R) (D W : Nat) (σ0 σ : ps_S) (r : pa_R) (e : pa_D) (p : pa_P) : Prop := pg_r D W σ = r ∧ pg_e D σ = e ∧ pg_h σ = h ∧ pg_p D p σ ∧ pg_fr σ0 σ
section WALKG
variable {β : Type} {x v : Int32} {h : pa_R} {D W i k : Nat} {σ0 σ : ps_S} {r : pa_R} {e : pa_D} {p : pa_P} {P : β → ps_S → Prop}
theorem pg_fr.pp {τ : ps_S} (g : pg_fr σ τ) (q : pg_p D p σ) : pg_p D p τ := by
  unfold pg_p
  rw [g.1 327 (by decide) (by decide) (by decide)]
  exact q
theorem pg_T.of (hp : pg_p D p σ) : pg_T (pg_h σ) D W σ σ (pg_r D W σ) (pg_e D σ) p := ⟨rfl, rfl, rfl, hp, pg_fr.rf σ⟩
theorem pg_T.to {τ : ps_S} {r' : pa_R} {e' : pa_D} (g : pg_T h D W σ0 σ r e p) (hr : pg_r D W τ = r') (he : pg_e D τ = e') (hf : pg_fr σ τ) : pg_T h D W σ0 τ r' e' p := ⟨hr, he, hf.h.trans g.2.2.1, hf.pp g.2.2.2.1, g.2.2.2.2.tr hf⟩
theorem pg_T.re {σ1 : ps_S} (g : pg_T h D W σ0 σ r e p) (h1 : pg_fr σ1 σ) : pg_T h D W σ1 σ r e p := ⟨g.1, g.2.1, g.2.2.1, g.2.2.2.1, h1⟩
theorem pg_l (g : pg_T h D W σ0 σ r e p) (hk : k < 83) (h1 : k < 25 ∨ 29 ≤ k) (h2 : k < 53 + W ∨ 59 ≤ k) {inst : Decidable (ps_in x 83 = true)} {f : Int32 → Option (β × ps_S)} (hx : x = nI k) (hh : ps_ok (f (r k)) P) : ps_ok (@ite _ (ps_in x 83 = true) inst (ps_let (σ.1 335 x.toNatClampNeg) f) none) P := pz_rd hx hk (by decide) (by rw [← g.1, pg_rd hk h1 h2]) hh
theorem pg_w (g : pg_T h D W σ0 σ r e p) (hk : k < 83) (h1 : k < 25 ∨ 29 ≤ k) (h2 : k < 53 + W ∨ 59 ≤ k) {inst : Decidable (ps_in x 83 = true)} {f : ps_S → Option (β × ps_S)} (hx : x = nI k) (hh : ∀ τ, pg_T h D W σ0 τ (upd r k v) e p → ps_ok (f τ) P) : ps_ok (@ite _ (ps_in x 83 = true) inst (ps_let (ps_rI σ 335 (upd (σ.1 335) x.toNatClampNeg v)) f) none) P := pz_wr hx hk (by decide) (fun τ et => hh τ (by
  subst et
  exact g.to (by rw [pg_up hk h1 h2, g.1]) g.2.1 (pg_fr.I _ _ _ (by omega))))
theorem pg_lt (g : pg_T h D W σ0 σ r e p) {f : Int32 → Option (β × ps_S)} (hh : ps_ok (f (r 0)) P) : ps_ok (ps_let (σ.1 335 0) f) P := pz_l (by rw [← g.1, pg_rd (by decide) (by omega) (by omega)]) hh
theorem pg_wt (g : pg_T h D W σ0 σ r e p) {f : ps_S → Option (β × ps_S)} (hh : ∀ τ, pg_T h D W σ0 τ (upd r 0 v) e p → ps_ok (f τ) P) : ps_ok (ps_let (ps_rI σ 335 (upd (σ.1 335) 0 v)) f) P := hh _ (g.to (by rw [pg_up (by decide) (by omega) (by omega), g.1]) g.2.1 (pg_fr.I _ _ _ (by omega)))
theorem pg_hl (g : pg_T h D W σ0 σ r e p) {f : Int32 → Option (β × ps_S)} (k : Nat) (hk : k < 35 ∨ (949 ≤ k ∧ k < 1850)) (hh : ps_ok (f (h k)) P) : ps_ok (ps_let (σ.1 328 k) f) P := pz_l (by rw [← g.2.2.1, pg_hd hk]) hh
theorem pg_hr (g : pg_T h D W σ0 σ r e p) (hk : k < 35 ∨ (949 ≤ k ∧ k < 1850)) {inst : Decidable (ps_in x 5550 = true)} {f : Int32 → Option (β × ps_S)} (hx : x = nI k) (hh : ps_ok (f (h k)) P) : ps_ok (@ite _ (ps_in x 5550 = true) inst (ps_let (σ.1 328 x.toNatClampNeg) f) none) P := pz_rd hx (by omega) (by decide) (by rw [← g.2.2.1, pg_hd hk]) hh
theorem pg_lp (g : pg_T h D W σ0 σ r e p) {f : Int32 → Option (β × ps_S)} (hh : ps_ok (f p.1) P) : ps_ok (ps_let (σ.1 327 21) f) P := pz_l g.2.2.2.1.1 hh
theorem pg_le (g : pg_T h D W σ0 σ r e p) (hD : D ≤ 4) (hi : i < D) {inst : Decidable (ps_in x 4 = true)} {f : UInt64 → Option (β × ps_S)} (hx : x = nI i) (hh : ps_ok (f (e i)) P) : ps_ok (@ite _ (ps_in x 4 = true) inst (ps_let (σ.2.2 336 x.toNatClampNeg) f) none) P := pz_rdD hx (by omega) (by decide) (by
  rw [← g.2.1]; unfold pg_e; rw [if_pos hi]) hh
theorem pg_we (g : pg_T h D W σ0 σ r e p) (hD : D ≤ 4) (hi : i < D) {inst : Decidable (ps_in x 4 = true)} {w : UInt64} {f : ps_S → Option (β × ps_S)} (hx : x = nI i) (hh : ∀ τ, pg_T h D W σ0 τ r (vf_upd e i w) p → ps_ok (f τ) P) : ps_ok (@ite _ (ps_in x 4 = true) inst (ps_let (ps_rD σ 336 (vf_upd (σ.2.2 336) x.toNatClampNeg w)) f) none) P := pz_wrD hx (by omega) (by decide) (fun τ et => hh τ (by
  subst et
  exact g.to g.1 (by rw [pg_eU hi, g.2.1]) (pg_fr.D _ _)))
end WALKG
