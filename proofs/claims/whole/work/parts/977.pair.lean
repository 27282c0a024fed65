/-! both readers in step -/
def pr2 {α β : Type} (oc : Option (α × ps_S)) (og : Option (β × ps_S)) (Q : α → ps_S → β → ps_S → Prop) : Prop := ∃ a σ c τ, oc = some (a, σ) ∧ og = some (c, τ) ∧ Q a σ c τ
section PR2
variable {α β γ δ : Type} {oc : Option (α × ps_S)} {og : Option (β × ps_S)} {Q : α → ps_S → β → ps_S → Prop}
theorem pr2.d {a : α} {σ : ps_S} {c : β} {τ : ps_S} (h : Q a σ c τ) : pr2 (some (a, σ)) (some (c, τ)) Q := ⟨a, σ, c, τ, rfl, rfl, h⟩
theorem pr2.im {R : α → ps_S → β → ps_S → Prop} (h : pr2 oc og Q) (hi : ∀ a σ c τ, Q a σ c τ → R a σ c τ) : pr2 oc og R := by
  obtain ⟨a, σ, c, τ, h1, h2, h3⟩ := h
  exact ⟨a, σ, c, τ, h1, h2, hi _ _ _ _ h3⟩
theorem pr2.b {R : γ → ps_S → δ → ps_S → Prop} {f : α → ps_S → Option (γ × ps_S)} {g : β → ps_S → Option (δ × ps_S)} (h : pr2 oc og Q) (k : ∀ a σ c τ, Q a σ c τ → pr2 (f a σ) (g c τ) R) : pr2 (ps_bd oc f) (ps_bd og g) R := by
  obtain ⟨a, σ, c, τ, rfl, rfl, h3⟩ := h
  exact k a σ c τ h3
theorem pr2.l {R : γ → ps_S → β → ps_S → Prop} {f : α → ps_S → Option (γ × ps_S)} {a : α} {σ : ps_S} (h : oc = some (a, σ)) (k : pr2 (f a σ) og R) : pr2 (ps_bd oc f) og R := by rw [h]; exact k
theorem pr2.r {R : α → ps_S → δ → ps_S → Prop} {g : β → ps_S → Option (δ × ps_S)} {c : β} {τ : ps_S} (h : og = some (c, τ)) (k : pr2 oc (g c τ) R) : pr2 oc (ps_bd og g) R := by rw [h]; exact k
theorem pr2.lt {p : Prop} {i : Decidable p} {B : Option (α × ps_S)} (h : p) (k : pr2 oc og Q) : pr2 (@ite _ p i oc B) og Q := by rw [if_pos h]; exact k
theorem pr2.le {p : Prop} {i : Decidable p} {B : Option (α × ps_S)} (h : ¬ p) (k : pr2 oc og Q) : pr2 (@ite _ p i B oc) og Q := by rw [if_neg h]; exact k
theorem pr2.rt {p : Prop} {i : Decidable p} {B : Option (β × ps_S)} (h : p) (k : pr2 oc og Q) : pr2 oc (@ite _ p i og B) Q := by rw [if_pos h]; exact k
theorem pr2.re {p : Prop} {i : Decidable p} {B : Option (β × ps_S)} (h : ¬ p) (k : pr2 oc og Q) : pr2 oc (@ite _ p i B og) Q := by rw [if_neg h]; exact k
theorem pr2.ll {ε : Type} {a w : ε} {f : ε → Option (α × ps_S)} (h : a = w) (k : pr2 (f w) og Q) : pr2 (ps_let a f) og Q := by rw [h]; exact k
theorem pr2.rl {ε : Type} {a w : ε} {f : ε → Option (β × ps_S)} (h : a = w) (k : pr2 oc (f w) Q) : pr2 oc (ps_let a f) Q := by rw [h]; exact k
end PR2
def pr_R (n : Nat) (b : Nat → Nat) (st : Nat) (σ τ : ps_S) : Prop := pc_K n b st σ ∧ pg_K n b st τ ∧ τ.1 327 12 = 0 ∧ (σ.1 11 0 = 0 ∧ σ.1 11 1 = -1)
def pr_F (σ τ : ps_S) : Prop := (∃ f, 1 ≤ f ∧ f ≤ 4 ∧ σ.1 11 0 = nI f ∧ τ.1 327 12 = nI f) ∧ σ.1 11 1 = τ.1 327 13
theorem pr_F.nz {σ τ : ps_S} (h : pr_F σ τ) : ¬ τ.1 327 12 = 0 := by
  obtain ⟨⟨f, f1, f2, f3, f4⟩, _⟩ := h
  rw [f4]
  exact nI_ne0 (by omega) (by omega)
section PAIR
variable {n : Nat} {b : Nat → Nat} {σ τ : ps_S} {st : Nat}
theorem pr_adv (h : pr_R n b st σ τ) : pr2 (qX5_advance σ) (qX9_steps τ) (fun _ σ' _ τ' => pr_R n b (tk_st n b (tk_sp n b st)) σ' τ' ∧ pf_a σ σ' ∧ pf_g τ τ') := by
  obtain ⟨hc, hg, hz, h0, h1⟩ := h
  have hsp := tk_sp_n (b := b) hc.2.2.2.2.2
  obtain ⟨x, e1, k1, f1⟩ := pc_adv hc.1 hc.2.2.1 hsp
  obtain ⟨y, e2, k2, f2⟩ := pg_step hg.1 hg.2.2.1 hsp
  refine ⟨x.1, x.2, y.1, y.2, e1, e2, ⟨k1, k2, ?_, ?_, ?_⟩, f1, f2⟩
  · rw [f2.2.1 12 (by decide) (by decide) (by decide) (by decide)]; exact hz
  · rw [f1.2.1 0 (by omega)]; exact h0
  · rw [f1.2.1 1 (by omega)]; exact h1
theorem tk_adv_gt (h : st < n) : st + 1 ≤ tk_st n b (tk_sp n b st) := by
  have h1 := tk_sp_gt (b := b) h
  have h2 := tk_st_le (n := n) (b := b) (s := tk_sp n b st)
  omega
/-- refused -/
def pf_r (σ σ' : ps_S) : Prop := (∀ k, k ≠ 11 → σ'.1 k = σ.1 k) ∧ (∀ j, 2 ≤ j → σ'.1 11 j = σ.1 11 j) ∧ σ'.2 = σ.2
def pf_f (τ τ' : ps_S) : Prop := (∀ k, k ≠ 327 → τ'.1 k = τ.1 k) ∧ (∀ j, j ≠ 12 → j ≠ 13 → τ'.1 327 j = τ.1 327 j) ∧ τ'.2 = τ.2
theorem pr_refuse {w : Nat} (hw : 1 ≤ w ∧ w ≤ 4) (h : pr_R n b st σ τ) : pr2 (qX5_refuse (nI w) σ) (qX9_fails (nI w) τ) (fun a σ' _ τ' => a = 0 ∧ pr_F σ' τ' ∧ pf_r σ σ' ∧ pf_f τ τ') := by
  obtain ⟨⟨_, k6, _, k5, _⟩, ⟨_, g7, _, g10, _⟩, hz, -⟩ := h
  have fr : ∀ u v, pf_r σ (ps_rI (ps_rI σ 11 (upd (σ.1 11) 0 u)) 11 (upd ((ps_rI σ 11 (upd (σ.1 11) 0 u)).1 11) 1 v)) := fun u v => ⟨fun k hk => by rw [ps_rI_ne _ _ hk, ps_rI_ne _ _ hk], fun j hj => by rw [ps_rI_at, upd_ne _ _ (by omega), ps_rI_at, upd_ne _ _ (by omega)], rfl⟩
  have fg : ∀ u v, pf_f τ (ps_rI (ps_rI τ 327 (upd (τ.1 327) 12 u)) 327 (upd ((ps_rI τ 327 (upd (τ.1 327) 12 u)).1 327) 13 v)) := fun u v => ⟨fun k hk => by rw [ps_rI_ne _ _ hk, ps_rI_ne _ _ hk], fun j h1 h2 => by rw [ps_rI_at, upd_ne _ _ h2, ps_rI_at, upd_ne _ _ h1], rfl⟩
  have a6 : ∀ u, (ps_rI σ 11 (upd (σ.1 11) 0 u)).1 11 6 = nI st := fun u => by rw [ps_rI_at, upd_ne _ _ (by decide)]; exact k6
  have b7 : ∀ u, (ps_rI τ 327 (upd (τ.1 327) 12 u)).1 327 7 = nI st := fun u => by rw [ps_rI_at, upd_ne _ _ (by decide)]; exact g7
  have fin : ∀ f, 1 ≤ f ∧ f ≤ 4 → pr_F (ps_rI (ps_rI σ 11 (upd (σ.1 11) 0 (nI f))) 11 (upd ((ps_rI σ 11 (upd (σ.1 11) 0 (nI f))).1 11) 1 (nI st))) (ps_rI (ps_rI τ 327 (upd (τ.1 327) 12 (nI f))) 327 (upd ((ps_rI τ 327 (upd (τ.1 327) 12 (nI f))).1 327) 13 (nI st))) := fun f hf => by
    refine ⟨⟨f, hf.1, hf.2, ?_, ?_⟩, ?_⟩
    · rw [ps_rI_at, upd_ne _ _ (by decide), ps_rI_at, upd_self]
    · rw [ps_rI_at, upd_ne _ _ (by decide), ps_rI_at, upd_self]
    · rw [ps_rI_at, upd_self, ps_rI_at, upd_self]
  unfold qX5_refuse qX9_fails
  refine pr2.ll k5 ?_
  refine pr2.rl hz ?_
  refine pr2.rt rfl ?_
  refine pr2.rl g10 ?_
  by_cases c : tk_cd n b st = 27
  · refine pr2.lt (tk_kd4.mpr c) ?_
    refine pr2.rt (by rw [c]; rfl) ?_
    rw [pz_lt, pz_lt, pz_lt, pz_lt, pz_lt, pz_lt]
    rw [a6, b7]
    exact pr2.d ⟨rfl, fin 1 (by decide), fr _ _, fg _ _⟩
  · refine pr2.le (fun h => c (tk_kd4.mp h)) ?_
    have hlt : tk_cd n b st < 2 ^ 31 := by
      by_cases q : tk_cd n b st ≤ 27
      · omega
      · obtain ⟨w1, w2, w3⟩ := tk_cd_s (show 28 ≤ tk_cd n b st by omega)
        have : tk_SG.idxOf (b st) ≤ 12 := List.idxOf_le_length
        omega
    refine pr2.re (pc_lit (k := 27) hlt (by decide) c) ?_
    rw [pz_lt, pz_lt, pz_lt, pz_lt, pz_lt, pz_lt]
    rw [a6, b7]
    exact pr2.d ⟨rfl, fin w hw, fr _ _, fg _ _⟩
end PAIR
/-! laws so far -/
def pr_C (cs : List Nat) (σ τ : ps_S) : Prop := σ.1 9 1 = nI cs.length ∧ τ.1 332 949 = nI cs.length ∧ ∀ j, j < cs.length → σ.1 10 j = nI (pa_mp (cs.getD j 0)) ∧ τ.1 332 (950 + j) = nI (cs.getD j 0)
def pe_c (σ σ' : ps_S) : Prop := (∀ k, k ≠ 9 → k ≠ 10 → k ≠ 11 → σ'.1 k = σ.1 k) ∧ (∀ j, j ≠ 1 → σ'.1 9 j = σ.1 9 j) ∧ (∀ j, j = 4 ∨ j = 11 → σ'.1 11 j = σ.1 11 j) ∧ σ'.2 = σ.2
def pe_g (τ τ' : ps_S) : Prop := (∀ k, k ≠ 327 → k ≠ 332 → τ'.1 k = τ.1 k) ∧ (∀ j, j < 7 ∨ j = 9 ∨ 14 ≤ j → τ'.1 327 j = τ.1 327 j) ∧ (∀ j, j < 949 → τ'.1 332 j = τ.1 332 j) ∧ τ'.2 = τ.2
theorem pe_c.rf (σ : ps_S) : pe_c σ σ := ⟨fun _ _ _ _ => rfl, fun _ _ => rfl, fun _ _ => rfl, rfl⟩
theorem pe_g.rf (σ : ps_S) : pe_g σ σ := ⟨fun _ _ _ => rfl, fun _ _ => rfl, fun _ _ => rfl, rfl⟩
theorem pe_c.tr {σ τ υ : ps_S} (h : pe_c σ τ) (g : pe_c τ υ) : pe_c σ υ := ⟨fun k a b c => (g.1 k a b c).trans (h.1 k a b c), fun j a => (g.2.1 j a).trans (h.2.1 j a), fun j a => (g.2.2.1 j a).trans (h.2.2.1 j a), g.2.2.2.trans h.2.2.2⟩
theorem pe_g.tr {σ τ υ : ps_S} (h : pe_g σ τ) (g : pe_g τ υ) : pe_g σ υ := ⟨fun k a b => (g.1 k a b).trans (h.1 k a b), fun j a => (g.2.1 j a).trans (h.2.1 j a), fun j a => (g.2.2.1 j a).trans (h.2.2.1 j a), g.2.2.2.trans h.2.2.2⟩
theorem pf_a.e {σ τ : ps_S} (h : pf_a σ τ) : pe_c σ τ := ⟨fun k _ _ c => h.1 k c, fun j _ => by rw [h.1 9 (by decide)], fun j hj => h.2.1 j (by omega), h.2.2⟩
theorem pf_r.e {σ τ : ps_S} (h : pf_r σ τ) : pe_c σ τ := ⟨fun k _ _ c => h.1 k c, fun j _ => by rw [h.1 9 (by decide)], fun j hj => h.2.1 j (by omega), h.2.2⟩
theorem pf_g.e {σ τ : ps_S} (h : pf_g σ τ) : pe_g σ τ := ⟨fun k c _ => h.1 k c, fun j hj => h.2.1 j (by omega) (by omega) (by omega) (by omega), fun j _ => by rw [h.1 332 (by decide)], h.2.2⟩
theorem pf_f.e {σ τ : ps_S} (h : pf_f σ τ) : pe_g σ τ := ⟨fun k c _ => h.1 k c, fun j hj => h.2.1 j (by omega) (by omega), fun j _ => by rw [h.1 332 (by decide)], h.2.2⟩
section CODE
variable {n : Nat} {b : Nat → Nat} {σ τ σ' τ' : ps_S} {st : Nat} {cs : List Nat}
theorem pr_C.congr (h : pr_C cs σ τ) (h1 : σ'.1 9 1 = σ.1 9 1) (h2 : σ'.1 10 = σ.1 10) (h3 : τ'.1 332 = τ.1 332) : pr_C cs σ' τ' := by
  unfold pr_C
  rw [h1, h2, h3]
  exact h
theorem pr_app {c : Nat} (h : pr_C cs σ τ) (hl : cs.length < 900) (hz : τ.1 327 12 = 0) : pr2 (qX3_append 2 (nI (pa_mp c)) σ) (qX9_codes (nI c) τ) (fun _ σ' _ τ' => pr_C (cs ++ [c]) σ' τ' ∧ pe_c σ σ' ∧ pe_g τ τ' ∧ σ'.1 11 = σ.1 11 ∧ τ'.1 327 = τ.1 327) := by
  obtain ⟨h1, h2, h3⟩ := h
  unfold qX3_append qX9_codes
  have e7 : (2 + 7 : Nat) = 9 := rfl
  have e8 : (2 + 8 : Nat) = 10 := rfl
  rw [e7, e8]
  refine pr2.ll h1 ?_
  refine pr2.le (nI_ge (b := 900) hl (by decide)) ?_
  refine pr2.ll h1 ?_
  refine pr2.lt (pz_ini hl (by decide)) ?_
  rw [nI_clamp (by omega), pz_lt]
  refine pr2.ll (w := nI cs.length) (by rw [ps_rI_ne _ _ (by decide)]; exact h1) ?_
  rw [pz_lt, nI_1]
  refine pr2.rl hz ?_
  refine pr2.rt rfl ?_
  refine pr2.rl h2 ?_
  rw [show (950 : Int32) + nI cs.length = nI (950 + cs.length) from nI_add 950 _]
  refine pr2.rt (pz_ini (by omega) (by decide)) ?_
  rw [nI_clamp (by omega), pz_lt]
  refine pr2.rl (w := nI cs.length) (by rw [ps_rI_at, upd_ne _ _ (by omega)]; exact h2) ?_
  rw [pz_lt, nI_1]
  refine pr2.d ⟨⟨?_, ?_, fun j hj => ?_⟩, ⟨fun k k1 k2 k3 => ?_, fun j hj => ?_, fun j hj => ?_, rfl⟩, ⟨fun k k1 k2 => ?_, fun j hj => ?_, fun j hj => ?_, rfl⟩, ?_, ?_⟩
  · rw [ps_rI_at, upd_self, List.length_append]; rfl
  · rw [ps_rI_at, upd_self, List.length_append]; rfl
  · rw [List.length_append] at hj
    have hj' : j < cs.length + 1 := hj
    rw [ps_rI_ne _ _ (by decide), ps_rI_at, ps_rI_at, ps_rI_at]
    by_cases e : j = cs.length
    · subst e
      have eg : (cs ++ [c]).getD cs.length 0 = c := by rw [List.getD_eq_getElem?_getD, List.getElem?_append_right (Nat.le_refl _), Nat.sub_self]; rfl
      rw [upd_self, eg, upd_ne _ _ (by omega), upd_self]
      exact ⟨rfl, rfl⟩
    · have eg : (cs ++ [c]).getD j 0 = cs.getD j 0 := by rw [List.getD_eq_getElem?_getD, List.getD_eq_getElem?_getD, List.getElem?_append_left (by omega)]
      rw [upd_ne _ _ e, upd_ne _ _ (by omega), upd_ne _ _ (by omega), eg]
      exact h3 j (by omega)
  · rw [ps_rI_ne _ _ k1, ps_rI_ne _ _ k2]
  · rw [ps_rI_at, upd_ne _ _ hj, ps_rI_ne _ _ (by decide)]
  · rw [ps_rI_ne _ _ (by decide), ps_rI_ne _ _ (by decide)]
  · rw [ps_rI_ne _ _ k2, ps_rI_ne _ _ k2]
  · rw [ps_rI_ne _ _ (by decide), ps_rI_ne _ _ (by decide)]
  · rw [ps_rI_at, upd_ne _ _ (by omega), ps_rI_at, upd_ne _ _ (by omega)]
  · rw [ps_rI_ne _ _ (by decide), ps_rI_ne _ _ (by decide)]
  · rw [ps_rI_ne _ _ (by decide), ps_rI_ne _ _ (by decide)]
/-- a code laid by the class though all has failed -/
theorem pc_app0 {m : Nat} {v : Int32} (hm : m ≤ 900) (h : σ.1 9 1 = nI m) : ps_ok (qX3_append 2 v σ) (fun _ σ' => pe_c σ σ' ∧ σ'.1 11 = σ.1 11 ∧ ∃ m', m' ≤ 900 ∧ σ'.1 9 1 = nI m') := by
  unfold qX3_append
  have e7 : (2 + 7 : Nat) = 9 := rfl
  have e8 : (2 + 8 : Nat) = 10 := rfl
  rw [e7, e8]
  refine pz_l h ?_
  by_cases c : 900 ≤ m
  · exact pz_t (nI_le (a := 900) c (by omega)) (pz_done ⟨pe_c.rf _, rfl, m, hm, h⟩)
  refine pz_e (nI_ge (b := 900) (by omega) (by decide)) ?_
  refine pz_l h ?_
  refine pz_wr rfl (by omega) (by decide) (fun τ et => ?_)
  refine pz_l (w := nI m) (by rw [et, ps_rI_ne _ _ (by decide)]; exact h) ?_
  rw [pz_lt, nI_1]
  refine pz_done ⟨⟨fun k k1 k2 k3 => ?_, fun j hj => ?_, fun j hj => ?_, by rw [et]; rfl⟩, ?_, m + 1, by omega, by rw [ps_rI_at, upd_self]⟩
  · rw [ps_rI_ne _ _ k1, et, ps_rI_ne _ _ k2]
  · rw [ps_rI_at, upd_ne _ _ hj, et, ps_rI_ne _ _ (by decide)]
  · rw [ps_rI_ne _ _ (by decide), et, ps_rI_ne _ _ (by decide)]
  · rw [ps_rI_ne _ _ (by decide), et, ps_rI_ne _ _ (by decide)]
end CODE
