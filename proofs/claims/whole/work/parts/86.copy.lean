/-! rows copied by loops -/
def pz_cp {α : Type} (s d : Nat → α) (A B i N : Nat) : Nat → α := fun j => if B + i ≤ j ∧ j < B + N then s (A + (j - B)) else d j
theorem pz_cp_in {α : Type} {s d : Nat → α} {A B i N k : Nat} (h1 : i ≤ k) (h2 : k < N) : pz_cp s d A B i N (B + k) = s (A + k) := by
  unfold pz_cp
  rw [if_pos (by omega), Nat.add_sub_cancel_left]
theorem pz_cp_out {α : Type} {s d : Nat → α} {A B i N j : Nat} (h : j < B + i ∨ B + N ≤ j) : pz_cp s d A B i N j = d j := by
  unfold pz_cp
  rw [if_neg (by omega)]
theorem ps_rI_2' (σ : ps_S) (k : Nat) (f g : pa_R) : ps_rI (ps_rI σ k f) k g = ps_rI σ k g := by
  unfold ps_rI
  refine Prod.ext ?_ rfl
  funext a
  show (if a = k then g else if a = k then f else σ.1 a) = if a = k then g else σ.1 a
  by_cases c : a = k
  · rw [if_pos c, if_pos c]
  · rw [if_neg c, if_neg c, if_neg c]
theorem ps_rD_2' (σ : ps_S) (k : Nat) (f g : pa_D) : ps_rD (ps_rD σ k f) k g = ps_rD σ k g := by
  unfold ps_rD
  refine Prod.ext rfl (Prod.ext rfl ?_)
  funext a
  show (if a = k then g else if a = k then f else σ.2.2 a) = if a = k then g else σ.2.2 a
  by_cases c : a = k
  · rw [if_pos c, if_pos c]
  · rw [if_neg c, if_neg c, if_neg c]
theorem ps_rI_id (σ : ps_S) (k : Nat) {f : pa_R} (h : f = σ.1 k) : ps_rI σ k f = σ := by
  subst h
  unfold ps_rI
  refine Prod.ext ?_ rfl
  funext a
  show (if a = k then σ.1 k else σ.1 a) = σ.1 a
  by_cases c : a = k
  · rw [if_pos c, c]
  · rw [if_neg c]
theorem ps_rD_id (σ : ps_S) (k : Nat) {f : pa_D} (h : f = σ.2.2 k) : ps_rD σ k f = σ := by
  subst h
  unfold ps_rD
  refine Prod.ext rfl (Prod.ext rfl ?_)
  funext a
  show (if a = k then σ.2.2 k else σ.2.2 a) = σ.2.2 a
  by_cases c : a = k
  · rw [if_pos c, c]
  · rw [if_neg c]
theorem pz_cpI {F : Nat → Int32 → ps_S → Option (Int32 × ps_S)} {N cs cd m1 m2 A B : Nat} {nN : Int32} {a b : ps_S → Int32 → Int32} (Inv : ps_S → Prop)
    (hF : ∀ n x σ, F (n + 1) x σ = if nN ≤ x then some (x, σ) else if ps_in (a σ x) m1 = true then ps_let (σ.1 cs (a σ x).toNatClampNeg) fun v => if ps_in (b σ x) m2 = true then ps_let (ps_rI σ cd (upd (σ.1 cd) (b σ x).toNatClampNeg v)) fun σ3 => ps_let (x + 1) fun v4 => F n v4 σ3 else none else none)
    (hN : nN = nI N) (hN2 : N < 2 ^ 31) (ha : ∀ σ k, Inv σ → k < N → a σ (nI k) = nI (A + k)) (hb : ∀ σ k, Inv σ → k < N → b σ (nI k) = nI (B + k)) (h1 : A + N ≤ m1) (h2 : B + N ≤ m2) (h3 : m1 ≤ 2147483648) (h4 : m2 ≤ 2147483648)
    (hd : cs ≠ cd ∨ ∀ k k', k' < k → k < N → B + k' ≠ A + k) (hI : ∀ σ k v, Inv σ → k < N → Inv (ps_rI σ cd (upd (σ.1 cd) (B + k) v))) :
    ∀ (m i fuel : Nat) (σ : ps_S), i + m = N → m < fuel → Inv σ → F fuel (nI i) σ = some (nI N, ps_rI σ cd (pz_cp (σ.1 cs) (σ.1 cd) A B i N)) := by
  intro m
  induction m with
  | zero =>
    intro i fuel σ e1 e2 hi
    obtain ⟨f, rfl⟩ : ∃ f, fuel = f + 1 := ⟨fuel - 1, by omega⟩
    have : i = N := by omega
    subst this
    rw [hF, hN, if_pos (nI_le (Nat.le_refl _) hN2), ps_rI_id]
    funext j
    exact pz_cp_out (by omega)
  | succ m ih =>
    intro i fuel σ e1 e2 hi
    obtain ⟨f, rfl⟩ : ∃ f, fuel = f + 1 := ⟨fuel - 1, by omega⟩
    have hz := ih (i + 1) f (ps_rI σ cd (upd (σ.1 cd) (B + i) (σ.1 cs (A + i)))) (by omega) (by omega) (hI σ i _ hi (by omega))
    rw [hF, hN, if_neg (nI_ge (by omega) hN2), ha σ i hi (by omega), hb σ i hi (by omega), if_pos (pz_ini (by omega) h3), nI_clamp (n := A + i) (by omega), pz_lt, if_pos (pz_ini (by omega) h4), nI_clamp (n := B + i) (by omega), pz_lt, pz_lt, nI_1, hz, ps_rI_2']
    congr 3
    funext j
    by_cases c1 : j = B + i
    · subst c1
      rw [pz_cp_out (by omega), pz_cp_in (Nat.le_refl _) (by omega), ps_rI_at, upd_self]
    · by_cases c2 : B + (i + 1) ≤ j ∧ j < B + N
      · obtain ⟨k, rfl⟩ : ∃ k, j = B + k := ⟨j - B, by omega⟩
        rw [pz_cp_in (by omega) (by omega), pz_cp_in (by omega) (by omega)]
        by_cases c3 : cs = cd
        · rw [c3, ps_rI_at]
          rcases hd with hd | hd
          · exact absurd c3 hd
          · rw [upd_ne _ _ (fun hh => hd k i (by omega) (by omega) hh.symm)]
        · rw [ps_rI_ne _ _ c3]
      · rw [pz_cp_out (by omega), pz_cp_out (by omega), ps_rI_at, upd_ne _ _ c1]
theorem pz_cpD {F : Nat → Int32 → ps_S → Option (Int32 × ps_S)} {N cs cd m1 m2 A B : Nat} {nN : Int32} {a b : ps_S → Int32 → Int32} (Inv : ps_S → Prop)
    (hF : ∀ n x σ, F (n + 1) x σ = if nN ≤ x then some (x, σ) else if ps_in (a σ x) m1 = true then ps_let (σ.2.2 cs (a σ x).toNatClampNeg) fun v => if ps_in (b σ x) m2 = true then ps_let (ps_rD σ cd (vf_upd (σ.2.2 cd) (b σ x).toNatClampNeg v)) fun σ3 => ps_let (x + 1) fun v4 => F n v4 σ3 else none else none)
    (hN : nN = nI N) (hN2 : N < 2 ^ 31) (ha : ∀ σ k, Inv σ → k < N → a σ (nI k) = nI (A + k)) (hb : ∀ σ k, Inv σ → k < N → b σ (nI k) = nI (B + k)) (h1 : A + N ≤ m1) (h2 : B + N ≤ m2) (h3 : m1 ≤ 2147483648) (h4 : m2 ≤ 2147483648)
    (hd : cs ≠ cd ∨ ∀ k k', k' < k → k < N → B + k' ≠ A + k) (hI : ∀ σ k v, Inv σ → k < N → Inv (ps_rD σ cd (vf_upd (σ.2.2 cd) (B + k) v))) :
    ∀ (m i fuel : Nat) (σ : ps_S), i + m = N → m < fuel → Inv σ → F fuel (nI i) σ = some (nI N, ps_rD σ cd (pz_cp (σ.2.2 cs) (σ.2.2 cd) A B i N)) := by
  intro m
  induction m with
  | zero =>
    intro i fuel σ e1 e2 hi
    obtain ⟨f, rfl⟩ : ∃ f, fuel = f + 1 := ⟨fuel - 1, by omega⟩
    have : i = N := by omega
    subst this
    rw [hF, hN, if_pos (nI_le (Nat.le_refl _) hN2), ps_rD_id]
    funext j
    exact pz_cp_out (by omega)
  | succ m ih =>
    intro i fuel σ e1 e2 hi
    obtain ⟨f, rfl⟩ : ∃ f, fuel = f + 1 := ⟨fuel - 1, by omega⟩
    have hz := ih (i + 1) f (ps_rD σ cd (vf_upd (σ.2.2 cd) (B + i) (σ.2.2 cs (A + i)))) (by omega) (by omega) (hI σ i _ hi (by omega))
    rw [hF, hN, if_neg (nI_ge (by omega) hN2), ha σ i hi (by omega), hb σ i hi (by omega), if_pos (pz_ini (by omega) h3), nI_clamp (n := A + i) (by omega), pz_lt, if_pos (pz_ini (by omega) h4), nI_clamp (n := B + i) (by omega), pz_lt, pz_lt, nI_1, hz, ps_rD_2']
    congr 3
    funext j
    by_cases c1 : j = B + i
    · subst c1
      rw [pz_cp_out (by omega), pz_cp_in (Nat.le_refl _) (by omega), ps_rD_at, vf_self]
    · by_cases c2 : B + (i + 1) ≤ j ∧ j < B + N
      · obtain ⟨k, rfl⟩ : ∃ k, j = B + k := ⟨j - B, by omega⟩
        rw [pz_cp_in (by omega) (by omega), pz_cp_in (by omega) (by omega)]
        by_cases c3 : cs = cd
        · rw [c3, ps_rD_at]
          rcases hd with hd | hd
          · exact absurd c3 hd
          · rw [vf_ne _ _ (fun hh => hd k i (by omega) (by omega) hh.symm)]
        · rw [ps_rD_ne _ _ c3]
      · rw [pz_cp_out (by omega), pz_cp_out (by omega), ps_rD_at, vf_ne _ _ c1]
/-! what a question leaves of the reference, and of the class -/
def pg_kp (σ τ : ps_S) : Prop := (∀ k, k < 327 → τ.1 k = σ.1 k ∧ τ.2.1 k = σ.2.1 k ∧ τ.2.2 k = σ.2.2 k) ∧ (∀ k, k = 328 ∨ k = 330 ∨ k = 331 ∨ k = 342 ∨ k = 343 → τ.1 k = σ.1 k) ∧ τ.2.1 344 = σ.2.1 344 ∧ τ.2.2 329 = σ.2.2 329 ∧ ∀ j, j = 6 ∨ j = 14 ∨ j = 15 → τ.1 327 j = σ.1 327 j
theorem pg_kp.rf (σ : ps_S) : pg_kp σ σ := ⟨fun _ _ => ⟨rfl, rfl, rfl⟩, fun _ _ => rfl, rfl, rfl, fun _ _ => rfl⟩
theorem pg_kp.tr {σ τ υ : ps_S} (h : pg_kp σ τ) (g : pg_kp τ υ) : pg_kp σ υ := ⟨fun k hk => ⟨(g.1 k hk).1.trans (h.1 k hk).1, (g.1 k hk).2.1.trans (h.1 k hk).2.1, (g.1 k hk).2.2.trans (h.1 k hk).2.2⟩, fun k hk => (g.2.1 k hk).trans (h.2.1 k hk), g.2.2.1.trans h.2.2.1, g.2.2.2.1.trans h.2.2.2.1, fun j hj => (g.2.2.2.2 j hj).trans (h.2.2.2.2 j hj)⟩
theorem pg_kp.I (σ : ps_S) {c : Nat} (f : pa_R) (hc : c = 332 ∨ c = 333 ∨ c = 334 ∨ c = 335 ∨ c = 337 ∨ c = 339 ∨ c = 340) : pg_kp σ (ps_rI σ c f) := ⟨fun k hk => ⟨ps_rI_ne _ _ (by omega), rfl, rfl⟩, fun k hk => ps_rI_ne _ _ (by omega), rfl, rfl, fun j _ => by rw [ps_rI_ne _ _ (by omega)]⟩
theorem pg_kp.D (σ : ps_S) {c : Nat} (f : pa_D) (hc : c = 336 ∨ c = 338 ∨ c = 341) : pg_kp σ (ps_rD σ c f) := ⟨fun k hk => ⟨rfl, rfl, ps_rD_ne _ _ (by omega)⟩, fun k hk => rfl, rfl, ps_rD_ne _ _ (by omega), fun j _ => rfl⟩
theorem pg_kp.F (σ : ps_S) {j : Nat} (v : Int32) (hj : j ≠ 6 ∧ j ≠ 14 ∧ j ≠ 15) : pg_kp σ (ps_rI σ 327 (upd (σ.1 327) j v)) := ⟨fun k hk => ⟨ps_rI_ne _ _ (by omega), rfl, rfl⟩, fun k hk => ps_rI_ne _ _ (by omega), rfl, rfl, fun i hi => by rw [ps_rI_at, upd_ne _ _ (by omega)]⟩
theorem pg_fr.kp {σ τ : ps_S} (h : pg_fr σ τ) : pg_kp σ τ := ⟨fun k hk => ⟨h.1 k (by omega) (by omega) (by omega), by rw [h.2.1], h.2.2 k (by omega)⟩, fun k hk => h.1 k (by omega) (by omega) (by omega), by rw [h.2.1], h.2.2 329 (by omega), fun j _ => by rw [h.1 327 (by omega) (by omega) (by omega)]⟩
/-- rows of a state, and a host, where the reference keeps them -/
def pg_nr (D W o : Nat) (σ : ps_S) : pa_R := pa_can D W (fun k => σ.1 328 (o + k))
def pg_ne (D o : Nat) (σ : ps_S) : pa_D := fun k => if k < D then σ.2.2 329 (o + k) else 0
def pg_hh (o : Nat) (σ : ps_S) : pa_R := fun k => if k < 35 ∨ (949 ≤ k ∧ k < 1850) then σ.1 328 (o + k) else 0
theorem pg_hh0 (σ : ps_S) : pg_hh 0 σ = pg_h σ := by
  funext k
  unfold pg_hh pg_h
  rw [Nat.zero_add]
theorem pa_can_ext {D W : Nat} {f g : pa_R} (h : ∀ k, k < 83 → f k = g k) : pa_can D W f = pa_can D W g := pa_can_congr (fun k hk => h k hk.1)
def pa_p0 (h : pa_R) : pa_P := (h 10, -1, -1, 0)
section BEG
variable {h : pa_R} {D W : Nat} {σ : ps_S} {x : pa_R × pa_D}
theorem pg_rows {τ : ps_S} (h23 : ∀ d, d < 4 → τ.1 327 23 ≠ nI d) : pg_r D W τ = pa_can D W (τ.1 335) := by
  unfold pg_r
  refine pa_can_ext (fun k hk => ?_)
  unfold pg_f
  rw [if_neg]
  intro hh
  exact h23 (k - 25) (by omega) hh.2.2
theorem pg_begins (hD : D ≤ 4) (hh : pg_h σ = h) (hr : pg_nr D W 35 σ = x.1) (he : pg_ne D 0 σ = x.2) : ps_ok (qX9_begins σ) (fun _ τ => pg_T h D W τ τ x.1 x.2 (pa_p0 h) ∧ pg_kp σ τ ∧ ∀ k, k ≠ 335 → k ≠ 327 → τ.1 k = σ.1 k) := by
  have l1 : qX9_begins_2 ps_N 0 σ = some (nI 83, ps_rI σ 335 (pz_cp (σ.1 328) (σ.1 335) 35 0 0 83)) := pz_cpI (F := qX9_begins_2) (a := fun _ x => 35 + x) (b := fun _ x => x) (fun _ => True) (fun n x σ => rfl) rfl (by decide) (fun σ k _ _ => nI_add 35 k) (fun σ k _ _ => by rw [Nat.zero_add]) (by decide) (by decide) (by decide) (by decide) (Or.inl (by decide)) (fun _ _ _ _ _ => trivial) 83 0 ps_N σ (by decide) (by unfold ps_N; decide) trivial
  unfold qX9_begins
  refine pz_bd' l1 ?_
  have k1 : pg_kp σ (ps_rI σ 335 (pz_cp (σ.1 328) (σ.1 335) 35 0 0 83)) := pg_kp.I _ _ (by omega)
  have o1 : ∀ k, k ≠ 335 → (ps_rI σ 335 (pz_cp (σ.1 328) (σ.1 335) 35 0 0 83)).1 k = σ.1 k := fun k hk => ps_rI_ne _ _ hk
  have r1 : ∀ k, k < 83 → (ps_rI σ 335 (pz_cp (σ.1 328) (σ.1 335) 35 0 0 83)).1 335 k = σ.1 328 (35 + k) := fun k hk => by
    rw [ps_rI_at]
    have := pz_cp_in (s := σ.1 328) (d := σ.1 335) (A := 35) (B := 0) (i := 0) (N := 83) (k := k) (by omega) hk
    rw [Nat.zero_add] at this
    exact this
  generalize ps_rI σ 335 (pz_cp (σ.1 328) (σ.1 335) 35 0 0 83) = σ7 at k1 r1 o1 ⊢
  have l2 : qX9_begins_31 ps_N 0 σ7 = some (nI 4, ps_rD σ7 336 (pz_cp (σ7.2.2 329) (σ7.2.2 336) 0 0 0 4)) := pz_cpD (F := qX9_begins_31) (a := fun _ x => x) (b := fun _ x => x) (fun _ => True) (fun n x σ => rfl) rfl (by decide) (fun σ k _ _ => by rw [Nat.zero_add]) (fun σ k _ _ => by rw [Nat.zero_add]) (by decide) (by decide) (by decide) (by decide) (Or.inl (by decide)) (fun _ _ _ _ _ => trivial) 4 0 ps_N σ7 (by decide) (by unfold ps_N; decide) trivial
  refine pz_bd' l2 ?_
  have k2 : pg_kp σ (ps_rD σ7 336 (pz_cp (σ7.2.2 329) (σ7.2.2 336) 0 0 0 4)) := k1.tr (pg_kp.D _ _ (by omega))
  have e2 : ∀ k, k < 4 → (ps_rD σ7 336 (pz_cp (σ7.2.2 329) (σ7.2.2 336) 0 0 0 4)).2.2 336 k = σ.2.2 329 k := fun k hk => by
    rw [ps_rD_at]
    have := pz_cp_in (s := σ7.2.2 329) (d := σ7.2.2 336) (A := 0) (B := 0) (i := 0) (N := 4) (k := k) (by omega) hk
    rw [Nat.zero_add] at this
    rw [this, k1.2.2.2.1]
  have r2 : ∀ k, k < 83 → (ps_rD σ7 336 (pz_cp (σ7.2.2 329) (σ7.2.2 336) 0 0 0 4)).1 335 k = σ.1 328 (35 + k) := r1
  have o2 : ∀ k, k ≠ 335 → (ps_rD σ7 336 (pz_cp (σ7.2.2 329) (σ7.2.2 336) 0 0 0 4)).1 k = σ.1 k := o1
  generalize ps_rD σ7 336 (pz_cp (σ7.2.2 329) (σ7.2.2 336) 0 0 0 4) = σ8 at k2 e2 r2 o2 ⊢
  have h10 : σ8.1 328 10 = h 10 := by rw [k2.2.1 328 (by omega), ← hh, pg_hd (by omega)]
  refine pz_l h10 ?_
  rw [pz_lt, pz_lt, pz_lt, pz_lt]
  refine pz_done ⟨⟨?_, ?_, ?_, ⟨?_, ?_, ?_, ?_⟩, pg_fr.rf _⟩, ?_, ?_⟩
  · rw [pg_rows, ← hr]
    · refine pa_can_ext (fun k hk => ?_)
      rw [ps_rI_ne _ _ (by decide), ps_rI_ne _ _ (by decide), ps_rI_ne _ _ (by decide), ps_rI_ne _ _ (by decide)]
      exact r2 k hk
    · intro d hd
      rw [ps_rI_at, upd_ne _ _ (by decide), ps_rI_at, upd_self]
      exact fun hh => nI_m1 (by omega) hh.symm
  · rw [← he]
    funext k
    unfold pg_e pg_ne
    by_cases c : k < D
    · rw [if_pos c, if_pos c, Nat.zero_add]
      exact e2 k (by omega)
    · rw [if_neg c, if_neg c]
  · rw [← hh]
    funext k
    unfold pg_h
    rw [ps_rI_ne _ _ (by decide), ps_rI_ne _ _ (by decide), ps_rI_ne _ _ (by decide), ps_rI_ne _ _ (by decide), k2.2.1 328 (by omega)]
  · rw [ps_rI_at, upd_ne _ _ (by decide), ps_rI_at, upd_ne _ _ (by decide), ps_rI_at, upd_ne _ _ (by decide), ps_rI_at, upd_self]
    rfl
  · intro d hd
    rw [ps_rI_at, upd_ne _ _ (by decide), ps_rI_at, upd_ne _ _ (by decide), ps_rI_at, upd_self]
    exact Iff.rfl
  · rw [ps_rI_at, upd_ne _ _ (by decide), ps_rI_at, upd_self]
    rfl
  · rw [ps_rI_at, upd_self]
    exact ⟨fun _ => by decide, fun _ => rfl⟩
  · exact k2.tr ((pg_kp.F _ _ (by omega)).tr ((pg_kp.F _ _ (by omega)).tr ((pg_kp.F _ _ (by omega)).tr (pg_kp.F _ _ (by omega)))))
  · intro k k1 k2
    rw [ps_rI_ne _ _ k2, ps_rI_ne _ _ k2, ps_rI_ne _ _ k2, ps_rI_ne _ _ k2]
    exact o2 k k1
end BEG
/-! a state of the class copied -/
def pc_ln (o : Nat) : Nat := if o < 11 then 4 else if o < 13 then 12 else 6
def pc_cz (B B1 m : Nat) (σ τ : ps_S) : Prop := (∀ o, 2 ≤ o → o < m → o ≠ 6 → ∀ i, i < pc_ln o → τ.1 (B + o) i = σ.1 (B1 + o) i) ∧ (6 < m → ∀ i, i < 4 → τ.2.2 (B + 6) i = σ.2.2 (B1 + 6) i) ∧ pc_fb B σ τ
section CPC
variable {B B1 m : Nat} {σ τ : ps_S}
theorem va_cpy_in {α : Type} {f g : Nat → α} {n k : Nat} (h : k < n) : va_cpy f g 0 0 n k = f k := by
  unfold va_cpy
  rw [if_pos (by omega)]
  congr 1
  omega
theorem pc_cz.st (g : pc_cz B B1 m σ τ) (hd : B1 + 18 ≤ B ∨ B + 18 ≤ B1) (h2 : m < 18) (h6 : m ≠ 6) {n : Nat} (hn : n = pc_ln m) : pc_cz B B1 (m + 1) σ (ps_rI τ (B + m) (va_cpy (τ.1 (B1 + m)) (τ.1 (B + m)) 0 0 n)) := by
  refine ⟨fun o o1 o2 o6 i hi => ?_, fun h => ?_, g.2.2.tr (pc_fb.I _ _ _ h2)⟩
  · by_cases c : o = m
    · subst c
      rw [ps_rI_at, va_cpy_in (by omega), g.2.2.1 (B1 + o) (by omega)]
    · rw [ps_rI_ne _ _ (by omega)]
      exact g.1 o o1 (by omega) o6 i hi
  · exact g.2.1 (by omega)
theorem pc_cz.sD (g : pc_cz B B1 6 σ τ) (hd : B1 + 18 ≤ B ∨ B + 18 ≤ B1) : pc_cz B B1 7 σ (ps_rD τ (B + 6) (va_cpy (τ.2.2 (B1 + 6)) (τ.2.2 (B + 6)) 0 0 4)) := by
  refine ⟨fun o o1 o2 o6 i hi => g.1 o o1 (by omega) o6 i hi, fun _ i hi => ?_, g.2.2.tr (pc_fb.D _ _)⟩
  rw [ps_rD_at, va_cpy_in hi, g.2.2.2.2 (B1 + 6) (by omega)]
theorem pc_k83 : ∀ k, k < 83 → (pc_lo k = 0 ∧ pc_ix k = 8) ∨ (2 ≤ pc_lo k ∧ pc_lo k < 18 ∧ pc_lo k ≠ 6 ∧ pc_lo k ≠ 4 ∧ pc_ix k < pc_ln (pc_lo k)) := by decide +kernel
theorem pc_copy {h : pa_R} {D F W : Nat} {r : pa_R} {e : pa_D} {p : pa_P} (hd : B1 + 18 ≤ B ∨ B + 18 ≤ B1) (hD : D ≤ 4) (hS : pc_S h D F W B1 σ r e p) (hq : p.2.2.2 = 0 ∨ p.2.2.2 = 1) : ps_ok (qX6_copyFrom B B1 σ) (fun _ τ => pc_S h D F W B τ r e p ∧ pc_fb B σ τ) := by
  have g2 : pc_cz B B1 2 σ σ := ⟨fun o _ _ => by omega, fun h => absurd h (by decide), pc_fb.rf _ _⟩
  unfold qX6_copyFrom qX1_copyFrom
  rw [pz_lt]
  have g3 := g2.st hd (by decide) (by decide) (n := 4) (by decide)
  generalize ps_rI σ (B + 2) (va_cpy (σ.1 (B1 + 2)) (σ.1 (B + 2)) 0 0 4) = σ1 at g3 ⊢
  rw [pz_lt]
  have g4 := g3.st hd (by decide) (by decide) (n := 4) (by decide)
  generalize ps_rI σ1 (B + 3) _ = σ2 at g4 ⊢
  rw [pz_lt]
  have g5 := g4.st hd (by decide) (by decide) (n := 4) (by decide)
  generalize ps_rI σ2 (B + 4) _ = σ3 at g5 ⊢
  rw [pz_lt]
  have g6 := g5.st hd (by decide) (by decide) (n := 4) (by decide)
  generalize ps_rI σ3 (B + 5) _ = σ4 at g6 ⊢
  rw [pz_lt]
  have g7 := g6.sD hd
  generalize ps_rD σ4 (B + 6) _ = σ5 at g7 ⊢
  rw [pz_lt]
  have g8 := g7.st hd (by decide) (by decide) (n := 4) (by decide)
  generalize ps_rI σ5 (B + 7) _ = σ6 at g8 ⊢
  rw [pz_lt]
  have g9 := g8.st hd (by decide) (by decide) (n := 4) (by decide)
  generalize ps_rI σ6 (B + 8) _ = σ7 at g9 ⊢
  rw [pz_lt]
  have g10 := g9.st hd (by decide) (by decide) (n := 4) (by decide)
  generalize ps_rI σ7 (B + 9) _ = σ8 at g10 ⊢
  rw [pz_lt]
  have g11 := g10.st hd (by decide) (by decide) (n := 4) (by decide)
  generalize ps_rI σ8 (B + 10) _ = σ9 at g11 ⊢
  rw [pz_bds, pz_lt]
  have g12 := g11.st hd (by decide) (by decide) (n := 12) (by decide)
  generalize ps_rI σ9 (B + 11) _ = σ10 at g12 ⊢
  rw [pz_lt]
  have g13 := g12.st hd (by decide) (by decide) (n := 12) (by decide)
  generalize ps_rI σ10 (B + 12) _ = σ11 at g13 ⊢
  rw [pz_lt]
  have g14 := g13.st hd (by decide) (by decide) (n := 6) (by decide)
  generalize ps_rI σ11 (B + 13) _ = σ12 at g14 ⊢
  rw [pz_lt]
  have g15 := g14.st hd (by decide) (by decide) (n := 6) (by decide)
  generalize ps_rI σ12 (B + 14) _ = σ13 at g15 ⊢
  rw [pz_lt]
  have g16 := g15.st hd (by decide) (by decide) (n := 6) (by decide)
  generalize ps_rI σ13 (B + 15) _ = σ14 at g16 ⊢
  rw [pz_lt]
  have g17 := g16.st hd (by decide) (by decide) (n := 6) (by decide)
  generalize ps_rI σ14 (B + 16) _ = σ15 at g17 ⊢
  rw [pz_lt]
  have g18 := g17.st hd (by decide) (by decide) (n := 6) (by decide)
  generalize ps_rI σ15 (B + 17) _ = σ16 at g18 ⊢
  -- what stands beside the rows
  have hB1 : ∀ f : pa_R, ∀ j, (ps_rI σ16 B f).1 B1 j = σ16.1 B1 j := fun f j => by rw [ps_rI_ne _ _ (by omega)]
  have b0 : σ16.1 B1 = σ.1 B1 := g18.2.2.1 B1 (by omega)
  have hne : B1 ≠ B := by omega
  refine pz_l (congrFun b0 8) ?_
  rw [pz_lt]
  refine pz_l (show _ = σ.1 B1 9 by rw [ps_rI_ne _ _ hne, b0]) ?_
  rw [pz_lt]
  refine pz_l (show _ = σ.1 B1 10 by rw [ps_rI_ne _ _ hne, ps_rI_ne _ _ hne, b0]) ?_
  rw [pz_lt]
  refine pz_l (show _ = σ.1 B1 11 by rw [ps_rI_ne _ _ hne, ps_rI_ne _ _ hne, ps_rI_ne _ _ hne, b0]) ?_
  rw [pz_lt]
  refine pz_l (show _ = σ.1 B1 12 by rw [ps_rI_ne _ _ hne, ps_rI_ne _ _ hne, ps_rI_ne _ _ hne, ps_rI_ne _ _ hne, b0]) ?_
  rw [pz_lt]
  refine pz_l (show _ = σ.1 B1 13 by rw [ps_rI_ne _ _ hne, ps_rI_ne _ _ hne, ps_rI_ne _ _ hne, ps_rI_ne _ _ hne, ps_rI_ne _ _ hne, b0]) ?_
  obtain ⟨s1, s2, s3, s4, s5, s6, s7, s8⟩ := hS
  refine pz_gd (by rw [s8]; rcases hq with q | q <;> rw [q] <;> decide) ?_
  rw [pz_lt, ps_rI_2', ps_rI_2', ps_rI_2', ps_rI_2', ps_rI_2']
  simp only [ps_rI_at]
  have fB : pc_fb B σ16 (ps_rI σ16 (B + 0) (upd (upd (upd (upd (upd (upd (σ16.1 B) 8 (σ.1 B1 8)) 9 (σ.1 B1 9)) 10 (σ.1 B1 10)) 11 (σ.1 B1 11)) 12 (σ.1 B1 12)) 13 (σ.1 B1 13))) := pc_fb.I _ 0 _ (by decide)
  refine pz_done ⟨⟨?_, ?_, ?_, fun d hd2 => ?_, ?_, ?_, ?_, ?_⟩, g18.2.2.tr fB⟩
  · rw [← s1]
    unfold pc_r
    refine pa_can_congr (fun k hk => ?_)
    unfold pc_f
    rcases pc_k83 k hk.1 with ⟨q1, q2⟩ | ⟨q1, q2, q3, q4, q5⟩
    · rw [q1, q2, Nat.add_zero, Nat.add_zero, ps_rI_at]
      rw [upd_ne _ _ (by decide), upd_ne _ _ (by decide), upd_ne _ _ (by decide), upd_ne _ _ (by decide), upd_ne _ _ (by decide), upd_self]
    · rw [ps_rI_ne _ _ (by omega), g18.1 _ q1 q2 q3 _ q5]
  · rw [← s2]
    funext k
    unfold pc_e
    by_cases c : k < D
    · rw [if_pos c, if_pos c]
      exact g18.2.1 (by decide) k (by omega)
    · rw [if_neg c, if_neg c]
  · rw [ps_rI_at, upd_ne _ _ (by decide), upd_ne _ _ (by decide), upd_ne _ _ (by decide), upd_ne _ _ (by decide), upd_self]
    exact s3
  · rw [ps_rI_ne _ _ (by omega), g18.1 4 (by decide) (by decide) (by decide) d (by unfold pc_ln; exact hd2)]
    exact s4 d hd2
  · rw [ps_rI_at, upd_ne _ _ (by decide), upd_ne _ _ (by decide), upd_ne _ _ (by decide), upd_self]
    exact s5
  · rw [ps_rI_at, upd_ne _ _ (by decide), upd_ne _ _ (by decide), upd_self]
    exact s6
  · rw [ps_rI_at, upd_ne _ _ (by decide), upd_self]
    exact s7
  · rw [ps_rI_at, upd_self]
    exact s8
end CPC
