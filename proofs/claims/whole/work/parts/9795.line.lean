/-! lines: both readers between laws -/
def pr_B (n : Nat) (b : Nat → Nat) (st : Nat) (cs : List Nat) (σ τ : ps_S) : Prop := pr_R n b st σ τ ∧ pr_C cs σ τ ∧ σ.1 11 10 = nI 0
section LINE
variable {n : Nat} {b : Nat → Nat} {st k : Nat} {cs : List Nat} {σ τ : ps_S}
theorem pr_B.lt (g : pr_B n b st cs σ τ) : st ≤ n ∧ n ≤ 900 := ⟨g.1.1.2.2.2.2.2, g.1.1.1.1.1⟩
theorem pr_B.adv (g : pr_B n b st cs σ τ) (hc : tk_cd n b st ≠ 26) : pr2 (qX5_advance σ) (qX9_steps τ) (fun _ σ' _ τ' => ∃ st', st + 1 ≤ st' ∧ pr_B n b st' cs σ' τ' ∧ pe_c σ σ' ∧ pe_g τ τ') := by
  obtain ⟨r, c, h10⟩ := g
  refine (pr_adv r).im (fun _ σ' _ τ' hh => ⟨_, tk_adv_gt (tk_cd_n hc), ⟨hh.1, c.congr ?_ ?_ ?_, ?_⟩, hh.2.1.e, hh.2.2.e⟩)
  · rw [hh.2.1.1 9 (by decide)]
  · rw [hh.2.1.1 10 (by decide)]
  · rw [hh.2.2.1 332 (by decide)]
  · rw [hh.2.1.2.1 10 (by omega)]; exact h10
theorem pr_B.no {w : Nat} (g : pr_B n b st cs σ τ) (hw : 1 ≤ w ∧ w ≤ 4) (hl : cs.length ≤ 900) : pr2 (qX5_refuse (nI w) σ) (qX9_fails (nI w) τ) (fun a σ' _ τ' => a = 0 ∧ pr_F σ' τ' ∧ (∃ m, m ≤ 900 ∧ σ'.1 9 1 = nI m) ∧ pe_c σ σ' ∧ pe_g τ τ') :=
  (pr_refuse hw g.1).im (fun a σ' _ τ' hh => ⟨hh.1, hh.2.1, ⟨cs.length, hl, by rw [hh.2.2.1.1 9 (by decide)]; exact g.2.1.1⟩, hh.2.2.1.e, hh.2.2.2.e⟩)
theorem pb_sg (g : pr_B n b st cs σ τ) {j : Nat} (hj : j < 12) {v : Int32} (hv : v = nI (tk_ch 0 j)) : qX5_isSign v σ = some (if tk_cd n b st = 30 + j then 1 else 0, σ) := by
  rw [hv]; exact pc_isS hj g.1.1
theorem pb_wd (g : pr_B n b st cs σ τ) {i m : Nat} (h1 : 1 ≤ i ∧ i < 25) (hm : tk_mw i = m) : qX5_isWord i σ = some (if tk_cd n b st = m then 1 else 0, σ) := by
  rw [← hm]; exact pc_isW h1.1 h1.2 g.1.1
theorem pb_is (g : pr_B n b st cs σ τ) {c : Nat} (hc : c < 100) {v : Int32} (hv : v = nI c) : qX9_is v τ = some (if tk_cd n b st = c then 1 else 0, τ) := by
  rw [hv]; exact pg_is1 hc g.1.2.1 g.1.2.2.1
theorem pb_eats1 (g : pr_B n b st cs σ τ) {c : Nat} (hc : c < 100) {v : Int32} (hv : v = nI c) (e : tk_cd n b st = c) : qX9_eats v τ = ps_bd (qX9_steps τ) (fun _ s => some (1, s)) := by
  unfold qX9_eats
  rw [pb_is g hc hv, if_pos e, pz_bds, if_neg (by decide)]
theorem pb_eats0 (g : pr_B n b st cs σ τ) {c : Nat} (hc : c < 100) {v : Int32} (hv : v = nI c) (e : ¬ tk_cd n b st = c) : qX9_eats v τ = some (0, τ) := by
  unfold qX9_eats
  rw [pb_is g hc hv, if_neg e, pz_bds, if_pos rfl]
theorem pb_tw1 (g : pr_B n b st cs σ τ) {i m : Nat} (h1 : 1 ≤ i ∧ i < 25) (hm : tk_mw i = m) (e : tk_cd n b st = m) : qX5_takeWord i σ = ps_bd (qX5_advance σ) (fun _ s => some (1, s)) := by
  unfold qX5_takeWord
  rw [pb_wd g h1 hm, if_pos e, pz_bds, if_neg (by decide)]
theorem pb_tw0 (g : pr_B n b st cs σ τ) {i m : Nat} (h1 : 1 ≤ i ∧ i < 25) (hm : tk_mw i = m) (e : ¬ tk_cd n b st = m) : qX5_takeWord i σ = ps_bd (qX5_refuse 2 σ) (fun v s => if ps_b01 v = true then some (v, s) else none) := by
  unfold qX5_takeWord
  rw [pb_wd g h1 hm, if_neg e, pz_bds, if_pos rfl]
theorem pb_ts1 (g : pr_B n b st cs σ τ) {j : Nat} (hj : j < 12) {v : Int32} (hv : v = nI (tk_ch 0 j)) (e : tk_cd n b st = 30 + j) : qX5_takeSign v σ = ps_bd (qX5_advance σ) (fun _ s => some (1, s)) := by
  unfold qX5_takeSign
  rw [pb_sg g hj hv, if_pos e, pz_bds, if_neg (by decide)]
theorem pb_ts0 (g : pr_B n b st cs σ τ) {j : Nat} (hj : j < 12) {v : Int32} (hv : v = nI (tk_ch 0 j)) (e : ¬ tk_cd n b st = 30 + j) : qX5_takeSign v σ = ps_bd (qX5_refuse 2 σ) (fun v s => if ps_b01 v = true then some (v, s) else none) := by
  unfold qX5_takeSign
  rw [pb_sg g hj hv, if_neg e, pz_bds, if_pos rfl]
theorem pb_take {γ β : Type} {TC : Option (Int32 × ps_S)} {fC : Int32 → ps_S → Option (γ × ps_S)} {A B : ps_S → Option (β × ps_S)} {Q : γ → ps_S → β → ps_S → Prop} {c : Nat} {v : Int32} (g : pr_B n b st cs σ τ) (hc : c < 100) (h26 : c ≠ 26) (hv : v = nI c) (hl : cs.length ≤ 900)
    (t1 : tk_cd n b st = c → TC = ps_bd (qX5_advance σ) (fun _ s => some (1, s))) (t0 : ¬ tk_cd n b st = c → TC = ps_bd (qX5_refuse 2 σ) (fun x s => if ps_b01 x = true then some (x, s) else none))
    (ok : ∀ st' σ' τ', st + 1 ≤ st' → pr_B n b st' cs σ' τ' → pe_c σ σ' → pe_g τ τ' → pr2 (fC 1 σ') (B τ') Q)
    (no : ∀ σ' τ', pr_F σ' τ' → (∃ m, m ≤ 900 ∧ σ'.1 9 1 = nI m) → pe_c σ σ' → pe_g τ τ' → pr2 (fC 0 σ') (A τ') Q) :
    pr2 (ps_bd TC fC) (ps_bd (qX9_eats v τ) (fun v1 τ1 => if v1 = 0 then ps_bd (qX9_fails 2 τ1) (fun _ τ2 => A τ2) else B τ1)) Q := by
  by_cases e : tk_cd n b st = c
  · rw [t1 e, pb_eats1 g hc hv e, ps_bd_as, ps_bd_as]
    refine pr2.b (g.adv (by omega)) (fun _ σ1 _ τ1 h1 => ?_)
    obtain ⟨st', s1, g1, c1, d1⟩ := h1
    rw [pz_bds, pz_bds]
    exact pr2.re (by decide) (ok st' σ1 τ1 s1 g1 c1 d1)
  · rw [t0 e, pb_eats0 g hc hv e, pz_bds, if_pos rfl, ps_bd_as]
    have := g.no (w := 2) (by decide) hl
    refine pr2.b this (fun a σ1 _ τ1 h1 => ?_)
    obtain ⟨rfl, hF, hm, c1, d1⟩ := h1
    rw [if_pos (by rfl), pz_bds]
    exact no σ1 τ1 hF hm c1 d1
end LINE
