/-! what was before, kept -/
def pa_pn (n : Nat) : Nat := if n = 10 then 10 else n + 1
def pa_pP (n : Nat) (P : Nat → pa_X) (w : pa_X) : Nat → pa_X := if n = 10 then (fun i => if i < 9 then P (i + 1) else w) else (fun i => if i = n then w else P i)
section DEED1
variable {H : pa_H} {x : pa_X} {n : Nat} {P : Nat → pa_X} {im : pa_Im} {tr : pa_Tr} {tp : pa_Tp} {fl : Int32 × Int32} {σ0 σ τ : ps_S} {y : pa_X} {t T : Nat}
theorem pc_W.setX {x' : pa_X} (w : pc_W H x n P im tr tp fl σ) (fr : pc_fr 26 σ τ) (hS : pc_Ws H 26 τ x') (hO : pc_O H.1 τ) : pc_W H x' n P im tr tp fl τ ∧ pw_r σ τ := by
  obtain ⟨⟨w1, w2, w0⟩, w3, w4, w5, w6, w7⟩ := w
  have h : ∀ k, (k < 23 ∨ 44 ≤ k) → τ.1 k = σ.1 k ∧ τ.2.2 k = σ.2.2 k := fun k hk => ⟨fr.1 k (by omega) (by omega), fr.2.2 k (by omega)⟩
  refine ⟨⟨⟨hS, w2.congr (fun o ho => (h _ (by omega)).1), hO⟩, w3.congr (fun k hk => h k (by omega)) (fun j hj => by rw [(h 0 (by omega)).1]), w4.congr (fun k hk => h k (by omega)), w5.congr (fun k hk => ⟨(h k (by omega)).1, by rw [fr.2.1]⟩), w6.congr (h 1 (by omega)).1 (by rw [(h 0 (by omega)).1]), by rw [(h 11 (by omega)).1]; exact w7⟩, fun k hk => ⟨(h k (by omega)).1, by rw [fr.2.1], (h k (by omega)).2⟩⟩
theorem pc_before (w : pc_W H x n P im tr tp fl σ) (hI : pa_WH H) : ps_ok (qX6_copyFrom 62 26 σ) (fun _ τ => pc_Ws H 62 τ x ∧ pc_kp σ τ ∧ pc_W H x n P im tr tp fl τ ∧ pc_fb 62 σ τ) := by
  refine pz_im (pc_copy (by decide) hI.1.1.2 w.1.1 (Or.inl rfl)) (fun _ τ ht => ?_)
  have k1 := ht.2.fr.kp (Or.inr rfl)
  exact ⟨ht.1, k1, k1.1.W (ht.2.O (by decide) w.1.2.2) w, ht.2⟩
theorem pc_W.push {z : pa_X} (hI : pa_WH H) (hn : n ≤ 10) (w : pc_W H x n P im tr tp fl σ) (hb : pc_Ws H 62 σ z) : ps_ok (qX8_remember σ) (fun _ τ => pc_W H x (pa_pn n) (pa_pP n P z) im tr tp fl τ ∧ pw_r σ τ ∧ pc_Ws H 62 τ z) := by
  obtain ⟨w1, ⟨f, f1, f2, f3, f4⟩, w4, w5, w6, w7⟩ := w
  have hD := hI.1.1.2
  -- the common end: a copy into a slot, one more
  have fin : ∀ (υ : ps_S) (s m g : Nat), s < 10 → m < 10 → g < 10 → (∀ k, k ≠ 0 → υ.1 k = σ.1 k) → υ.2 = σ.2 → υ.1 0 10 = nI g → υ.1 0 11 = nI m → υ.1 0 1 = σ.1 0 1 → (g + m) % 10 = s → (∀ i, i < m → (g + i) % 10 ≠ s ∧ pc_Ws H (85 + 18 * ((g + i) % 10)) σ (pa_pP n P z i)) → pa_pn n = m + 1 → pa_pP n P z m = z →
      ps_ok (ps_bd (qX6_copyFrom (85 + 18 * s) 62 υ) (fun _ σ22 => ps_let (σ22.1 0 11) fun v23 => ps_let (ps_rI σ22 0 (upd (σ22.1 0) 11 (v23 + 1))) fun σ24 => some ((), σ24))) (fun _ τ => pc_W H x (pa_pn n) (pa_pP n P z) im tr tp fl τ ∧ pw_r σ τ ∧ pc_Ws H 62 τ z) := by
    intro υ s m g hs hm hg e1 e2 e10 e11 e01 esl ho epn epP
    have hbu : pc_Ws H 62 υ z := hb.congr (fun o ho => e1 _ (by omega)) (by rw [e2])
    refine pz_bd (pc_copy (B := 85 + 18 * s) (B1 := 62) (by omega) hD hbu (Or.inl rfl)) (fun _ υ2 h2 => ?_)
    obtain ⟨hS, fb⟩ := h2
    have c0 : υ2.1 0 = υ.1 0 := fb.1 0 (by omega)
    refine pz_l (show υ2.1 0 11 = nI m by rw [c0]; exact e11) ?_
    rw [nI_1, pz_lt]
    have a1 : ∀ k, k ≠ 0 → k < 85 + 18 * s ∨ 85 + 18 * s + 18 ≤ k → (ps_rI υ2 0 (upd (υ2.1 0) 11 (nI (m + 1)))).1 k = σ.1 k := fun k h0 hk => by rw [ps_rI_ne _ _ h0, fb.1 k hk, e1 k h0]
    have a2 : ∀ k, k < 85 + 18 * s ∨ 85 + 18 * s + 18 ≤ k → (ps_rI υ2 0 (upd (υ2.1 0) 11 (nI (m + 1)))).2.2 k = σ.2.2 k := fun k hk => by
      show υ2.2.2 k = _
      rw [fb.2.2 k hk, e2]
    have a3 : (ps_rI υ2 0 (upd (υ2.1 0) 11 (nI (m + 1)))).2.1 = σ.2.1 := by
      show υ2.2.1 = _
      rw [fb.2.1, e2]
    have b1 : (ps_rI υ2 0 (upd (υ2.1 0) 11 (nI (m + 1)))).1 0 1 = σ.1 0 1 := by rw [ps_rI_at, upd_ne _ _ (by decide), c0, e01]
    have b10 : (ps_rI υ2 0 (upd (υ2.1 0) 11 (nI (m + 1)))).1 0 10 = nI g := by rw [ps_rI_at, upd_ne _ _ (by decide), c0, e10]
    have b11 : (ps_rI υ2 0 (upd (υ2.1 0) 11 (nI (m + 1)))).1 0 11 = nI (m + 1) := by rw [ps_rI_at, upd_self]
    have hS2 : pc_Ws H (85 + 18 * s) (ps_rI υ2 0 (upd (υ2.1 0) 11 (nI (m + 1)))) z := pc_S.congr hS (fun o ho => ps_rI_ne _ _ (by omega)) rfl
    generalize ps_rI υ2 0 (upd (υ2.1 0) 11 (nI (m + 1))) = ω at a1 a2 a3 b1 b10 b11 hS2 ⊢
    refine pz_done ⟨⟨⟨w1.1.congr (fun o ho => a1 _ (by omega) (by omega)) (a2 _ (by omega)), w1.2.1.congr (fun o ho => a1 _ (by omega) (by omega)), ?_⟩, ⟨g, hg, b10, by rw [epn]; exact b11, fun i hi => ?_⟩, w4.congr (fun k hk => ⟨a1 k (by omega) (by omega), a2 k (by omega)⟩), w5.congr (fun k hk => ⟨a1 k (by omega) (by omega), by rw [a3]⟩), w6.congr (a1 1 (by decide) (by omega)) b1, by rw [a1 11 (by decide) (by omega)]; exact w7⟩, fun k hk => ⟨a1 k (by omega) (by omega), by rw [a3], a2 k (by omega)⟩, hb.congr (fun o ho => a1 _ (by omega) (by omega)) (a2 _ (by omega))⟩
    · have := w1.2.2
      unfold pc_O at this ⊢
      rw [a1 23 (by decide) (by omega), a1 24 (by decide) (by omega)]
      exact this
    · rw [epn] at hi
      by_cases c : i = m
      · subst c
        rw [esl, epP]
        exact hS2
      · obtain ⟨d1, d2⟩ := ho i (by omega)
        have hml := Nat.mod_lt (g + i) (show 0 < 10 by decide)
        exact d2.congr (fun o ho => a1 _ (by omega) (by omega)) (a2 _ (by omega))
  have e10n : (10 : Int32) = nI 10 := rfl
  unfold qX8_remember
  refine pz_l f3 ?_
  by_cases c : n = 10
  · subst c
    refine pz_t rfl ?_
    refine pz_l f2 ?_
    rw [nI_1, e10n, nI_rem (by omega) (by omega) (by omega), pz_lt]
    refine pz_l (show _ = nI 10 by rw [ps_rI_at, upd_ne _ _ (by decide), f3]) ?_
    rw [show nI 10 - 1 = nI 9 from nI_pred 9, pz_lt, ps_rI_2', ps_rI_at]
    refine pz_l (show _ = nI ((f + 1) % 10) by rw [ps_rI_at, upd_ne _ _ (by decide), upd_self]) ?_
    refine pz_l (show _ = nI 9 by rw [ps_rI_at, upd_self]) ?_
    rw [nI_add, nI_rem (by omega) (by omega) (by omega)]
    refine pz_rdN (k := ((f + 1) % 10 + 9) % 10) (f := fun k => 85 + 18 * k) rfl (by omega) (by decide) ?_
    refine fin _ (((f + 1) % 10 + 9) % 10) 9 ((f + 1) % 10) (by omega) (by decide) (by omega) (fun k hk => ps_rI_ne _ _ hk) rfl (by rw [ps_rI_at, upd_ne _ _ (by decide), ps_rI_at, upd_self]) (by rw [ps_rI_at, upd_self]) (by rw [ps_rI_at, upd_ne _ _ (by decide), ps_rI_at, upd_ne _ _ (by decide)]) rfl (fun i hi => ⟨by omega, ?_⟩) rfl ?_
    · unfold pa_pP
      rw [if_pos rfl, show ((f + 1) % 10 + i) % 10 = (f + (i + 1)) % 10 by omega]
      simp only [hi, if_true]
      exact f4 (i + 1) (by omega)
    · unfold pa_pP
      rw [if_pos rfl]
      rfl
  · refine pz_e (fun hh => c ((nI_eq (a := n) (b := 10) (by omega) (by omega)).mp hh)) ?_
    refine pz_l f2 ?_
    refine pz_l f3 ?_
    rw [nI_add, e10n, nI_rem (by omega) (by omega) (by omega)]
    refine pz_rdN (k := (f + n) % 10) (f := fun k => 85 + 18 * k) rfl (by omega) (by decide) ?_
    refine fin σ ((f + n) % 10) n f (by omega) (by omega) f1 (fun k hk => rfl) rfl f2 f3 rfl rfl (fun i hi => ⟨by omega, ?_⟩) ?_ ?_
    · unfold pa_pP
      rw [if_neg c]
      simp only [show ¬ i = n by omega, if_false]
      exact f4 i hi
    · unfold pa_pn
      rw [if_neg c]
    · unfold pa_pP
      rw [if_neg c]
      simp only [if_true]
/-! the reference -/
def pg_was (H : pa_H) (z : pa_X) (σ : ps_S) : Prop := pa_can H.2.1 H.2.2.2 (σ.1 337) = z.1 ∧ (fun k => if k < H.2.1 then σ.2.2 338 k else 0) = z.2
theorem pg_stores (hI : pa_WH H) (w : pg_W H x n P im tr tp fl σ) : ps_ok (qX9_stores σ) (fun _ τ => pg_was H x τ ∧ pg_kp σ τ ∧ pg_W H x n P im tr tp fl τ ∧ τ.1 327 = σ.1 327) := by
  have hD := hI.1.1.2
  have l1 : qX9_stores_2 ps_N 0 σ = some (nI 83, ps_rI σ 337 (pz_cp (σ.1 328) (σ.1 337) 35 0 0 83)) := pz_cpI (F := qX9_stores_2) (a := fun _ x => 35 + x) (b := fun _ x => x) (fun _ => True) (fun n x σ => rfl) rfl (by decide) (fun σ k _ _ => nI_add 35 k) (fun σ k _ _ => by rw [Nat.zero_add]) (by decide) (by decide) (by decide) (by decide) (Or.inl (by decide)) (fun _ _ _ _ _ => trivial) 83 0 ps_N σ (by decide) (by unfold ps_N; decide) trivial
  unfold qX9_stores
  refine pz_bd' l1 ?_
  have r1 : ∀ k, k < 83 → (ps_rI σ 337 (pz_cp (σ.1 328) (σ.1 337) 35 0 0 83)).1 337 k = σ.1 328 (35 + k) := fun k hk => by
    have := pz_cp_in (s := σ.1 328) (d := σ.1 337) (A := 35) (B := 0) (i := 0) (N := 83) (k := k) (by omega) hk
    rw [Nat.zero_add] at this
    rw [ps_rI_at, this]
  have k1 : pg_kp σ (ps_rI σ 337 (pz_cp (σ.1 328) (σ.1 337) 35 0 0 83)) := pg_kp.I _ _ (by omega)
  have o1 : (ps_rI σ 337 (pz_cp (σ.1 328) (σ.1 337) 35 0 0 83)).1 327 = σ.1 327 := ps_rI_ne _ _ (by decide)
  generalize ps_rI σ 337 (pz_cp (σ.1 328) (σ.1 337) 35 0 0 83) = σ7 at r1 k1 o1 ⊢
  have l2 : qX9_stores_31 ps_N 0 σ7 = some (nI 4, ps_rD σ7 338 (pz_cp (σ7.2.2 329) (σ7.2.2 338) 0 0 0 4)) := pz_cpD (F := qX9_stores_31) (a := fun _ x => x) (b := fun _ x => x) (fun _ => True) (fun n x σ => rfl) rfl (by decide) (fun σ k _ _ => by rw [Nat.zero_add]) (fun σ k _ _ => by rw [Nat.zero_add]) (by decide) (by decide) (by decide) (by decide) (Or.inl (by decide)) (fun _ _ _ _ _ => trivial) 4 0 ps_N σ7 (by decide) (by unfold ps_N; decide) trivial
  refine pz_bd' l2 ?_
  have k2 := k1.tr (pg_kp.D σ7 (pz_cp (σ7.2.2 329) (σ7.2.2 338) 0 0 0 4) (c := 338) (by omega))
  refine pz_done ⟨⟨?_, ?_⟩, k2, k2.W w, o1⟩
  · rw [← w.1.2.1]
    exact pa_can_ext (fun k hk => r1 k hk)
  · rw [← w.1.2.2]
    funext k
    unfold pg_ne
    by_cases c : k < H.2.1
    · rw [if_pos c, if_pos c, ps_rD_at]
      have := pz_cp_in (s := σ7.2.2 329) (d := σ7.2.2 338) (A := 0) (B := 0) (i := 0) (N := 4) (k := k) (by omega) (by omega)
      rw [Nat.zero_add] at this
      rw [this, k1.2.2.2.1, Nat.zero_add]
    · rw [if_neg c, if_neg c]
/-- rows of now set anew -/
theorem pg_W.setX {x' : pa_X} (hW : pa_W T H x n P im tr tp) (w : pg_W H x n P im tr tp fl σ) (h1 : ∀ k, k < 35 ∨ 118 ≤ k → τ.1 328 k = σ.1 328 k) (h2 : ∀ k, 4 ≤ k → τ.2.2 329 k = σ.2.2 329 k) (h3 : ∀ k, k = 330 ∨ k = 331 ∨ k = 342 ∨ k = 343 → τ.1 k = σ.1 k) (h4 : τ.2.1 344 = σ.2.1 344) (h5 : ∀ j, j = 6 ∨ j = 14 ∨ j = 15 → τ.1 327 j = σ.1 327 j) (hx : pg_Ws H 35 0 τ x') : pg_W H x' n P im tr tp fl τ := by
  have hD := hW.1.1.1.2
  obtain ⟨w1, w3, w4, w5, w6, w7⟩ := w
  refine ⟨⟨?_, hx⟩, w3.congr hD hW.2.2.1.1 (fun k hk => h1 k (by omega)) (fun k hk => h2 k (by omega)), w4.congr (fun i hi y hy => (hW.2.2.2.1 i hi y hy).1.1.1.2) (h3 330 (by omega)) (fun k hk => h1 k (by omega)) (fun k hk => h2 k (by omega)), w5.congr (h3 342 (by omega)) (h3 343 (by omega)) h4, w6.congr (h3 331 (by omega)) (h5 6 (by omega)), by rw [h5 14 (by omega), h5 15 (by omega)]; exact w7⟩
  rw [← w1.1]
  unfold pg_h
  funext k
  by_cases c : k < 35 ∨ (949 ≤ k ∧ k < 1850)
  · rw [if_pos c, if_pos c, h1 k (by omega)]
  · rw [if_neg c, if_neg c]
/-- rows copied into now -/
theorem pg_intoX {F1 : Nat → Int32 → ps_S → Option (Int32 × ps_S)} {F2 : Nat → Int32 → ps_S → Option (Int32 × ps_S)} {cI cD : Nat} (hcI : cI = 335 ∨ cI = 337) (hcD : cD = 336 ∨ cD = 338)
    (h1 : ∀ σ, F1 ps_N 0 σ = some (nI 83, ps_rI σ 328 (pz_cp (σ.1 cI) (σ.1 328) 0 35 0 83))) (h2 : ∀ σ, F2 ps_N 0 σ = some (nI 4, ps_rD σ 329 (pz_cp (σ.2.2 cD) (σ.2.2 329) 0 0 0 4))) (hW : pa_W T H x n P im tr tp) (w : pg_W H x n P im tr tp fl σ) {x' : pa_X} (e1 : pa_can H.2.1 H.2.2.2 (σ.1 cI) = x'.1) (e2 : (fun k => if k < H.2.1 then σ.2.2 cD k else 0) = x'.2) :
    ps_ok (ps_bd (F1 ps_N 0 σ) (fun _ σ7 => ps_bd (F2 ps_N 0 σ7) (fun _ σ15 => some ((), σ15)))) (fun _ τ => pg_W H x' n P im tr tp fl τ ∧ pw_c σ τ ∧ (∀ k, k ≠ 328 → τ.1 k = σ.1 k) ∧ τ.2.1 = σ.2.1 ∧ ∀ k, k ≠ 329 → τ.2.2 k = σ.2.2 k) := by
  have hD := hW.1.1.1.2
  refine pz_bd' (h1 σ) ?_
  refine pz_bd' (h2 _) ?_
  have q1 : ∀ k, (ps_rD (ps_rI σ 328 (pz_cp (σ.1 cI) (σ.1 328) 0 35 0 83)) 329 (pz_cp ((ps_rI σ 328 (pz_cp (σ.1 cI) (σ.1 328) 0 35 0 83)).2.2 cD) ((ps_rI σ 328 (pz_cp (σ.1 cI) (σ.1 328) 0 35 0 83)).2.2 329) 0 0 0 4)).1 328 k = pz_cp (σ.1 cI) (σ.1 328) 0 35 0 83 k := fun k => by rw [ps_rD_1, ps_rI_at]
  have q2 : ∀ k, (ps_rD (ps_rI σ 328 (pz_cp (σ.1 cI) (σ.1 328) 0 35 0 83)) 329 (pz_cp ((ps_rI σ 328 (pz_cp (σ.1 cI) (σ.1 328) 0 35 0 83)).2.2 cD) ((ps_rI σ 328 (pz_cp (σ.1 cI) (σ.1 328) 0 35 0 83)).2.2 329) 0 0 0 4)).2.2 329 k = pz_cp (σ.2.2 cD) (σ.2.2 329) 0 0 0 4 k := fun k => by rw [ps_rD_at]; rfl
  have q3 : ∀ k, k ≠ 328 → (ps_rD (ps_rI σ 328 (pz_cp (σ.1 cI) (σ.1 328) 0 35 0 83)) 329 (pz_cp ((ps_rI σ 328 (pz_cp (σ.1 cI) (σ.1 328) 0 35 0 83)).2.2 cD) ((ps_rI σ 328 (pz_cp (σ.1 cI) (σ.1 328) 0 35 0 83)).2.2 329) 0 0 0 4)).1 k = σ.1 k := fun k hk => by rw [ps_rD_1, ps_rI_ne _ _ hk]
  have q4 : ∀ k, k ≠ 329 → (ps_rD (ps_rI σ 328 (pz_cp (σ.1 cI) (σ.1 328) 0 35 0 83)) 329 (pz_cp ((ps_rI σ 328 (pz_cp (σ.1 cI) (σ.1 328) 0 35 0 83)).2.2 cD) ((ps_rI σ 328 (pz_cp (σ.1 cI) (σ.1 328) 0 35 0 83)).2.2 329) 0 0 0 4)).2.2 k = σ.2.2 k := fun k hk => by rw [ps_rD_ne _ _ hk]; rfl
  have q5 : (ps_rD (ps_rI σ 328 (pz_cp (σ.1 cI) (σ.1 328) 0 35 0 83)) 329 (pz_cp ((ps_rI σ 328 (pz_cp (σ.1 cI) (σ.1 328) 0 35 0 83)).2.2 cD) ((ps_rI σ 328 (pz_cp (σ.1 cI) (σ.1 328) 0 35 0 83)).2.2 329) 0 0 0 4)).2.1 = σ.2.1 := rfl
  generalize ps_rD (ps_rI σ 328 (pz_cp (σ.1 cI) (σ.1 328) 0 35 0 83)) 329 (pz_cp ((ps_rI σ 328 (pz_cp (σ.1 cI) (σ.1 328) 0 35 0 83)).2.2 cD) ((ps_rI σ 328 (pz_cp (σ.1 cI) (σ.1 328) 0 35 0 83)).2.2 329) 0 0 0 4) = τ at q1 q2 q3 q4 q5 ⊢
  refine pz_done ⟨w.setX hW (fun k hk => by rw [q1, pz_cp_out (by omega)]) (fun k hk => by rw [q2, pz_cp_out (by omega)]) (fun k hk => q3 k (by omega)) (by rw [q5]) (fun j _ => by rw [q3 327 (by decide)]) ⟨?_, ?_⟩, fun k hk => ⟨q3 k (by omega), by rw [q5], q4 k (by omega)⟩, q3, q5, q4⟩
  · rw [← e1]
    exact pa_can_ext (fun k hk => by rw [q1, pz_cp_in (by omega) hk, Nat.zero_add])
  · rw [← e2]
    funext k
    unfold pg_ne
    by_cases c : k < H.2.1
    · rw [if_pos c, if_pos c, q2, pz_cp_in (by omega) (by omega), Nat.zero_add]
    · rw [if_neg c, if_neg c]
theorem pg_isSoL1 (σ : ps_S) : qX9_isSo_2 ps_N 0 σ = some (nI 83, ps_rI σ 328 (pz_cp (σ.1 335) (σ.1 328) 0 35 0 83)) := pz_cpI (F := qX9_isSo_2) (a := fun _ x => x) (b := fun _ x => 35 + x) (fun _ => True) (fun n x σ => rfl) rfl (by decide) (fun σ k _ _ => by rw [Nat.zero_add]) (fun σ k _ _ => nI_add 35 k) (by decide) (by decide) (by decide) (by decide) (Or.inl (by decide)) (fun _ _ _ _ _ => trivial) 83 0 ps_N σ (by decide) (by unfold ps_N; decide) trivial
theorem pg_isSoL2 (σ : ps_S) : qX9_isSo_31 ps_N 0 σ = some (nI 4, ps_rD σ 329 (pz_cp (σ.2.2 336) (σ.2.2 329) 0 0 0 4)) := pz_cpD (F := qX9_isSo_31) (a := fun _ x => x) (b := fun _ x => x) (fun _ => True) (fun n x σ => rfl) rfl (by decide) (fun σ k _ _ => by rw [Nat.zero_add]) (fun σ k _ _ => by rw [Nat.zero_add]) (by decide) (by decide) (by decide) (by decide) (Or.inl (by decide)) (fun _ _ _ _ _ => trivial) 4 0 ps_N σ (by decide) (by unfold ps_N; decide) trivial
theorem pg_isAgL1 (σ : ps_S) : qX9_isAgain_2 ps_N 0 σ = some (nI 83, ps_rI σ 328 (pz_cp (σ.1 337) (σ.1 328) 0 35 0 83)) := pz_cpI (F := qX9_isAgain_2) (a := fun _ x => x) (b := fun _ x => 35 + x) (fun _ => True) (fun n x σ => rfl) rfl (by decide) (fun σ k _ _ => by rw [Nat.zero_add]) (fun σ k _ _ => nI_add 35 k) (by decide) (by decide) (by decide) (by decide) (Or.inl (by decide)) (fun _ _ _ _ _ => trivial) 83 0 ps_N σ (by decide) (by unfold ps_N; decide) trivial
theorem pg_isAgL2 (σ : ps_S) : qX9_isAgain_31 ps_N 0 σ = some (nI 4, ps_rD σ 329 (pz_cp (σ.2.2 338) (σ.2.2 329) 0 0 0 4)) := pz_cpD (F := qX9_isAgain_31) (a := fun _ x => x) (b := fun _ x => x) (fun _ => True) (fun n x σ => rfl) rfl (by decide) (fun σ k _ _ => by rw [Nat.zero_add]) (fun σ k _ _ => by rw [Nat.zero_add]) (by decide) (by decide) (by decide) (by decide) (Or.inl (by decide)) (fun _ _ _ _ _ => trivial) 4 0 ps_N σ (by decide) (by unfold ps_N; decide) trivial
end DEED1
