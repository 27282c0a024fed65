/-! notes of the reference; undo -/
section DEED2
variable {H : pa_H} {x : pa_X} {n : Nat} {P : Nat → pa_X} {im : pa_Im} {tr : pa_Tr} {tp : pa_Tp} {fl : Int32 × Int32} {σ0 σ τ : ps_S} {y : pa_X} {t T : Nat}
theorem pg_note1 {m : Nat} {υ : ps_S} (hm : m < 10) (h118 : υ.1 328 118 = nI m) : ps_ok (ps_bd (qX9_notes_87 ps_N 0 υ) (fun _ σ10 => ps_bd (qX9_notes_127 ps_N 0 σ10) (fun _ σ19 => ps_let (σ19.1 328 118) fun v21 => ps_let (ps_rI σ19 328 (upd (σ19.1 328) 118 (v21 + 1))) fun σ22 => some ((), σ22)))) (fun _ τ => (∀ k, k ≠ 118 → k < 119 + 83 * m ∨ 202 + 83 * m ≤ k → τ.1 328 k = υ.1 328 k) ∧ (∀ k, k < 83 → τ.1 328 (119 + 83 * m + k) = υ.1 337 k) ∧ τ.1 328 118 = nI (m + 1) ∧ (∀ k, k < 4 + 4 * m ∨ 8 + 4 * m ≤ k → τ.2.2 329 k = υ.2.2 329 k) ∧ (∀ k, k < 4 → τ.2.2 329 (4 + 4 * m + k) = υ.2.2 338 k) ∧ (∀ c, c ≠ 328 → τ.1 c = υ.1 c) ∧ τ.2.1 = υ.2.1 ∧ ∀ c, c ≠ 329 → τ.2.2 c = υ.2.2 c) := by
  have i1 : ∀ k, (119 : Int32) + 83 * nI m + nI k = nI (119 + 83 * m + k) := fun k => by
    rw [show (83 : Int32) * nI m = nI (83 * m) from nI_mul 83 m, show (119 : Int32) + nI (83 * m) = nI (119 + 83 * m) from nI_add 119 (83 * m), nI_add]
  have i2 : ∀ k, (4 : Int32) + 4 * nI m + nI k = nI (4 + 4 * m + k) := fun k => by
    rw [show (4 : Int32) * nI m = nI (4 * m) from nI_mul 4 m, show (4 : Int32) + nI (4 * m) = nI (4 + 4 * m) from nI_add 4 (4 * m), nI_add]
  have l1 : qX9_notes_87 ps_N 0 υ = some (nI 83, ps_rI υ 328 (pz_cp (υ.1 337) (υ.1 328) 0 (119 + 83 * m) 0 83)) := pz_cpI (F := qX9_notes_87) (a := fun _ x => x) (b := fun σ x => 119 + 83 * σ.1 328 118 + x) (fun σ => σ.1 328 118 = nI m) (fun n x σ => rfl) rfl (by decide) (fun σ k _ _ => by rw [Nat.zero_add]) (fun σ k hi _ => by
      show (119 : Int32) + 83 * σ.1 328 118 + nI k = _
      rw [hi]; exact i1 k) (by decide) (show 119 + 83 * m + 83 ≤ 5550 by omega) (by decide) (by decide) (Or.inl (by decide)) (fun σ k v hi _ => by
      show (ps_rI σ 328 _).1 328 118 = _
      rw [ps_rI_at, upd_ne _ _ (by omega)]; exact hi) 83 0 ps_N υ (by decide) (by unfold ps_N; decide) h118
  refine pz_bd' l1 ?_
  have a1 : ∀ k, k < 119 + 83 * m ∨ 202 + 83 * m ≤ k → (ps_rI υ 328 (pz_cp (υ.1 337) (υ.1 328) 0 (119 + 83 * m) 0 83)).1 328 k = υ.1 328 k := fun k hk => by rw [ps_rI_at, pz_cp_out (by omega)]
  have a2 : ∀ k, k < 83 → (ps_rI υ 328 (pz_cp (υ.1 337) (υ.1 328) 0 (119 + 83 * m) 0 83)).1 328 (119 + 83 * m + k) = υ.1 337 k := fun k hk => by rw [ps_rI_at, pz_cp_in (by omega) hk, Nat.zero_add]
  have a3 : ∀ c, c ≠ 328 → (ps_rI υ 328 (pz_cp (υ.1 337) (υ.1 328) 0 (119 + 83 * m) 0 83)).1 c = υ.1 c := fun c hc => ps_rI_ne _ _ hc
  have a4 : (ps_rI υ 328 (pz_cp (υ.1 337) (υ.1 328) 0 (119 + 83 * m) 0 83)).2 = υ.2 := rfl
  generalize ps_rI υ 328 (pz_cp (υ.1 337) (υ.1 328) 0 (119 + 83 * m) 0 83) = σ1 at a1 a2 a3 a4 ⊢
  have h2 : σ1.1 328 118 = nI m := by rw [a1 118 (by omega)]; exact h118
  have l2 : qX9_notes_127 ps_N 0 σ1 = some (nI 4, ps_rD σ1 329 (pz_cp (σ1.2.2 338) (σ1.2.2 329) 0 (4 + 4 * m) 0 4)) := pz_cpD (F := qX9_notes_127) (a := fun _ x => x) (b := fun σ x => 4 + 4 * σ.1 328 118 + x) (fun σ => σ.1 328 118 = nI m) (fun n x σ => rfl) rfl (by decide) (fun σ k _ _ => by rw [Nat.zero_add]) (fun σ k hi _ => by
      show (4 : Int32) + 4 * σ.1 328 118 + nI k = _
      rw [hi]; exact i2 k) (by decide) (show 4 + 4 * m + 4 ≤ 132 by omega) (by decide) (by decide) (Or.inl (by decide)) (fun σ k v hi _ => hi) 4 0 ps_N σ1 (by decide) (by unfold ps_N; decide) h2
  refine pz_bd' l2 ?_
  refine pz_l (show _ = nI m from h2) ?_
  rw [nI_1, pz_lt]
  refine pz_done ⟨fun k k1 k2 => ?_, fun k hk => ?_, ?_, fun k hk => ?_, fun k hk => ?_, fun c hc => ?_, ?_, fun c hc => ?_⟩
  · rw [ps_rI_at, upd_ne _ _ k1, ps_rD_1]; exact a1 k k2
  · rw [ps_rI_at, upd_ne _ _ (by omega), ps_rD_1]; exact a2 k hk
  · rw [ps_rI_at, upd_self]
  · rw [ps_rI_2, ps_rD_at, pz_cp_out (by omega), a4]
  · rw [ps_rI_2, ps_rD_at, pz_cp_in (by omega) hk, Nat.zero_add, a4]
  · rw [ps_rI_ne _ _ hc, ps_rD_1]; exact a3 c hc
  · rw [ps_rI_2, ps_rD_21, a4]
  · rw [ps_rI_2, ps_rD_ne _ _ hc, a4]
theorem pg_W.push {z : pa_X} (hW : pa_W T H x n P im tr tp) (w : pg_W H x n P im tr tp fl σ) (hz : pg_was H z σ) : ps_ok (qX9_notes σ) (fun _ τ => pg_W H x (pa_pn n) (pa_pP n P z) im tr tp fl τ ∧ pw_c σ τ ∧ τ.1 337 = σ.1 337) := by
  have hD := hW.1.1.1.2
  have hn := hW.2.2.1.1
  obtain ⟨w1, ⟨w3a, w3b⟩, w4, w5, w6, w7⟩ := w
  -- the end, once the places before it are known
  have fin : ∀ (υ τ : ps_S) (m : Nat), m < 10 → (∀ k, k < 118 ∨ 949 ≤ k → υ.1 328 k = σ.1 328 k) → (∀ k, k < 4 ∨ 44 ≤ k → υ.2.2 329 k = σ.2.2 329 k) → (∀ c, c ≠ 328 → υ.1 c = σ.1 c) → υ.2.1 = σ.2.1 → (∀ c, c ≠ 329 → υ.2.2 c = σ.2.2 c) → (∀ i, i < m → pg_Ws H (119 + 83 * i) (4 + 4 * i) υ (pa_pP n P z i)) → pa_pn n = m + 1 → pa_pP n P z m = z →
      ((∀ k, k ≠ 118 → k < 119 + 83 * m ∨ 202 + 83 * m ≤ k → τ.1 328 k = υ.1 328 k) ∧ (∀ k, k < 83 → τ.1 328 (119 + 83 * m + k) = υ.1 337 k) ∧ τ.1 328 118 = nI (m + 1) ∧ (∀ k, k < 4 + 4 * m ∨ 8 + 4 * m ≤ k → τ.2.2 329 k = υ.2.2 329 k) ∧ (∀ k, k < 4 → τ.2.2 329 (4 + 4 * m + k) = υ.2.2 338 k) ∧ (∀ c, c ≠ 328 → τ.1 c = υ.1 c) ∧ τ.2.1 = υ.2.1 ∧ ∀ c, c ≠ 329 → τ.2.2 c = υ.2.2 c) → pg_W H x (pa_pn n) (pa_pP n P z) im tr tp fl τ ∧ pw_c σ τ ∧ τ.1 337 = σ.1 337 := by
    intro υ τ m hm u1 u2 u3 u4 u5 u6 epn epP ⟨t1, t2, t3, t4, t5, t6, t7, t8⟩
    have v1 : ∀ k, k < 118 ∨ 949 ≤ k → τ.1 328 k = σ.1 328 k := fun k hk => (t1 k (by omega) (by omega)).trans (u1 k hk)
    have v2 : ∀ k, k < 4 ∨ 44 ≤ k → τ.2.2 329 k = σ.2.2 329 k := fun k hk => (t4 k (by omega)).trans (u2 k hk)
    have v3 : ∀ c, c ≠ 328 → τ.1 c = σ.1 c := fun c hc => (t6 c hc).trans (u3 c hc)
    have v4 : τ.2.1 = σ.2.1 := t7.trans u4
    have v5 : ∀ c, c ≠ 329 → τ.2.2 c = σ.2.2 c := fun c hc => (t8 c hc).trans (u5 c hc)
    refine ⟨⟨⟨?_, w1.2.congr hD (fun k hk => v1 k (by omega)) (fun k hk => v2 k (by omega))⟩, ⟨by rw [epn]; exact t3, fun i hi => ?_⟩, w4.congr (fun i hi y hy => (hW.2.2.2.1 i hi y hy).1.1.1.2) (v3 330 (by decide)) (fun k hk => v1 k (by omega)) (fun k hk => v2 k (by omega)), w5.congr (v3 342 (by decide)) (v3 343 (by decide)) (by rw [v4]), w6.congr (v3 331 (by decide)) (by rw [v3 327 (by decide)]), by rw [v3 327 (by decide)]; exact w7⟩, fun k hk => ⟨v3 k (by omega), by rw [v4], v5 k (by omega)⟩, v3 337 (by decide)⟩
    · rw [← w1.1]
      unfold pg_h
      funext k
      by_cases c : k < 35 ∨ (949 ≤ k ∧ k < 1850)
      · rw [if_pos c, if_pos c, v1 k (by omega)]
      · rw [if_neg c, if_neg c]
    · rw [epn] at hi
      by_cases c : i = m
      · subst c
        rw [epP]
        refine ⟨?_, ?_⟩
        · rw [← hz.1]
          exact pa_can_ext (fun k hk => by rw [t2 k hk, u3 337 (by decide)])
        · rw [← hz.2]
          unfold pg_ne
          funext k
          by_cases c2 : k < H.2.1
          · rw [if_pos c2, if_pos c2, t5 k (by omega), u5 338 (by decide)]
          · rw [if_neg c2, if_neg c2]
      · exact (u6 i (by omega)).congr hD (fun k hk => t1 k (by omega) (by omega)) (fun k hk => t4 k (by omega))
  unfold qX9_notes
  refine pz_l w3a ?_
  by_cases c : n = 10
  · subst c
    refine pz_t rfl ?_
    have l1 : qX9_notes_14 ps_N 0 σ = some (nI 747, ps_rI σ 328 (pz_cp (σ.1 328) (σ.1 328) 202 119 0 747)) := pz_cpI (F := qX9_notes_14) (a := fun _ x => 202 + x) (b := fun _ x => 119 + x) (fun _ => True) (fun n x σ => rfl) rfl (by decide) (fun σ k _ _ => nI_add 202 k) (fun σ k _ _ => nI_add 119 k) (by decide) (by decide) (by decide) (by decide) (Or.inr (fun k k' _ _ => by omega)) (fun _ _ _ _ _ => trivial) 747 0 ps_N σ (by decide) (by unfold ps_N; decide) trivial
    refine pz_bd' l1 ?_
    have a1 : ∀ k, k < 119 ∨ 866 ≤ k → (ps_rI σ 328 (pz_cp (σ.1 328) (σ.1 328) 202 119 0 747)).1 328 k = σ.1 328 k := fun k hk => by rw [ps_rI_at, pz_cp_out (by omega)]
    have a2 : ∀ k, k < 747 → (ps_rI σ 328 (pz_cp (σ.1 328) (σ.1 328) 202 119 0 747)).1 328 (119 + k) = σ.1 328 (202 + k) := fun k hk => by rw [ps_rI_at, pz_cp_in (by omega) hk]
    have a3 : ∀ c, c ≠ 328 → (ps_rI σ 328 (pz_cp (σ.1 328) (σ.1 328) 202 119 0 747)).1 c = σ.1 c := fun c hc => ps_rI_ne _ _ hc
    have a4 : (ps_rI σ 328 (pz_cp (σ.1 328) (σ.1 328) 202 119 0 747)).2 = σ.2 := rfl
    generalize ps_rI σ 328 (pz_cp (σ.1 328) (σ.1 328) 202 119 0 747) = σ1 at a1 a2 a3 a4 ⊢
    have l2 : qX9_notes_48 ps_N 4 σ1 = some (nI 40, ps_rD σ1 329 (pz_cp (σ1.2.2 329) (σ1.2.2 329) 4 0 4 40)) := pz_cpD (F := qX9_notes_48) (a := fun _ x => x + 4) (b := fun _ x => x) (fun _ => True) (fun n x σ => rfl) rfl (by decide) (fun σ k _ _ => by
      show nI k + 4 = _
      rw [show nI k + 4 = nI (k + 4) from nI_add k 4, Nat.add_comm]) (fun σ k _ _ => by rw [Nat.zero_add]) (by decide) (by decide) (by decide) (by decide) (Or.inr (fun k k' _ _ => by omega)) (fun _ _ _ _ _ => trivial) 36 4 ps_N σ1 (by decide) (by unfold ps_N; decide) trivial
    refine pz_bd' l2 ?_
    refine pz_l (show _ = nI 10 by rw [ps_rD_1, a1 118 (by omega)]; exact w3a) ?_
    rw [show nI 10 - 1 = nI 9 from nI_pred 9, pz_lt]
    have b1 : ∀ k, k ≠ 118 → (ps_rI (ps_rD σ1 329 (pz_cp (σ1.2.2 329) (σ1.2.2 329) 4 0 4 40)) 328 (upd ((ps_rD σ1 329 (pz_cp (σ1.2.2 329) (σ1.2.2 329) 4 0 4 40)).1 328) 118 (nI 9))).1 328 k = σ1.1 328 k := fun k hk => by rw [ps_rI_at, upd_ne _ _ hk, ps_rD_1]
    have b2 : (ps_rI (ps_rD σ1 329 (pz_cp (σ1.2.2 329) (σ1.2.2 329) 4 0 4 40)) 328 (upd ((ps_rD σ1 329 (pz_cp (σ1.2.2 329) (σ1.2.2 329) 4 0 4 40)).1 328) 118 (nI 9))).1 328 118 = nI 9 := by rw [ps_rI_at, upd_self]
    have b3 : ∀ c, c ≠ 328 → (ps_rI (ps_rD σ1 329 (pz_cp (σ1.2.2 329) (σ1.2.2 329) 4 0 4 40)) 328 (upd ((ps_rD σ1 329 (pz_cp (σ1.2.2 329) (σ1.2.2 329) 4 0 4 40)).1 328) 118 (nI 9))).1 c = σ.1 c := fun c hc => by rw [ps_rI_ne _ _ hc, ps_rD_1, a3 c hc]
    have b4 : (ps_rI (ps_rD σ1 329 (pz_cp (σ1.2.2 329) (σ1.2.2 329) 4 0 4 40)) 328 (upd ((ps_rD σ1 329 (pz_cp (σ1.2.2 329) (σ1.2.2 329) 4 0 4 40)).1 328) 118 (nI 9))).2.1 = σ.2.1 := by rw [ps_rI_2, ps_rD_21, a4]
    have b5 : ∀ c, c ≠ 329 → (ps_rI (ps_rD σ1 329 (pz_cp (σ1.2.2 329) (σ1.2.2 329) 4 0 4 40)) 328 (upd ((ps_rD σ1 329 (pz_cp (σ1.2.2 329) (σ1.2.2 329) 4 0 4 40)).1 328) 118 (nI 9))).2.2 c = σ.2.2 c := fun c hc => by rw [ps_rI_2, ps_rD_ne _ _ hc, a4]
    have b6 : ∀ k, k < 4 ∨ 40 ≤ k → (ps_rI (ps_rD σ1 329 (pz_cp (σ1.2.2 329) (σ1.2.2 329) 4 0 4 40)) 328 (upd ((ps_rD σ1 329 (pz_cp (σ1.2.2 329) (σ1.2.2 329) 4 0 4 40)).1 328) 118 (nI 9))).2.2 329 k = σ.2.2 329 k := fun k hk => by rw [ps_rI_2, ps_rD_at, pz_cp_out (by omega), a4]
    have b7 : ∀ k, 4 ≤ k → k < 40 → (ps_rI (ps_rD σ1 329 (pz_cp (σ1.2.2 329) (σ1.2.2 329) 4 0 4 40)) 328 (upd ((ps_rD σ1 329 (pz_cp (σ1.2.2 329) (σ1.2.2 329) 4 0 4 40)).1 328) 118 (nI 9))).2.2 329 k = σ.2.2 329 (4 + k) := fun k h1 h2 => by
      have := pz_cp_in (s := σ1.2.2 329) (d := σ1.2.2 329) (A := 4) (B := 0) (i := 4) (N := 40) (k := k) h1 h2
      rw [Nat.zero_add] at this
      rw [ps_rI_2, ps_rD_at, this, a4]
    generalize ps_rI (ps_rD σ1 329 (pz_cp (σ1.2.2 329) (σ1.2.2 329) 4 0 4 40)) 328 (upd ((ps_rD σ1 329 (pz_cp (σ1.2.2 329) (σ1.2.2 329) 4 0 4 40)).1 328) 118 (nI 9)) = υ at b1 b2 b3 b4 b5 b6 b7 ⊢
    refine pz_im (pg_note1 (m := 9) (by decide) b2) (fun _ τ ht => ?_)
    refine fin υ τ 9 (by decide) (fun k hk => by rw [b1 k (by omega), a1 k (by omega)]) (fun k hk => b6 k (by omega)) b3 b4 b5 (fun i hi => ?_) rfl (by unfold pa_pP; rw [if_pos rfl]; rfl) ht
    have e := w3b (i + 1) (by omega)
    have ep : pa_pP 10 P z i = P (i + 1) := by unfold pa_pP; rw [if_pos rfl]; simp only [hi, if_true]
    rw [ep]
    refine ⟨?_, ?_⟩
    · rw [← e.1]
      unfold pg_nr
      exact pa_can_ext (fun k hk => by
        rw [b1 _ (by omega), show 119 + 83 * i + k = 119 + (83 * i + k) by omega, a2 _ (by omega), show 202 + (83 * i + k) = 119 + 83 * (i + 1) + k by omega])
    · rw [← e.2]
      unfold pg_ne
      funext k
      by_cases c2 : k < H.2.1
      · rw [if_pos c2, if_pos c2, b7 _ (by omega) (by omega), show 4 + (4 + 4 * i + k) = 4 + 4 * (i + 1) + k by omega]
      · rw [if_neg c2, if_neg c2]
  · refine pz_e (fun hh => c ((nI_eq (a := n) (b := 10) (by omega) (by omega)).mp hh)) ?_
    refine pz_im (pg_note1 (m := n) (by omega) w3a) (fun _ τ ht => ?_)
    refine fin σ τ n (by omega) (fun _ _ => rfl) (fun _ _ => rfl) (fun _ _ => rfl) rfl (fun _ _ => rfl) (fun i hi => ?_) (by unfold pa_pn; rw [if_neg c]) (by unfold pa_pP; rw [if_neg c]; simp only [if_true]) ht
    have ep : pa_pP n P z i = P i := by unfold pa_pP; rw [if_neg c]; simp only [show ¬ i = n by omega, if_false]
    rw [ep]
    exact w3b i hi
theorem pa_W.push {z : pa_X} (hW : pa_W T H x n P im tr tp) (hz : pa_W1 T H z) : pa_W T H x (pa_pn n) (pa_pP n P z) im tr tp := by
  obtain ⟨w1, w2, ⟨w3, w4⟩, w5⟩ := hW
  refine ⟨w1, w2, ⟨?_, fun i hi => ?_⟩, w5⟩
  · unfold pa_pn
    by_cases c : n = 10
    · rw [if_pos c]; omega
    · rw [if_neg c]; omega
  · unfold pa_pn at hi
    unfold pa_pP
    by_cases c : n = 10
    · rw [if_pos c] at hi ⊢
      by_cases c2 : i < 9
      · simp only [c2, if_true]; exact w4 (i + 1) (by omega)
      · simp only [c2, if_false]; exact hz
    · rw [if_neg c] at hi ⊢
      by_cases c2 : i = n
      · simp only [c2, if_true]; exact hz
      · simp only [c2, if_false]; exact w4 i (by omega)
theorem pa_W.setX {x' : pa_X} (hW : pa_W T H x n P im tr tp) (hx : pa_W1 T H x') : pa_W T H x' n P im tr tp := ⟨hW.1, hx, hW.2.2⟩
/-- ticks of now -/
theorem pg_goesTicks {k : Nat} (hW : pa_W T H x n P im tr tp) (iv : pa_V H t x) (ht : t + k ≤ 3000000) (hk : k ≤ 999) (w : pg_W H x n P im tr tp fl σ) : ps_ok (qX9_goesTicks (nI k) σ) (fun v τ => v = pa_sum (pa_tks H (pa_p0 H.1) k x).1 45 4 - pa_sum x.1 45 4 ∧ pg_W H (pa_tks H (pa_p0 H.1) k x) n P im tr tp fl τ ∧ pw_c σ τ ∧ τ.1 337 = σ.1 337 ∧ τ.2.2 338 = σ.2.2 338 ∧ τ.1 327 28 = σ.1 327 28 ∧ τ.1 327 29 = σ.1 327 29) := by
  obtain ⟨hp, -⟩ := pa_p0I hW.1
  unfold qX9_goesTicks
  have bk : ps_ok (qX9_begins σ) (fun _ τ => τ.1 337 = σ.1 337 ∧ τ.2.2 338 = σ.2.2 338 ∧ τ.1 327 28 = σ.1 327 28 ∧ τ.1 327 29 = σ.1 327 29) := by
    have l1 : qX9_begins_2 ps_N 0 σ = some (nI 83, ps_rI σ 335 (pz_cp (σ.1 328) (σ.1 335) 35 0 0 83)) := pz_cpI (F := qX9_begins_2) (a := fun _ x => 35 + x) (b := fun _ x => x) (fun _ => True) (fun n x σ => rfl) rfl (by decide) (fun σ k _ _ => nI_add 35 k) (fun σ k _ _ => by rw [Nat.zero_add]) (by decide) (by decide) (by decide) (by decide) (Or.inl (by decide)) (fun _ _ _ _ _ => trivial) 83 0 ps_N σ (by decide) (by unfold ps_N; decide) trivial
    unfold qX9_begins
    refine pz_bd' l1 ?_
    have e1 : (ps_rI σ 335 (pz_cp (σ.1 328) (σ.1 335) 35 0 0 83)).1 337 = σ.1 337 := ps_rI_ne _ _ (by decide)
    have e2 : (ps_rI σ 335 (pz_cp (σ.1 328) (σ.1 335) 35 0 0 83)).1 327 = σ.1 327 := ps_rI_ne _ _ (by decide)
    have e3 : (ps_rI σ 335 (pz_cp (σ.1 328) (σ.1 335) 35 0 0 83)).2 = σ.2 := rfl
    generalize ps_rI σ 335 (pz_cp (σ.1 328) (σ.1 335) 35 0 0 83) = σ7 at e1 e2 e3 ⊢
    have l2 : qX9_begins_31 ps_N 0 σ7 = some (nI 4, ps_rD σ7 336 (pz_cp (σ7.2.2 329) (σ7.2.2 336) 0 0 0 4)) := pz_cpD (F := qX9_begins_31) (a := fun _ x => x) (b := fun _ x => x) (fun _ => True) (fun n x σ => rfl) rfl (by decide) (fun σ k _ _ => by rw [Nat.zero_add]) (fun σ k _ _ => by rw [Nat.zero_add]) (by decide) (by decide) (by decide) (by decide) (Or.inl (by decide)) (fun _ _ _ _ _ => trivial) 4 0 ps_N σ7 (by decide) (by unfold ps_N; decide) trivial
    refine pz_bd' l2 ?_
    rw [pz_lt, pz_lt, pz_lt, pz_lt, pz_lt]
    refine pz_done ⟨?_, ?_, ?_, ?_⟩
    · rw [ps_rI_ne _ _ (by decide), ps_rI_ne _ _ (by decide), ps_rI_ne _ _ (by decide), ps_rI_ne _ _ (by decide), ps_rD_1, e1]
    · rw [ps_rI_2, ps_rI_2, ps_rI_2, ps_rI_2, ps_rD_ne _ _ (by decide), e3]
    · rw [ps_rI_at, upd_ne _ _ (by decide), ps_rI_at, upd_ne _ _ (by decide), ps_rI_at, upd_ne _ _ (by decide), ps_rI_at, upd_ne _ _ (by decide), ps_rD_1, e2]
    · rw [ps_rI_at, upd_ne _ _ (by decide), ps_rI_at, upd_ne _ _ (by decide), ps_rI_at, upd_ne _ _ (by decide), ps_rI_at, upd_ne _ _ (by decide), ps_rD_1, e2]
  refine pz_bd (pz_and (w.go hW.1) bk) (fun _ σ2 g => ?_)
  obtain ⟨g, c1, c2, c3, c4⟩ := g
  have s1 : qX9_wroteInAll σ2 = some (pa_sum x.1 45 4, σ2) := by
    have q : qX9_sumOf 45 4 σ2 = some (pa_sum x.1 45 4, σ2) := g.1.sum (a := 45) (n := 4) (by omega) (by omega) (by omega)
    unfold qX9_wroteInAll
    rw [pz_bde q]
  refine pz_bd' s1 ?_
  refine pz_bd (pg_ticks hW.1.1 hW.1.2 hp hk iv ht g.1) (fun _ σ3 g3 => ?_)
  have fr := g3.2.2.2.2
  have kp := fr.kp
  have w3 := kp.W g.2.2
  have h23 : ∀ d, d < 4 → σ3.1 327 23 ≠ nI d := fun d hd => by
    rw [← g3.2.2.2.1.2.2.1]
    exact fun hh => nI_m1 (by omega) hh.symm
  have r3 : pg_r H.2.1 H.2.2.2 σ3 = (pa_tks H (pa_p0 H.1) k x).1 := g3.1
  have e3 : pg_e H.2.1 σ3 = (pa_tks H (pa_p0 H.1) k x).2 := g3.2.1
  refine pz_bd (pg_intoX (F1 := qX9_isSo_2) (F2 := qX9_isSo_31) (cI := 335) (cD := 336) (Or.inl rfl) (Or.inl rfl) pg_isSoL1 pg_isSoL2 hW w3 (by rw [← r3, pg_rows h23]) e3) (fun _ σ4 h4 => ?_)
  obtain ⟨i1, i2, i3, i4, i5⟩ := h4
  have s2 : qX9_wroteInAll σ4 = some (pa_sum (pa_tks H (pa_p0 H.1) k x).1 45 4, σ4) := by
    have q : qX9_sumOf 45 4 σ4 = some (pa_sum (pa_tks H (pa_p0 H.1) k x).1 45 4, σ4) := by
      have q0 : qX9_sumOf 45 4 σ4 = some (pa_sum (σ4.1 335) 45 4, σ4) := pg_sum 45 4 (by omega) σ4
      rw [q0, i3 335 (by decide), pa_sum_congr (g := (pa_tks H (pa_p0 H.1) k x).1) (fun i hi => by rw [← r3, pg_rd (by omega) (by omega) (by omega)])]
    unfold qX9_wroteInAll
    rw [pz_bde q]
  refine pz_bd' s2 ?_
  have f337 := fr.1 337 (by decide) (by decide) (by decide)
  have f327 := fr.1 327 (by decide) (by decide) (by decide)
  refine pz_done ⟨rfl, i1, pw_c.tr (pw_c.tr g.2.1.1 kp.1) i2, ?_, ?_, ?_, ?_⟩
  · rw [i3 337 (by decide), f337, c1]
  · rw [i5 338 (by decide), fr.2.2 338 (by decide), c2]
  · rw [i3 327 (by decide), f327, c3]
  · rw [i3 327 (by decide), f327, c4]
end DEED2
