/-! the law's loop -/
theorem pw_W.mono {T U : Nat} {σ : ps_S} (w : pw_W T σ) (h : T ≤ U) : pw_W U σ := by
  obtain ⟨H, x, n, P, im, tr, tp, fl, hW, hc, hg⟩ := w
  exact ⟨H, x, n, P, im, tr, tp, fl, hW.mono h, hc, hg⟩
theorem pq_rd {β : Type} {x : Int32} {k L : Nat} {xs : Nat → Int32} {P : β → ps_S → Prop} {inst : Decidable (ps_in x L = true)} {f : Int32 → Option (β × ps_S)} (hx : x = nI k) (hk : k < L) (hL : L ≤ 3072) (h : ps_ok (f (xs k)) P) : ps_ok (@ite _ (ps_in x L = true) inst (ps_let (xs x.toNatClampNeg) f) none) P := by
  subst hx
  rw [if_pos (pz_ini hk (by omega)), nI_clamp (by omega)]
  exact h
theorem pq_c {L i : Nat} (hL : L ≤ 3072) (hi : i ≤ 4000) : ((Int32.ofNat L) - 6 < nI i) ↔ L < i + 6 := by
  have e : (Int32.ofNat L) = nI L := rfl
  have e6 : (6 : Int32) = nI 6 := rfl
  rw [e]
  by_cases c : 6 ≤ L
  · rw [e6, nI_sub c]
    constructor
    · intro h
      by_cases c2 : i ≤ L - 6
      · exact absurd (Int32.not_lt.mpr (nI_le c2 (by omega))) (fun hh => hh h)
      · omega
    · intro h
      exact Int32.not_le.mp (nI_ge (by omega) (by omega))
  · have h0 : ∀ L, L < 6 → nI L - 6 < 0 := by decide +kernel
    refine ⟨fun _ => by omega, fun _ => ?_⟩
    refine Int32.lt_of_lt_of_le (h0 L (by omega)) ?_
    exact nI_le (a := 0) (b := i) (by omega) (by omega)
theorem pz_lgs (v : Int64) : lg_cmp v v = 0 := (lg_cmp_eq v v).mpr rfl
theorem pz_sp {β : Type} {c : Prop} {inst : Decidable c} {A B : Option (β × ps_S)} {Q : β → ps_S → Prop} (h1 : ps_ok A Q) (h2 : ps_ok B Q) : ps_ok (@ite _ c inst A B) Q := by
  by_cases h : c
  · rw [if_pos h]; exact h1
  · rw [if_neg h]; exact h2
section LOOP
variable {L : Nat} {xs : Nat → Int32}
theorem pw_loop (hHost : ∀ (T : Nat) (σ : ps_S) (p1 : Int32), pw_W T σ → pw_call T (qX8_host p1) (qX9_host p1) σ) (hL : L ≤ 3072) : ∀ (m j fuel : Nat) (σ : ps_S), j + m = 513 → m < fuel → pw_W (4000 * j) σ → ps_ok (qLaw L xs fuel (nI (6 * j)) σ) (fun r _ => r = 1) := by
  intro m
  induction m with
  | zero =>
    intro j fuel σ e1 e2 w
    obtain ⟨f, rfl⟩ : ∃ f, fuel = f + 1 := ⟨fuel - 1, by omega⟩
    rw [qLaw]
    exact pz_t ((pq_c hL (by omega)).mpr (by omega)) (pz_done rfl)
  | succ m ih =>
    intro j fuel σ e1 e2 w
    obtain ⟨f, rfl⟩ : ∃ f, fuel = f + 1 := ⟨fuel - 1, by omega⟩
    rw [qLaw]
    by_cases c : L < 6 * j + 6
    · exact pz_t ((pq_c hL (by omega)).mpr c) (pz_done rfl)
    refine pz_e (fun h => c ((pq_c hL (by omega)).mp h)) ?_
    refine pq_rd rfl (by omega) hL ?_
    rw [pz_lt]
    have hT : 4000 * j ≤ 2990000 := by omega
    have e6 : nI (6 * j) + 6 = nI (6 * (j + 1)) := nI_add (6 * j) 6
    have k1 : nI (6 * j) + 1 = nI (6 * j + 1) := nI_add (6 * j) 1
    have k2 : nI (6 * j) + 2 = nI (6 * j + 2) := nI_add (6 * j) 2
    have k3 : nI (6 * j) + 3 = nI (6 * j + 3) := nI_add (6 * j) 3
    have k4 : nI (6 * j) + 4 = nI (6 * j + 4) := nI_add (6 * j) 4
    have k5 : nI (6 * j) + 5 = nI (6 * j + 5) := nI_add (6 * j) 5
    have co : ∀ υ, pw_W (4000 * (j + 1)) υ → ps_ok (qLaw L xs f (nI (6 * j) + 6) υ) (fun r _ => r = 1) := fun υ wu => by
      rw [e6]
      exact ih (j + 1) f υ (by omega) (by omega) wu
    refine pz_sp ?_ ?_
    · refine pq_rd k1 (by omega) hL ?_
      refine pq_rd k2 (by omega) hL ?_
      refine pq_rd k3 (by omega) hL ?_
      refine pq_rd k4 (by omega) hL ?_
      refine pq_rd k5 (by omega) hL ?_
      refine pz_bd (pw_feed w) (fun v σ1 h1 => ?_)
      refine pq_rd k1 (by omega) hL ?_
      refine pq_rd k2 (by omega) hL ?_
      refine pq_rd k3 (by omega) hL ?_
      refine pq_rd k4 (by omega) hL ?_
      refine pq_rd k5 (by omega) hL ?_
      refine pz_bd h1 (fun v' σ2 h2 => ?_)
      obtain ⟨rfl, w2⟩ := h2
      refine pz_t rfl ?_
      exact co σ2 (w2.mono (by omega))
    refine pz_sp ?_ ?_
    · refine pq_rd k1 (by omega) hL ?_
      refine pz_bd (hHost _ σ _ w) (fun v σ1 h1 => ?_)
      refine pq_rd k1 (by omega) hL ?_
      refine pz_bd h1 (fun v' σ2 h2 => ?_)
      obtain ⟨rfl, w2⟩ := h2
      refine pz_t rfl ?_
      exact co σ2 (w2.mono (by omega))
    refine pz_sp ?_ ?_
    · refine pq_rd k1 (by omega) hL ?_
      refine pz_bd (pw_fault w) (fun v σ1 h1 => ?_)
      refine pq_rd k1 (by omega) hL ?_
      refine pz_bd h1 (fun v' σ2 h2 => ?_)
      obtain ⟨rfl, w2⟩ := h2
      refine pz_t rfl ?_
      exact co σ2 (w2.mono (by omega))
    refine pz_sp ?_ ?_
    · refine pq_rd k1 (by omega) hL ?_
      refine pz_bd (pw_set w) (fun v σ1 h1 => ?_)
      refine pq_rd k1 (by omega) hL ?_
      refine pz_bd h1 (fun v' σ2 h2 => ?_)
      obtain ⟨rfl, w2⟩ := h2
      refine pz_t rfl ?_
      exact co σ2 (w2.mono (by omega))
    refine pz_sp ?_ ?_
    · refine pq_rd k1 (by omega) hL ?_
      refine pq_rd k2 (by omega) hL ?_
      refine pz_bd (pw_device w (by omega)) (fun v σ1 h1 => ?_)
      refine pq_rd k1 (by omega) hL ?_
      refine pq_rd k2 (by omega) hL ?_
      refine pz_bd h1 (fun v' σ2 h2 => ?_)
      obtain ⟨rfl, w2⟩ := h2
      refine pz_t (pz_lgs _) ?_
      exact co σ2 (w2.mono (by omega))
    refine pz_sp ?_ ?_
    · refine pq_rd k1 (by omega) hL ?_
      refine pq_rd k2 (by omega) hL ?_
      refine pz_bd (pw_file w) (fun v σ1 h1 => ?_)
      refine pq_rd k1 (by omega) hL ?_
      refine pq_rd k2 (by omega) hL ?_
      refine pz_bd h1 (fun v' σ2 h2 => ?_)
      obtain ⟨rfl, w2⟩ := h2
      refine pz_t rfl ?_
      exact co σ2 (w2.mono (by omega))
    refine pz_sp ?_ ?_
    · refine pq_rd k1 (by omega) hL ?_
      refine pq_rd k2 (by omega) hL ?_
      refine pz_bd (pw_writer w) (fun v σ1 h1 => ?_)
      refine pq_rd k1 (by omega) hL ?_
      refine pq_rd k2 (by omega) hL ?_
      refine pz_bd h1 (fun v' σ2 h2 => ?_)
      obtain ⟨rfl, w2⟩ := h2
      refine pz_t rfl ?_
      exact co σ2 (w2.mono (by omega))
    refine pz_sp ?_ ?_
    · refine pq_rd k1 (by omega) hL ?_
      refine pz_bd (pw_next w) (fun v σ1 h1 => ?_)
      refine pq_rd k1 (by omega) hL ?_
      refine pz_bd h1 (fun v' σ2 h2 => ?_)
      obtain ⟨rfl, w2⟩ := h2
      refine pz_t rfl ?_
      exact co σ2 (w2.mono (by omega))
    refine pz_sp ?_ ?_
    · refine pq_rd k1 (by omega) hL ?_
      refine pq_rd k2 (by omega) hL ?_
      refine pz_bd (pw_pause w (by omega)) (fun v σ1 h1 => ?_)
      refine pq_rd k1 (by omega) hL ?_
      refine pq_rd k2 (by omega) hL ?_
      refine pz_bd h1 (fun v' σ2 h2 => ?_)
      obtain ⟨rfl, w2⟩ := h2
      refine pz_t rfl ?_
      exact co σ2 (w2.mono (by omega))
    refine pz_sp ?_ ?_
    · refine pq_rd k1 (by omega) hL ?_
      refine pz_bd (pw_ticks w (by omega)) (fun v σ1 h1 => ?_)
      refine pq_rd k1 (by omega) hL ?_
      refine pz_bd h1 (fun v' σ2 h2 => ?_)
      obtain ⟨rfl, w2⟩ := h2
      refine pz_t rfl ?_
      exact co σ2 (w2.mono (by omega))
    refine pz_sp ?_ ?_
    · refine pq_rd k1 (by omega) hL ?_
      refine pq_rd k2 (by omega) hL ?_
      refine pz_bd (pw_speed w) (fun v σ1 h1 => ?_)
      refine pq_rd k1 (by omega) hL ?_
      refine pq_rd k2 (by omega) hL ?_
      refine pz_bd h1 (fun v' σ2 h2 => ?_)
      obtain ⟨rfl, w2⟩ := h2
      refine pz_t rfl ?_
      exact co σ2 (w2.mono (by omega))
    refine pz_sp ?_ ?_
    · refine pq_rd k1 (by omega) hL ?_
      refine pq_rd k2 (by omega) hL ?_
      refine pz_bd (pw_wants w) (fun v σ1 h1 => ?_)
      refine pq_rd k1 (by omega) hL ?_
      refine pq_rd k2 (by omega) hL ?_
      refine pz_bd h1 (fun v' σ2 h2 => ?_)
      obtain ⟨rfl, w2⟩ := h2
      refine pz_t rfl ?_
      exact co σ2 (w2.mono (by omega))
    refine pz_sp ?_ ?_
    · refine pq_rd k1 (by omega) hL ?_
      refine pz_bd (pw_undo w) (fun v σ1 h1 => ?_)
      refine pq_rd k1 (by omega) hL ?_
      refine pz_bd h1 (fun v' σ2 h2 => ?_)
      obtain ⟨rfl, w2⟩ := h2
      refine pz_t rfl ?_
      exact co σ2 (w2.mono (by omega))
    refine pz_sp ?_ ?_
    · refine pq_rd k1 (by omega) hL ?_
      refine pq_rd k2 (by omega) hL ?_
      refine pz_bd (pw_judge w (by omega)) (fun v σ1 h1 => ?_)
      refine pq_rd k1 (by omega) hL ?_
      refine pq_rd k2 (by omega) hL ?_
      refine pz_bd h1 (fun v' σ2 h2 => ?_)
      obtain ⟨rfl, w2⟩ := h2
      refine pz_t rfl ?_
      exact co σ2 (w2.mono (by omega))
    refine pz_sp ?_ ?_
    · refine pq_rd k1 (by omega) hL ?_
      refine pz_bd (pw_perform w (by omega)) (fun v σ1 h1 => ?_)
      refine pq_rd k1 (by omega) hL ?_
      refine pz_bd h1 (fun v' σ2 h2 => ?_)
      obtain ⟨rfl, w2⟩ := h2
      refine pz_t rfl ?_
      exact co σ2 (w2.mono (by omega))
    refine pz_sp ?_ ?_
    · refine pq_rd k1 (by omega) hL ?_
      refine pq_rd k2 (by omega) hL ?_
      refine pz_bd (pw_load w (by omega)) (fun v σ1 h1 => ?_)
      refine pq_rd k1 (by omega) hL ?_
      refine pq_rd k2 (by omega) hL ?_
      refine pz_bd h1 (fun v' σ2 h2 => ?_)
      obtain ⟨rfl, w2⟩ := h2
      refine pz_t rfl ?_
      exact co σ2 (w2.mono (by omega))
    refine pz_sp ?_ ?_
    · refine pq_rd k1 (by omega) hL ?_
      refine pq_rd k2 (by omega) hL ?_
      refine pz_bd (pw_later w (by omega)) (fun v σ1 h1 => ?_)
      refine pq_rd k1 (by omega) hL ?_
      refine pq_rd k2 (by omega) hL ?_
      refine pz_bd h1 (fun v' σ2 h2 => ?_)
      obtain ⟨rfl, w2⟩ := h2
      refine pz_t rfl ?_
      exact co σ2 (w2.mono (by omega))
    refine pz_sp ?_ ?_
    · refine pq_rd k1 (by omega) hL ?_
      refine pz_bd (pw_passes w (by omega)) (fun v σ1 h1 => ?_)
      refine pq_rd k1 (by omega) hL ?_
      refine pz_bd h1 (fun v' σ2 h2 => ?_)
      obtain ⟨rfl, w2⟩ := h2
      refine pz_t rfl ?_
      exact co σ2 (w2.mono (by omega))
    refine pz_sp ?_ ?_
    · refine pq_rd k1 (by omega) hL ?_
      refine pz_bd (pw_oldest w (by omega)) (fun v σ1 h1 => ?_)
      refine pq_rd k1 (by omega) hL ?_
      refine pz_bd h1 (fun v' σ2 h2 => ?_)
      obtain ⟨rfl, w2⟩ := h2
      refine pz_t rfl ?_
      exact co σ2 (w2.mono (by omega))
    refine pz_sp ?_ ?_
    · refine pz_bd (pw_drains w (by omega)) (fun v σ1 h1 => ?_)
      refine pz_bd h1 (fun v' σ2 h2 => ?_)
      obtain ⟨rfl, w2⟩ := h2
      refine pz_t rfl ?_
      exact co σ2 (w2.mono (by omega))
    refine pz_sp ?_ ?_
    · refine pq_rd k1 (by omega) hL ?_
      refine pq_rd k2 (by omega) hL ?_
      refine pz_bd (pw_written w (by omega)) (fun v σ1 h1 => ?_)
      refine pq_rd k1 (by omega) hL ?_
      refine pq_rd k2 (by omega) hL ?_
      refine pz_bd h1 (fun v' σ2 h2 => ?_)
      obtain ⟨rfl, w2⟩ := h2
      refine pz_t rfl ?_
      exact co σ2 (w2.mono (by omega))
    refine pz_sp ?_ ?_
    · refine pq_rd k1 (by omega) hL ?_
      refine pq_rd k2 (by omega) hL ?_
      refine pz_bd (pw_starved w (by omega)) (fun v σ1 h1 => ?_)
      refine pq_rd k1 (by omega) hL ?_
      refine pq_rd k2 (by omega) hL ?_
      refine pz_bd h1 (fun v' σ2 h2 => ?_)
      obtain ⟨rfl, w2⟩ := h2
      refine pz_t rfl ?_
      exact co σ2 (w2.mono (by omega))
    refine pz_sp ?_ ?_
    · refine pq_rd k1 (by omega) hL ?_
      refine pq_rd k2 (by omega) hL ?_
      refine pz_bd (pw_fair w (by omega)) (fun v σ1 h1 => ?_)
      refine pq_rd k1 (by omega) hL ?_
      refine pq_rd k2 (by omega) hL ?_
      refine pz_bd h1 (fun v' σ2 h2 => ?_)
      obtain ⟨rfl, w2⟩ := h2
      refine pz_t (pz_lgs _) ?_
      exact co σ2 (w2.mono (by omega))
    refine pz_sp ?_ ?_
    · refine pq_rd k1 (by omega) hL ?_
      refine pq_rd k2 (by omega) hL ?_
      refine pz_bd (pw_most w (by omega)) (fun v σ1 h1 => ?_)
      refine pq_rd k1 (by omega) hL ?_
      refine pq_rd k2 (by omega) hL ?_
      refine pz_bd h1 (fun v' σ2 h2 => ?_)
      obtain ⟨rfl, w2⟩ := h2
      refine pz_t rfl ?_
      exact co σ2 (w2.mono (by omega))
    refine pz_sp ?_ ?_
    · refine pq_rd k1 (by omega) hL ?_
      refine pz_bd (pw_held w (by omega)) (fun v σ1 h1 => ?_)
      refine pq_rd k1 (by omega) hL ?_
      refine pz_bd h1 (fun v' σ2 h2 => ?_)
      obtain ⟨rfl, w2⟩ := h2
      refine pz_t rfl ?_
      exact co σ2 (w2.mono (by omega))
    refine pz_sp ?_ ?_
    · refine pq_rd k1 (by omega) hL ?_
      refine pz_bd (pw_enough w (by omega)) (fun v σ1 h1 => ?_)
      refine pq_rd k1 (by omega) hL ?_
      refine pz_bd h1 (fun v' σ2 h2 => ?_)
      obtain ⟨rfl, w2⟩ := h2
      refine pz_t rfl ?_
      exact co σ2 (w2.mono (by omega))
    refine pz_sp ?_ ?_
    · refine pq_rd k1 (by omega) hL ?_
      refine pq_rd k2 (by omega) hL ?_
      refine pz_bd (pw_bears w (by omega)) (fun v σ1 h1 => ?_)
      refine pq_rd k1 (by omega) hL ?_
      refine pq_rd k2 (by omega) hL ?_
      refine pz_bd h1 (fun v' σ2 h2 => ?_)
      obtain ⟨rfl, w2⟩ := h2
      refine pz_t rfl ?_
      exact co σ2 (w2.mono (by omega))
    refine pz_sp ?_ ?_
    · refine pq_rd k1 (by omega) hL ?_
      refine pq_rd k2 (by omega) hL ?_
      refine pq_rd k3 (by omega) hL ?_
      refine pz_bd (pw_speeds w (by omega)) (fun v σ1 h1 => ?_)
      refine pq_rd k1 (by omega) hL ?_
      refine pq_rd k2 (by omega) hL ?_
      refine pq_rd k3 (by omega) hL ?_
      refine pz_bd h1 (fun v' σ2 h2 => ?_)
      obtain ⟨rfl, w2⟩ := h2
      refine pz_t rfl ?_
      exact co σ2 (w2.mono (by omega))
    refine pz_sp ?_ ?_
    · refine pq_rd k1 (by omega) hL ?_
      refine pz_bd (pw_busiest w (by omega)) (fun v σ1 h1 => ?_)
      refine pq_rd k1 (by omega) hL ?_
      refine pz_bd h1 (fun v' σ2 h2 => ?_)
      obtain ⟨rfl, w2⟩ := h2
      refine pz_t rfl ?_
      exact co σ2 (w2.mono (by omega))
    refine pz_sp ?_ ?_
    · refine pq_rd k1 (by omega) hL ?_
      refine pq_rd k2 (by omega) hL ?_
      refine pq_rd k3 (by omega) hL ?_
      refine pz_bd (pw_chance w (by omega)) (fun v σ1 h1 => ?_)
      refine pq_rd k1 (by omega) hL ?_
      refine pq_rd k2 (by omega) hL ?_
      refine pq_rd k3 (by omega) hL ?_
      refine pz_bd h1 (fun v' σ2 h2 => ?_)
      obtain ⟨rfl, w2⟩ := h2
      refine pz_t rfl ?_
      exact co σ2 (w2.mono (by omega))
    refine pz_sp ?_ ?_
    · refine pq_rd k1 (by omega) hL ?_
      refine pq_rd k2 (by omega) hL ?_
      refine pz_bd (pw_mean w (by omega)) (fun v σ1 h1 => ?_)
      refine pq_rd k1 (by omega) hL ?_
      refine pq_rd k2 (by omega) hL ?_
      refine pz_bd h1 (fun v' σ2 h2 => ?_)
      obtain ⟨rfl, w2⟩ := h2
      refine pz_t rfl ?_
      exact co σ2 (w2.mono (by omega))
    refine pz_sp ?_ ?_
    · refine pq_rd k1 (by omega) hL ?_
      refine pq_rd k2 (by omega) hL ?_
      refine pq_rd k3 (by omega) hL ?_
      refine pz_bd (pw_numbers w) (fun v σ1 h1 => ?_)
      refine pq_rd k1 (by omega) hL ?_
      refine pq_rd k2 (by omega) hL ?_
      refine pq_rd k3 (by omega) hL ?_
      refine pz_bd h1 (fun v' σ2 h2 => ?_)
      obtain ⟨rfl, w2⟩ := h2
      refine pz_t rfl ?_
      exact co σ2 (w2.mono (by omega))
    refine pz_sp ?_ ?_
    · refine pq_rd k1 (by omega) hL ?_
      refine pq_rd k2 (by omega) hL ?_
      refine pq_rd k3 (by omega) hL ?_
      refine pq_rd k4 (by omega) hL ?_
      refine pz_bd (pw_write w) (fun v σ1 h1 => ?_)
      refine pq_rd k1 (by omega) hL ?_
      refine pq_rd k2 (by omega) hL ?_
      refine pq_rd k3 (by omega) hL ?_
      refine pq_rd k4 (by omega) hL ?_
      refine pz_bd h1 (fun v' σ2 h2 => ?_)
      obtain ⟨rfl, w2⟩ := h2
      refine pz_t (pz_lgs _) ?_
      exact co σ2 (w2.mono (by omega))
    refine pz_sp ?_ ?_
    · refine pq_rd k1 (by omega) hL ?_
      refine pq_rd k2 (by omega) hL ?_
      refine pz_bd (pw_lists w (by omega)) (fun v σ1 h1 => ?_)
      refine pq_rd k1 (by omega) hL ?_
      refine pq_rd k2 (by omega) hL ?_
      refine pz_bd h1 (fun v' σ2 h2 => ?_)
      obtain ⟨rfl, w2⟩ := h2
      refine pz_t rfl ?_
      exact co σ2 (w2.mono (by omega))
    refine pz_sp ?_ ?_
    · refine pq_rd k1 (by omega) hL ?_
      refine pz_bd (pw_image w) (fun v σ1 h1 => ?_)
      refine pq_rd k1 (by omega) hL ?_
      refine pz_bd h1 (fun v' σ2 h2 => ?_)
      obtain ⟨rfl, w2⟩ := h2
      refine pz_t rfl ?_
      exact co σ2 (w2.mono (by omega))
    refine pz_sp ?_ ?_
    · refine pq_rd k1 (by omega) hL ?_
      refine pz_bd (pw_restore w) (fun v σ1 h1 => ?_)
      refine pq_rd k1 (by omega) hL ?_
      refine pz_bd h1 (fun v' σ2 h2 => ?_)
      obtain ⟨rfl, w2⟩ := h2
      refine pz_t rfl ?_
      exact co σ2 (w2.mono (by omega))
    refine pz_sp ?_ ?_
    · refine pq_rd k1 (by omega) hL ?_
      refine pz_bd (pw_count w) (fun v σ1 h1 => ?_)
      refine pq_rd k1 (by omega) hL ?_
      refine pz_bd h1 (fun v' σ2 h2 => ?_)
      obtain ⟨rfl, w2⟩ := h2
      refine pz_t rfl ?_
      exact co σ2 (w2.mono (by omega))
    exact co σ (w.mono (by omega))
end LOOP
