/-! host -/
section HOST
variable {T : Nat} {σ : ps_S} {p1 : Int32}
theorem pw_host (w : pw_W T σ) : pw_call T (qX8_host p1) (qX9_host p1) σ := by
  obtain ⟨H, x, n0, P, im, tr, tp, fl, hW, hc, hg⟩ := w
  have ht := hW.2.2.2.2.2
  have h900 := ht.1
  have hD := hW.1.1.1.2
  have hn0 := hW.2.2.1.1
  have q1 := hc.2.2.2.2.1
  by_cases c : p1 < 0 ∨ nI tp.1 < p1
  · refine pw_query (a := -3) hW hc hg ?_ (fun τ hg => ?_)
    · unfold qX8_host
      by_cases c0 : p1 < 0
      · exact pz_t c0 (pz_done ⟨rfl, pc_kp.rf _, hc.1.2.2⟩)
      · refine pz_e c0 ?_
        refine pz_l q1.1 ?_
        exact pz_e (Int32.not_le.mpr (c.resolve_left c0)) (pz_done ⟨rfl, pc_kp.rf _, hc.1.2.2⟩)
    · unfold qX9_host
      refine pg_th hg (fun τ1 hg1 k1 => ?_)
      refine pz_l hg1.2.2.2.2.1.1 ?_
      refine pz_bd' (pg_i0 (lo := 0) (hi := nI tp.1) (by decide) rfl c) ?_
      exact pz_t rfl (pz_done ⟨rfl, k1⟩)
  obtain ⟨n, m1, m2, rfl⟩ := pa_num 0 tp.1 (Nat.zero_le _) (by omega) c
  have hn : n ≤ 900 := by omega
  have hb : ∀ j, j < n → tp.2 j < 256 := fun j hj => ht.2 j (by omega)
  have E : qX8_host (nI n) σ = ps_bd (qX5_readText (nI n) (ps_rI σ 0 (upd (σ.1 0) 1 0))) (fun v5 s6 => if v5 = 0 then ps_let (s6.1 11 0) fun v16 => some (((-30) - v16), s6) else pc_htail s6) := by
    unfold qX8_host
    rw [if_neg (nI_pos (by omega)), pz_lt, q1.1, if_pos (nI_le m2 (by omega)), pz_lt]
    rfl
  have f0 : ∀ j, j ≠ 1 → (ps_rI σ 0 (upd (σ.1 0) 1 0)).1 0 j = σ.1 0 j := fun j hj => by rw [ps_rI_at, upd_ne _ _ hj]
  have f01 : (ps_rI σ 0 (upd (σ.1 0) 1 0)).1 0 1 = 0 := by rw [ps_rI_at, upd_self]
  have fk : ∀ k, k ≠ 0 → (ps_rI σ 0 (upd (σ.1 0) 1 0)).1 k = σ.1 k := fun k hk => ps_rI_ne _ _ hk
  have fq : (ps_rI σ 0 (upd (σ.1 0) 1 0)).2 = σ.2 := rfl
  generalize ps_rI σ 0 (upd (σ.1 0) 1 0) = s4 at E f0 f01 fk fq
  obtain ⟨τ9, _, t1, t8, t12, _⟩ := pg_host0 (υ := σ) m2 ht hg.2.2.2.2.1
  obtain ⟨a, s6, e6, ⟨fr1, fr2⟩, rel⟩ := pl_both (σ := s4) hn hb (fun j hj => by rw [fk 1 (by decide)]; exact q1.2 j (by omega)) t1 t8 t12
  rw [e6, pz_bds] at E
  have b0 : ∀ j, j ≠ 1 → s6.1 0 j = σ.1 0 j := fun j hj => by rw [fr1 0 (by omega), f0 j hj]
  have b01 : s6.1 0 1 = 0 := by rw [fr1 0 (by omega), f01]
  have bk : ∀ k, k = 1 ∨ 12 ≤ k → s6.1 k = σ.1 k := fun k hk => by rw [fr1 k (by omega), fk k (by omega)]
  have bq : s6.2 = σ.2 := by rw [fr2, fq]
  have rel2 : ∀ υ, pg_Wq tp υ → ∃ τ', qX9_host (nI n) υ = pg_htail (nI n) τ' ∧ τ'.1 327 6 = 0 ∧ (∀ k, k ≠ 327 → k ≠ 332 → τ'.1 k = υ.1 k) ∧ τ'.2 = υ.2 ∧ pr_LQ n tp.2 0 a s6 τ' := by
    intro υ hq
    obtain ⟨t9, r1, r2, r3, r4, r5, r6, r7⟩ := pg_host0 (υ := υ) m2 ht hq
    obtain ⟨u, τ', e2, d, l⟩ := rel (nI n) t9 r2 r3 r4
    refine ⟨τ', by rw [r1, e2, pz_bds], by rw [d.2.1 6 (by omega)]; exact r5, fun k k1 k2 => by rw [d.1 k k1 k2, r6 k k1], by rw [d.2.2, r7], l⟩
  have hyD : ∀ i, i < 2 → ∀ y, im i = some y → y.1.2.1 ≤ 4 := fun i hi y hy => (hW.2.2.2.1 i hi y hy).1.1.1.2
  obtain ⟨τ0, _, _, _, _, l0⟩ := rel2 σ hg.2.2.2.2.1
  rcases l0 with ⟨rfl, st, ln, D, F, W, cs, -, g, t, hk⟩ | ⟨rfl, -⟩
  · rw [if_neg (by decide)] at E
    obtain ⟨hI0, w0⟩ := pr_told g t hk
    obtain ⟨v, s14, e14, -, -, -, -, -, y1, y2, y3⟩ := (pc_told hI0 w0).o
    have r14 : pw_r σ s14 := fun k hk => ⟨by rw [y1 k (by omega) (by omega), bk k (by omega)], by rw [y3, bq], by rw [y2 k (by omega), bq]⟩
    clear g t hk hI0 w0 y1 y2 y3
    refine ⟨(v, s14), E.trans e14, ?_⟩
    show ps_ok (qX9_host (nI n) s14) (fun v' υ => v = v' ∧ pw_W T υ)
    have hg14 := r14.W hg
    obtain ⟨τ', e, g6, gk, gq, l⟩ := rel2 s14 hg14.2.2.2.2.1
    rcases l with ⟨-, st, ln, D, F, W, cs, -, g, t, hk⟩ | ⟨h, -⟩
    · obtain ⟨hI, w2⟩ := pr_told g t hk
      obtain ⟨v', s14', ex', hv, ⟨sp, wt, hsp, hwt, hS⟩, hH, hO, ⟨h11, h0⟩, hk1, hk2, hk3⟩ := (pc_told hI w2).o
      rw [e14] at ex'
      injection ex' with ex'
      injection ex' with ex1 ex2
      subst ex1 ex2
      replace hv : v = pg_fh τ' 0 := hv
      rw [e]
      refine pz_im (pg_tail1 g.1.2.2.1) (fun v' υ h => ?_)
      obtain ⟨rfl, ⟨u14, u15⟩, uj, uk, u1, u2, u3, u4, u5, u6⟩ := h
      have D4 := t.1.1.2.2
      have W6 := t.1.2.2.2.2
      obtain ⟨-, ⟨t1, -, -, t4, -⟩, -, tz, -, -⟩ := t
      have sD : ∀ d, d < D → ∃ s, s ≤ 999 ∧ sp d = nI s ∧ τ'.1 332 (60 + d) = nI s := fun d hd => by
        obtain ⟨s, s1, s2, s3⟩ := t1 d hd
        exact ⟨s, s1, by rw [hsp d (by omega)]; exact s2, s3⟩
      have sW : ∀ d, d < W → ∃ s, s ≤ 99 ∧ wt d = nI s ∧ τ'.1 332 (88 + d) = nI s := fun d hd => by
        obtain ⟨s, s1, s2, s3⟩ := t4 d hd
        exact ⟨s, s1, by rw [hwt d (by omega)]; exact s2, s3⟩
      have pc : pw_c s14 υ := fun k hk => ⟨by rw [uk k (by omega) (by omega), gk k (by omega) (by omega)], by rw [u3, gq], by rw [u4 k (by omega), gq]⟩
      refine ⟨hv.trans (pg_fh_at (τ := τ') (k := 0) (Or.inl (by decide))), (pg_fh τ', D, F, W), sp_x0 D W sp wt, 0, P, im, tr, (0, tp.2), (0, -1), ⟨hI, ⟨0, Nat.zero_le _, sp_x0_IV hI (fun d hd => ?_) (fun d hd => ?_)⟩, ⟨by decide, fun i hi => absurd hi (Nat.not_lt_zero _)⟩, hW.2.2.2.1, hW.2.2.2.2.1, Nat.zero_le _, fun j hj => absurd hj (Nat.not_lt_zero _)⟩, pc.W ?_, ?_⟩
      · obtain ⟨s, s1, s2, _⟩ := sD d hd
        exact ⟨s, s1, s2⟩
      · obtain ⟨s, s1, s2, _⟩ := sW d hd
        exact ⟨s, s1, s2⟩
      · obtain ⟨-, ⟨f, f1, f2, -, -⟩, w4, w5, -, -⟩ := hc
        refine ⟨⟨hS, hH, hO⟩, ⟨f, f1, ?_, h11, fun j hj => absurd hj (Nat.not_lt_zero _)⟩, w4.congr (fun k hk => ⟨?_, ?_⟩), w5.congr (fun k hk => ⟨?_, ?_⟩), ⟨?_, fun j hj => absurd hj (Nat.not_lt_zero _)⟩, ?_, ?_⟩
        · exact (h0 10 (by decide)).trans ((b0 10 (by decide)).trans f2)
        · exact (hk1 k (by omega) (by omega)).trans (bk k (by omega))
        · exact (hk2 k (by omega)).trans (by rw [bq])
        · exact (hk1 k (by omega) (by omega)).trans (bk k (by omega))
        · rw [hk3, bq]
        · exact (h0 1 (by decide)).trans b01
        · exact (congrFun (hk1 11 (by decide) (by omega)) 0).trans g.1.2.2.2.1
        · exact (congrFun (hk1 11 (by decide) (by omega)) 1).trans g.1.2.2.2.2
      · obtain ⟨-, w3, w4, w5, w6, w7⟩ := hg14
        refine ⟨⟨?_, ?_, ?_⟩, ⟨?_, fun j hj => absurd hj (Nat.not_lt_zero _)⟩, w4.congr hyD ?_ (fun k hk => ?_) (fun k hk => ?_), w5.congr ?_ ?_ ?_, ⟨?_, fun j hj => absurd hj (Nat.not_lt_zero _)⟩, u14, u15⟩
        · funext k
          show (if k < 35 ∨ (949 ≤ k ∧ k < 1850) then υ.1 328 k else 0) = if k < 35 ∨ (949 ≤ k ∧ k < 1850) then τ'.1 332 k else 0
          by_cases q : k < 35 ∨ (949 ≤ k ∧ k < 1850)
          · rw [if_pos q, if_pos q, u1 k (by omega)]
          · rw [if_neg q, if_neg q]
        · rw [sp_x0_1]
          unfold pg_nr
          refine pa_can_congr (fun k hk => ?_)
          obtain ⟨k1, k2, k3⟩ := hk
          have k2' : k < 25 + D ∨ 29 ≤ k := k2
          have k3' : k < 53 + W ∨ 59 ≤ k := k3
          unfold sp_f0
          rw [u1 _ (by omega)]
          by_cases c1 : 25 ≤ k ∧ k < 29
          · obtain ⟨s, s1, s2, s3⟩ := sD (k - 25) (by omega)
            rw [if_pos c1, s2, show 35 + k = 60 + (k - 25) by omega]
            exact s3
          · rw [if_neg c1]
            by_cases c2 : 53 ≤ k ∧ k < 59
            · obtain ⟨s, s1, s2, s3⟩ := sW (k - 53) (by omega)
              rw [if_pos c2, s2, show 35 + k = 88 + (k - 53) by omega]
              exact s3
            · rw [if_neg c2]
              exact tz (35 + k) (by omega) (by omega) (by omega) (by omega)
        · funext k
          show (if k < D then υ.2.2 329 (0 + k) else 0) = if k < D then FP.i2d (sp k) else 0
          by_cases q : k < D
          · obtain ⟨s, s1, s2, s3⟩ := sD k q
            rw [if_pos q, if_pos q, Nat.zero_add, u5 k (by omega), s2, s3]
          · rw [if_neg q, if_neg q]
        · rw [u1 118 (by decide)]
          exact tz 118 (by decide) (by decide) (by decide) (by decide)
        · rw [uk 330 (by decide) (by decide), gk 330 (by decide) (by decide)]
        · rw [u2 k hk, gk 328 (by decide) (by decide)]
        · rw [u6 k (by omega), gq]
        · rw [uk 342 (by decide) (by decide), gk 342 (by decide) (by decide)]
        · rw [uk 343 (by decide) (by decide), gk 343 (by decide) (by decide)]
        · rw [u3, gq]
        · rw [uj 6 (by decide) (by decide)]; exact g6
    · exact absurd h (by decide)
  · rw [if_pos rfl, pz_lt] at E
    have hW2 : pa_W T H x n0 P im tr (0, tp.2) := ⟨hW.1, hW.2.1, hW.2.2.1, hW.2.2.2.1, hW.2.2.2.2.1, Nat.zero_le _, fun j hj => absurd hj (Nat.not_lt_zero _)⟩
    refine pw_change (a := (-30) - s6.1 11 0) (fl' := (s6.1 11 0, s6.1 11 1)) hW2 hg ?_ (fun τ hg => ?_)
    · rw [E]
      obtain ⟨⟨w1, w2, w3⟩, w4, w5, w6, w7, w8⟩ := hc
      refine pz_done ⟨rfl, ⟨⟨pc_S.congr w1 (fun o ho => bk _ (by omega)) (by rw [bq]), w2.congr (fun o ho => bk _ (by omega)), w3.congr (bk 23 (by omega)) (bk 24 (by omega))⟩, w4.congr (fun k hk => ⟨bk k (by omega), by rw [bq]⟩) (fun j hj => b0 j (by omega)), w5.congr (fun k hk => ⟨bk k (by omega), by rw [bq]⟩), w6.congr (fun k hk => ⟨bk k (by omega), by rw [bq]⟩), ⟨b01, fun j hj => absurd hj (Nat.not_lt_zero _)⟩, rfl, rfl⟩, fun k hk => ⟨bk k (by omega), by rw [bq], by rw [bq]⟩⟩
    · obtain ⟨τ', e, g6, gk, gq, l⟩ := rel2 τ hg.2.2.2.2.1
      rcases l with ⟨h, -⟩ | ⟨-, hF⟩
      · exact absurd h (by decide)
      · rw [e]
        refine pz_im (pg_tail0 hF.nz) (fun v υ h => ?_)
        obtain ⟨rfl, u14, u15, uj, uk, uq⟩ := h
        obtain ⟨⟨f, -, -, x1, x2⟩, x3⟩ := hF
        have x4 : τ'.1 327 12 = s6.1 11 0 := by rw [x1, x2]
        obtain ⟨w1, w3, w4, w5, w6, w7⟩ := hg
        have kk : ∀ k, k ≠ 327 → k ≠ 332 → υ.1 k = τ.1 k := fun k k1 k2 => by rw [uk k k1, gk k k1 k2]
        have qq : υ.2 = τ.2 := by rw [uq, gq]
        refine ⟨by rw [x4], ⟨pg_Wx (kk 328 (by decide) (by decide)) (by rw [qq]) w1, w3.congr hD hn0 (fun k _ => by rw [kk 328 (by decide) (by decide)]) (fun k _ => by rw [qq]), w4.congr hyD (kk 330 (by decide) (by decide)) (fun k _ => by rw [kk 328 (by decide) (by decide)]) (fun k _ => by rw [qq]), w5.congr (kk 342 (by decide) (by decide)) (kk 343 (by decide) (by decide)) (by rw [qq]), ⟨?_, fun j hj => absurd hj (Nat.not_lt_zero _)⟩, ?_, ?_⟩, fun k hk => ⟨kk k (by omega) (by omega), by rw [qq], by rw [qq]⟩⟩
        · rw [uj 6 (by decide) (by decide)]; exact g6
        · exact u14.trans x4
        · exact u15.trans x3.symm
end HOST
