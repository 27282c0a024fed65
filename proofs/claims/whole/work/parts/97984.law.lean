/-! a law read -/
section LAWR
variable {n : Nat} {b : Nat → Nat} {st D F W ln : Nat} {cs l : List Nat} {σ τ σ' τ' : ps_S} {wr : Bool}
theorem pr_B.t11 (g : pr_B n b st cs σ τ) (v : Int32) : pr_B n b st cs (ps_rI σ 11 (upd (σ.1 11) 11 v)) τ := by
  obtain ⟨⟨⟨⟨t1, t2, t3⟩, k6, k7, k5, k8, kn⟩, r2, r3, r4, r5⟩, c1, h10⟩ := g
  have e : ∀ j, j ≠ 11 → (ps_rI σ 11 (upd (σ.1 11) 11 v)).1 11 j = σ.1 11 j := fun j hj => by rw [ps_rI_at, upd_ne _ _ hj]
  have e2 : ∀ j, j ≠ 11 → (ps_rI σ 11 (upd (σ.1 11) 11 v)).1 j = σ.1 j := fun j hj => ps_rI_ne _ _ hj
  refine ⟨⟨⟨⟨t1, ?_, ?_⟩, ?_, ?_, ?_, fun hh => ?_, kn⟩, r2, r3, ?_, ?_⟩, c1.congr ?_ ?_ rfl, ?_⟩
  · rw [e 4 (by decide)]; exact t2
  · rw [e2 1 (by decide)]; exact t3
  · rw [e 6 (by decide)]; exact k6
  · rw [e 7 (by decide)]; exact k7
  · rw [e 5 (by decide)]; exact k5
  · rw [e 8 (by decide)]; exact k8 hh
  · rw [e 0 (by decide)]; exact r4
  · rw [e 1 (by decide)]; exact r5
  · rw [e2 9 (by decide)]
  · rw [e2 10 (by decide)]
  · rw [e 10 (by decide)]; exact h10
theorem pr_B.E (g : pr_B n b st cs σ τ) (h11 : σ.1 11 11 = (if wr = true then 1 else 0)) : pr_E n b wr 0 st cs σ (ps_rI τ 327 (upd (τ.1 327) 16 (if wr = true then 0 else 1))) := by
  obtain ⟨⟨k0, ⟨⟨t1, t2, t3⟩, k7, k8, k10, k11, kn⟩, r3, r4⟩, c1, h10⟩ := g
  have e : ∀ j, j ≠ 16 → (ps_rI τ 327 (upd (τ.1 327) 16 (if wr = true then 0 else 1))).1 327 j = τ.1 327 j := fun j hj => by rw [ps_rI_at, upd_ne _ _ hj]
  have e2 : ∀ j, j ≠ 327 → (ps_rI τ 327 (upd (τ.1 327) 16 (if wr = true then 0 else 1))).1 j = τ.1 j := fun j hj => ps_rI_ne _ _ hj
  refine ⟨⟨k0, ⟨⟨t1, ?_, ?_⟩, ?_, ?_, ?_, fun hh => ?_, kn⟩, ?_, r4⟩, c1.congr rfl rfl ?_, h10, h11, ?_⟩
  · rw [e 9 (by decide)]; exact t2
  · rw [e2 331 (by decide)]; exact t3
  · rw [e 7 (by decide)]; exact k7
  · rw [e 8 (by decide)]; exact k8
  · rw [e 10 (by decide)]; exact k10
  · rw [e 11 (by decide)]; exact k11 hh
  · rw [e 12 (by decide)]; exact r3
  · rw [e2 332 (by decide)]
  · rw [ps_rI_at, upd_self]
theorem pr_C.h (h : pr_C cs σ τ) (h1 : σ'.1 9 1 = σ.1 9 1) (h2 : σ'.1 10 = σ.1 10) (h3 : ∀ j, 949 ≤ j → τ'.1 332 j = τ.1 332 j) : pr_C cs σ' τ' := by
  obtain ⟨c1, c2, c3⟩ := h
  refine ⟨by rw [h1]; exact c1, by rw [h3 949 (by decide)]; exact c2, fun j hj => ?_⟩
  rw [h2, h3 _ (by omega)]
  exact c3 j hj
theorem pr_T.e2 (h : pr_T D F W ln cs σ τ) (hc : ∀ k, 2 ≤ k → k < 9 → σ'.1 k = σ.1 k) (hg : ∀ j, j < 949 → j < 4 ∨ 10 ≤ j → τ'.1 332 j = τ.1 332 j) (hw : pr_LW cs σ' τ') : pr_T D F W ln cs σ' τ' := by
  obtain ⟨⟨a1, a2, a3⟩, ⟨b1, b2, b3, b4, b5⟩, c0, d0, e0, f0⟩ := h
  refine ⟨?_, ⟨?_, ?_, ?_, ?_, ?_⟩, ?_, ?_, hw, ?_⟩
  · unfold pr_H0
    rw [hc 2 (by decide) (by decide), hg 1 (by decide) (by decide), hg 2 (by decide) (by decide), hg 3 (by decide) (by decide)]
    exact ⟨a1, a2, a3⟩
  · intro d hd
    rw [hc 3 (by decide) (by decide), hg _ (by omega) (by omega)]
    exact b1 d hd
  · intro d hd
    rw [hc 5 (by decide) (by decide), hg _ (by omega) (by omega)]
    exact b2 d hd
  · intro d hd
    obtain ⟨f, q, x1, x2, x3, x4, x5, x6⟩ := b3 d hd
    rw [hc 6 (by decide) (by decide), hc 7 (by decide) (by decide), hg _ (by omega) (by omega)]
    exact ⟨f, q, x1, x2, x3, x4, x5, by rw [hg _ (by omega) (by omega)]; exact x6⟩
  · intro d hd
    rw [hc 8 (by decide) (by decide), hg _ (by omega) (by omega)]
    exact b4 d hd
  · intro d hd
    rw [hc 4 (by decide) (by decide), b5 d hd]
    exact (pa_on_congr a3.2.2 a2.2.2 (fun k _ hk => hg k (by omega) (by omega)) (fun w hw => by
      obtain ⟨f, q, x1, x2, x3, x4, _⟩ := b3 w hw
      exact ⟨f, x1, x4⟩)).symm
  · unfold pr_H2
    rw [hc 2 (by decide) (by decide), hg 10 (by decide) (by decide), hg 11 (by decide) (by decide), hg 12 (by decide) (by decide), hg 13 (by decide) (by decide), hg 14 (by decide) (by decide), hg 15 (by decide) (by decide), hg 16 (by decide) (by decide)]
    exact c0
  · intro k k1 k2 k3 k4
    rw [hg k k2 (by omega)]
    exact d0 k k1 k2 k3 k4
  · rw [hc 2 (by decide) (by decide), hg 0 (by decide) (by decide)]
    exact f0
theorem pr_LW.law {kk : Nat} (h : pr_LW (cs ++ l) σ τ) (hk : kk < 2) (hl : l ≠ []) (ty : pa_tyR (kk == 0) l [] = some [false]) (ca : σ'.1 9 (2 + 2 * kk) = nI cs.length) (cb : σ'.1 9 (3 + 2 * kk) = nI (cs.length + l.length)) (cc : ∀ j, j ≠ 2 + 2 * kk → j ≠ 3 + 2 * kk → σ'.1 9 j = σ.1 9 j) (g4 : τ'.1 332 (4 + kk) = 1) (g6 : τ'.1 332 (6 + kk) = nI cs.length) (g8 : τ'.1 332 (8 + kk) = nI l.length) (gg : ∀ j, j ≠ 4 + kk → j ≠ 6 + kk → j ≠ 8 + kk → τ'.1 332 j = τ.1 332 j) : pr_LW (cs ++ l) σ' τ' := by
  intro k' hk'
  by_cases e : k' = kk
  · subst e
    refine Or.inr ⟨g4, cs.length, l.length, g6, g8, ca, cb, List.length_pos_iff.mpr hl, by rw [List.length_append]; omega, ?_⟩
    rw [List.drop_left, List.take_length]
    exact ty
  · rw [cc _ (by omega) (by omega), cc _ (by omega) (by omega), gg _ (by omega) (by omega) (by omega), gg _ (by omega) (by omega) (by omega), gg _ (by omega) (by omega) (by omega)]
    exact h k' hk'
theorem pc_enact {v : Int32} {kk : Nat} (hk : kk = if wr = true then 0 else 1) : ps_ok (qX3_enact 2 (if wr = true then 1 else 0) v σ) (fun _ σ' => σ'.1 9 (2 + 2 * kk) = v ∧ σ'.1 9 (3 + 2 * kk) = σ.1 9 1 ∧ (∀ j, j ≠ 2 + 2 * kk → j ≠ 3 + 2 * kk → σ'.1 9 j = σ.1 9 j) ∧ (∀ k, k ≠ 9 → σ'.1 k = σ.1 k) ∧ σ'.2 = σ.2) := by
  unfold qX3_enact
  have e7 : (2 + 7 : Nat) = 9 := rfl
  rw [e7]
  cases wr with
  | true =>
    have hk' : kk = 0 := hk
    subst hk'
    refine pz_e (by decide) ?_
    rw [pz_lt]
    refine pz_l (w := σ.1 9 1) (by rw [ps_rI_at, upd_ne _ _ (by decide)]) ?_
    rw [pz_lt]
    refine pz_done ⟨?_, ?_, fun j j1 j2 => ?_, fun k hk => ?_, rfl⟩
    · rw [ps_rI_at, upd_ne _ _ (by decide), ps_rI_at, upd_self]
    · rw [ps_rI_at, upd_self]
    · rw [ps_rI_at, upd_ne _ _ j2, ps_rI_at, upd_ne _ _ j1]
    · rw [ps_rI_ne _ _ hk, ps_rI_ne _ _ hk]
  | false =>
    have hk' : kk = 1 := hk
    subst hk'
    refine pz_t rfl ?_
    rw [pz_lt]
    refine pz_l (w := σ.1 9 1) (by rw [ps_rI_at, upd_ne _ _ (by decide)]) ?_
    rw [pz_lt]
    refine pz_done ⟨?_, ?_, fun j j1 j2 => ?_, fun k hk => ?_, rfl⟩
    · rw [ps_rI_at, upd_ne _ _ (by decide), ps_rI_at, upd_self]
    · rw [ps_rI_at, upd_self]
    · rw [ps_rI_at, upd_ne _ _ j2, ps_rI_at, upd_ne _ _ j1]
    · rw [ps_rI_ne _ _ hk, ps_rI_ne _ _ hk]
theorem pl_law (g : pr_B n b st cs σ τ) (t : pr_T D F W ln cs σ τ) (hk : cs.length ≤ st) (hc : tk_cd n b st ≠ 26) : pr2 (qX5_readLaw (if wr = true then 1 else 0) σ) (qX9_readLaw (if wr = true then 0 else 1) τ) (fun a σ' _ τ' => pr_LP n b st ln σ τ a σ' τ') := by
  have lt := g.lt
  obtain ⟨kk, hkk⟩ : ∃ kk : Nat, kk = if wr = true then 0 else 1 := ⟨_, rfl⟩
  have hk2 : kk < 2 := by rw [hkk]; cases wr <;> decide
  have hq : (if wr = true then (0 : Int32) else 1) = nI kk := by rw [hkk]; cases wr <;> rfl
  have hty : (kk == 0) = wr := by rw [hkk]; cases wr <;> rfl
  have hb : ps_b01 (if wr = true then 1 else 0) = true := by cases wr <;> rfl
  unfold qX5_readLaw qX9_readLaw
  have e7 : (2 + 7 : Nat) = 9 := rfl
  rw [e7]
  refine pr2.ll g.2.1.1 ?_
  refine pr2.lt hb ?_
  rw [pz_lt]
  have ga := g.t11 (if wr = true then 1 else 0)
  have ca : pl_c σ (ps_rI σ 11 (upd (σ.1 11) 11 (if wr = true then 1 else 0))) := ⟨fun k hk => ps_rI_ne _ _ (by omega), by rw [ps_rI_at, upd_ne _ _ (by decide)], rfl⟩
  have ta : pr_T D F W ln cs (ps_rI σ 11 (upd (σ.1 11) 11 (if wr = true then 1 else 0))) τ := by
    have := t.e (l := []) (σ' := ps_rI σ 11 (upd (σ.1 11) 11 (if wr = true then 1 else 0))) (τ' := τ) (fun k k1 k2 => ps_rI_ne _ _ (by omega)) (fun j _ => by rw [ps_rI_ne _ _ (by decide)]) (fun _ _ => rfl)
    rw [List.append_nil] at this
    exact this
  have h11 : (ps_rI σ 11 (upd (σ.1 11) 11 (if wr = true then 1 else 0))).1 11 11 = (if wr = true then 1 else 0) := by rw [ps_rI_at, upd_self]
  generalize ps_rI σ 11 (upd (σ.1 11) 11 (if wr = true then 1 else 0)) = σa at ga ca ta h11 ⊢
  refine pr2.b (ga.adv hc) (fun _ σ1 _ τ1 h1 => ?_)
  obtain ⟨st1, s1, g1, c1, d1⟩ := h1
  refine pb_take g1 (c := 31) (by decide) (by decide) rfl (by omega) (fun e => pb_ts1 g1 (j := 1) (by decide) rfl e) (fun e => pb_ts0 g1 (j := 1) (by decide) rfl e) (fun st2 σ2 τ2 s2 g2 c2 d2 => ?_) (fun σ2 τ2 hF hm c2 d2 => ?_)
  · refine pr2.le (by decide) ?_
    refine pr2.rl g2.2.1.2.1 ?_
    rw [pz_lt]
    have t2 := (ta.pe c1 d1).pe c2 d2
    have E := g2.E (wr := wr) (by rw [c2.2.2.1 11 (by omega), c1.2.2.1 11 (by omega)]; exact h11)
    have db : pl_g τ2 (ps_rI τ2 327 (upd (τ2.1 327) 16 (if wr = true then 0 else 1))) := ⟨fun k k1 k2 => ps_rI_ne _ _ k1, fun j hj => by rw [ps_rI_at, upd_ne _ _ (by omega)], rfl⟩
    have tb : pr_T D F W ln cs σ2 (ps_rI τ2 327 (upd (τ2.1 327) 16 (if wr = true then 0 else 1))) := by
      have := t2.e (l := []) (σ' := σ2) (τ' := ps_rI τ2 327 (upd (τ2.1 327) 16 (if wr = true then 0 else 1))) (fun _ _ _ => rfl) (fun _ _ => rfl) (fun j hj => by rw [ps_rI_ne _ _ (by decide)])
      rw [List.append_nil] at this
      exact this
    generalize ps_rI τ2 327 (upd (τ2.1 327) 16 (if wr = true then 0 else 1)) = τb at E db tb ⊢
    refine pr2.b (pr_sum E (k := 0) (by omega)) (fun a σ3 _ τ3 h3 => ?_)
    obtain ⟨c3, d3, ⟨rfl, st3, l, g3, k3, s3, n3, ty⟩ | ⟨rfl, hF, hm⟩⟩ := h3
    · have t3 := tb.pel (l := l) c3 d3
      have lt3 := g3.lt
      have hlen : (cs ++ l).length = cs.length + l.length := List.length_append
      refine pr2.le (by decide) ?_
      obtain ⟨x, ex, y2, y3, yj, yk, yq⟩ := pc_enact (σ := σ3) (v := nI cs.length) (wr := wr) hkk
      refine pr2.l (a := x.1) (σ := x.2) ex ?_
      refine pr2.rl g3.1.2.2.1 ?_
      refine pr2.rt rfl ?_
      rw [hq, pz_a4, pz_a6, pz_a8, nI_clamp (n := 4 + kk) (by omega), nI_clamp (n := 6 + kk) (by omega), nI_clamp (n := 8 + kk) (by omega)]
      refine pr2.rt (pz_ini (by omega) (by decide)) ?_
      refine pr2.rl rfl ?_
      refine pr2.rt (pz_ini (by omega) (by decide)) ?_
      refine pr2.rl rfl ?_
      refine pr2.rl (w := nI (cs.length + l.length)) (by rw [ps_rI_at, upd_ne _ _ (by omega), ps_rI_at, upd_ne _ _ (by omega), ← hlen]; exact g3.2.1.2.1) ?_
      refine pr2.rt (pz_ini (by omega) (by decide)) ?_
      rw [pz_lt, nI_sub (by omega), Nat.add_sub_cancel_left]
      have r0 : ∀ (s : ps_S) (u v w : Int32) (j : Nat), (ps_rI (ps_rI (ps_rI s 332 (upd (s.1 332) (4 + kk) u)) 332 (upd ((ps_rI s 332 (upd (s.1 332) (4 + kk) u)).1 332) (6 + kk) v)) 332 (upd ((ps_rI (ps_rI s 332 (upd (s.1 332) (4 + kk) u)) 332 (upd ((ps_rI s 332 (upd (s.1 332) (4 + kk) u)).1 332) (6 + kk) v)).1 332) (8 + kk) w)).1 332 j = upd (upd (upd (s.1 332) (4 + kk) u) (6 + kk) v) (8 + kk) w j := fun s u v w j => by rw [ps_rI_at, ps_rI_at, ps_rI_at]
      have r1 : ∀ (s : ps_S) (u v w : Int32) (k : Nat), k ≠ 332 → (ps_rI (ps_rI (ps_rI s 332 (upd (s.1 332) (4 + kk) u)) 332 (upd ((ps_rI s 332 (upd (s.1 332) (4 + kk) u)).1 332) (6 + kk) v)) 332 (upd ((ps_rI (ps_rI s 332 (upd (s.1 332) (4 + kk) u)) 332 (upd ((ps_rI s 332 (upd (s.1 332) (4 + kk) u)).1 332) (6 + kk) v)).1 332) (8 + kk) w)).1 k = s.1 k := fun s u v w k hk => by rw [ps_rI_ne _ _ hk, ps_rI_ne _ _ hk, ps_rI_ne _ _ hk]
      refine pr2.d ⟨ca.tr (c1.l.tr (c2.l.tr (c3.l.tr ⟨fun k hk => yk k (by omega), by rw [yk 11 (by decide)], yq⟩))), d1.l.tr (d2.l.tr (db.tr (d3.l.tr ⟨fun k k1 k2 => ?_, fun j hj => ?_, rfl⟩))), Or.inl ⟨rfl, st3, D, F, W, cs ++ l, by omega, ⟨⟨g3.1.1.e (yk 11 (by decide)) (yk 1 (by decide)), g3.1.2.1.e ?_ ?_, ?_, ?_⟩, g3.2.1.h ?_ (yk 10 (by decide)) (fun j hj => ?_), ?_⟩, t3.e2 (fun k k1 k2 => yk k (by omega)) (fun j j1 j2 => ?_) (t3.2.2.2.2.1.law hk2 n3 ?_ y2 ?_ yj ?_ ?_ ?_ (fun j j1 j2 j3 => ?_)), by omega⟩⟩
      · exact r1 _ _ _ _ k k2
      · rw [r1 _ _ _ _ 327 (by decide)]
      · exact r1 _ _ _ _ 327 (by decide)
      · exact r1 _ _ _ _ 331 (by decide)
      · rw [r1 _ _ _ _ 327 (by decide)]; exact g3.1.2.2.1
      · rw [yk 11 (by decide)]; exact g3.1.2.2.2
      · exact yj 1 (by omega) (by omega)
      · rw [r0, upd_ne _ _ (by omega), upd_ne _ _ (by omega), upd_ne _ _ (by omega)]
      · rw [yk 11 (by decide)]; exact g3.2.2.1
      · rw [r0, upd_ne _ _ (by omega), upd_ne _ _ (by omega), upd_ne _ _ (by omega)]
      · rw [hty]; exact ty [] (by decide)
      · rw [y3, g3.2.1.1, hlen]
      · rw [r0, upd_ne _ _ (by omega), upd_ne _ _ (by omega), upd_self]
      · rw [r0, upd_ne _ _ (by omega), upd_self]
      · rw [r0, upd_self]
      · rw [r0, upd_ne _ _ j3, upd_ne _ _ j2, upd_ne _ _ j1]
    · refine pr2.lt rfl ?_
      refine pr2.rl rfl ?_
      refine pr2.re hF.nz ?_
      exact pr2.d ⟨ca.tr (c1.l.tr (c2.l.tr c3.l)), d1.l.tr (d2.l.tr (db.tr d3.l)), Or.inr ⟨rfl, hF⟩⟩
  · refine pr2.lt rfl ?_
    refine pr2.rl rfl ?_
    refine pr2.rl rfl ?_
    have hz : ¬ (ps_rI τ2 327 (upd (τ2.1 327) 16 (if wr = true then 0 else 1))).1 327 12 = 0 := by rw [ps_rI_at, upd_ne _ _ (by decide)]; exact hF.nz
    refine pr2.r (c := ()) (pg_n0 (N := 77) hz) ?_
    refine pr2.rl rfl ?_
    refine pr2.re hz ?_
    refine pr2.d ⟨ca.tr (c1.l.tr c2.l), d1.l.tr (d2.l.tr ⟨fun k k1 k2 => ps_rI_ne _ _ k1, fun j hj => by rw [ps_rI_at, upd_ne _ _ (by omega)], rfl⟩), Or.inr ⟨rfl, ?_⟩⟩
    unfold pr_F
    rw [ps_rI_at, upd_ne _ _ (by decide), upd_ne _ _ (by decide)]
    exact hF
end LAWR
