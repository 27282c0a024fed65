/-! a line read -/
def pl_K (v : Int32) (s : ps_S) : Option (Int32 × ps_S) :=
  ps_let (s.1 2 10) fun v18 =>
  ps_let (ps_rI s 2 (upd (s.1 2) 10 ((v18 + 1)))) fun s19 =>
  if v = 0 then
  some (0, s19)
  else
  ps_bd (qX5_takeSign 59 s19) (fun v21 s22 =>
  if v21 = 0 then
  some (0, s22)
  else
  some (1, s22))
section LINE2
variable {n : Nat} {b : Nat → Nat} {st D F W ln : Nat} {cs l : List Nat} {σ τ σ' τ' : ps_S} {wr : Bool}
theorem pg_closes0 (hz : ¬ τ.1 327 12 = 0) : qX9_closes τ = some ((), ps_rI τ 332 (upd (τ.1 332) 0 (τ.1 332 0 + 1))) := by
  unfold qX9_closes
  rw [pg_eats0 hz, pz_bds, if_pos rfl, pg_fails0 hz, pz_bds, pz_lt, pz_lt]
theorem pr_T.line {ln' : Nat} (h : pr_T D F W ln cs σ τ) (hc : ∀ k, 3 ≤ k → k < 9 → σ'.1 k = σ.1 k) (h2 : ∀ j, j ≠ 10 → σ'.1 2 j = σ.1 2 j) (h10 : σ'.1 2 10 = nI ln') (h9 : ∀ j, j ≠ 1 → σ'.1 9 j = σ.1 9 j) (hg : ∀ j, 1 ≤ j → j < 949 → τ'.1 332 j = τ.1 332 j) (h0 : τ'.1 332 0 = nI ln') : pr_T D F W ln' cs σ' τ' := by
  obtain ⟨⟨a1, a2, a3⟩, ⟨b1, b2, b3, b4, b5⟩, c0, d0, e0, f0⟩ := h
  refine ⟨?_, ⟨?_, ?_, ?_, ?_, ?_⟩, ?_, ?_, ?_, h10, h0⟩
  · unfold pr_H0
    rw [h2 7 (by decide), h2 8 (by decide), h2 9 (by decide), hg 1 (by decide) (by decide), hg 2 (by decide) (by decide), hg 3 (by decide) (by decide)]
    exact ⟨a1, a2, a3⟩
  · intro d hd
    rw [hc 3 (by decide) (by decide), hg _ (by omega) (by omega)]
    exact b1 d hd
  · intro d hd
    rw [hc 5 (by decide) (by decide), hg _ (by omega) (by omega)]
    exact b2 d hd
  · intro d hd
    obtain ⟨f, q, x1, x2, x3, x4, x5, x6⟩ := b3 d hd
    rw [hc 6 (by decide) (by decide), hc 7 (by decide) (by decide), hg _ (by omega) (by omega)]
    exact ⟨f, q, x1, x2, x3, x4, x5, by rw [hg _ (by omega) (by omega)]; exact x6⟩
  · intro d hd
    rw [hc 8 (by decide) (by decide), hg _ (by omega) (by omega)]
    exact b4 d hd
  · intro d hd
    rw [hc 4 (by decide) (by decide), b5 d hd]
    exact (pa_on_congr a3.2.2 a2.2.2 (fun k _ hk => hg k (by omega) (by omega)) (fun w hw => by
      obtain ⟨f, q, x1, x2, x3, x4, _⟩ := b3 w hw
      exact ⟨f, x1, x4⟩)).symm
  · unfold pr_H2
    rw [h2 0 (by decide), h2 1 (by decide), h2 2 (by decide), h2 3 (by decide), h2 4 (by decide), h2 5 (by decide), h2 6 (by decide), hg 10 (by decide) (by decide), hg 11 (by decide) (by decide), hg 12 (by decide) (by decide), hg 13 (by decide) (by decide), hg 14 (by decide) (by decide), hg 15 (by decide) (by decide), hg 16 (by decide) (by decide)]
    exact c0
  · intro k k1 k2 k3 k4
    rw [hg k (by omega) k2]
    exact d0 k k1 k2 k3 k4
  · have := e0.e (l := []) (σ' := σ') (τ' := τ') h9 (fun j j1 j2 => hg j (by omega) (by omega))
    rw [List.append_nil] at this
    exact this
theorem pl_tail {oc : Option (Int32 × ps_S)} {og : Option (Unit × ps_S)} (h : pr2 oc og (fun a σ' _ τ' => pr_LP n b st ln σ τ a σ' τ')) : pr2 (ps_bd oc pl_K) (ps_bd (ps_bd og (fun _ s => some ((), s))) (fun _ s => qX9_closes s)) (fun a σ' _ τ' => pr_LP n b st (ln + 1) σ τ a σ' τ') := by
  rw [ps_bd_as]
  refine pr2.b h (fun a σ1 _ τ1 h1 => ?_)
  obtain ⟨c1, d1, q⟩ := h1
  rw [pz_bds]
  unfold pl_K
  rcases q with ⟨rfl, st1, D, F, W, cs, s1, g1, t1, k1⟩ | ⟨rfl, hF⟩
  · have lt := g1.lt
    refine pr2.ll t1.2.2.2.2.2.1 ?_
    rw [nI_1, pz_lt]
    refine pr2.le (by decide) ?_
    have g2 : pr_B n b st1 cs (ps_rI σ1 2 (upd (σ1.1 2) 10 (nI (ln + 1)))) τ1 := g1.h (fun k hk => ps_rI_ne _ _ (by omega)) (fun _ _ => rfl) (fun _ _ => rfl)
    have c2 : pl_c σ1 (ps_rI σ1 2 (upd (σ1.1 2) 10 (nI (ln + 1)))) := ⟨fun k hk => ps_rI_ne _ _ (by omega), by rw [ps_rI_ne _ _ (by decide)], rfl⟩
    have p2 : (ps_rI σ1 2 (upd (σ1.1 2) 10 (nI (ln + 1)))).1 2 = upd (σ1.1 2) 10 (nI (ln + 1)) := ps_rI_at _ _ _
    have pk : ∀ k, k ≠ 2 → (ps_rI σ1 2 (upd (σ1.1 2) 10 (nI (ln + 1)))).1 k = σ1.1 k := fun k hk => ps_rI_ne _ _ hk
    generalize ps_rI σ1 2 (upd (σ1.1 2) 10 (nI (ln + 1))) = σ2 at g2 c2 p2 pk ⊢
    unfold qX9_closes
    refine pb_take g2 (c := 30) (by decide) (by decide) rfl (by omega) (fun e => pb_ts1 g2 (j := 0) (by decide) rfl e) (fun e => pb_ts0 g2 (j := 0) (by decide) rfl e) (fun st3 σ3 τ3 s3 g3 c3 d3 => ?_) (fun σ3 τ3 hF hm c3 d3 => ?_)
    · refine pr2.le (by decide) ?_
      refine pr2.rl (w := nI ln) (by rw [d3.2.2.1 0 (by decide)]; exact t1.2.2.2.2.2.2) ?_
      rw [nI_1, pz_lt]
      refine pr2.d ⟨c1.tr (c2.tr c3.l), d1.tr (d3.l.tr ⟨fun k k1 k2 => ps_rI_ne _ _ k2, fun j hj => by rw [ps_rI_ne _ _ (by decide)], rfl⟩), Or.inl ⟨rfl, st3, D, F, W, cs, by omega, g3.h (fun _ _ => rfl) (fun k hk => ps_rI_ne _ _ (by omega)) (fun j hj => by rw [ps_rI_at, upd_ne _ _ (by omega)]), t1.line (fun k k1 k2 => ?_) (fun j hj => ?_) ?_ (fun j hj => ?_) (fun j j1 j2 => ?_) ?_, by omega⟩⟩
      · rw [c3.1 k (by omega) (by omega) (by omega), pk k (by omega)]
      · rw [c3.1 2 (by decide) (by decide) (by decide), p2, upd_ne _ _ hj]
      · rw [c3.1 2 (by decide) (by decide) (by decide), p2, upd_self]
      · rw [c3.2.1 j hj, pk 9 (by decide)]
      · rw [ps_rI_at, upd_ne _ _ (by omega), d3.2.2.1 j j2]
      · rw [ps_rI_at, upd_self]
    · refine pr2.lt rfl ?_
      refine pr2.rl rfl ?_
      rw [pz_lt]
      refine pr2.d ⟨c1.tr (c2.tr c3.l), d1.tr (d3.l.tr ⟨fun k k1 k2 => ps_rI_ne _ _ k2, fun j hj => by rw [ps_rI_ne _ _ (by decide)], rfl⟩), Or.inr ⟨rfl, ?_⟩⟩
      unfold pr_F
      rw [ps_rI_ne _ _ (by decide)]
      exact hF
  · refine pr2.ll rfl ?_
    rw [pz_lt]
    refine pr2.lt rfl ?_
    rw [pg_closes0 hF.nz]
    refine pr2.d ⟨c1.tr ⟨fun k hk => ps_rI_ne _ _ (by omega), by rw [ps_rI_ne _ _ (by decide)], rfl⟩, d1.tr ⟨fun k k1 k2 => ps_rI_ne _ _ k2, fun j hj => by rw [ps_rI_ne _ _ (by decide)], rfl⟩, Or.inr ⟨rfl, ?_⟩⟩
    unfold pr_F
    rw [ps_rI_ne _ _ (by decide), ps_rI_ne _ _ (by decide)]
    exact hF
theorem pl_line (g : pr_B n b st cs σ τ) (t : pr_T D F W ln cs σ τ) (hk : cs.length ≤ st) (hc : tk_cd n b st ≠ 26) : pr2 (qX5_readLine σ) (ps_bd (qX9_readLine τ) (fun _ s => qX9_closes s)) (fun a σ' _ τ' => pr_LP n b st (ln + 1) σ τ a σ' τ') := by
  have lt := g.lt
  have gz := g.1.2.2.1
  have w8 := pb_wd g (i := 9) (m := 8) (by decide) rfl
  have w10 := pb_wd g (i := 11) (m := 10) (by decide) rfl
  have w12 := pb_wd g (i := 13) (m := 12) (by decide) rfl
  have w14 := pb_wd g (i := 15) (m := 14) (by decide) rfl
  have w9 := pb_wd g (i := 10) (m := 9) (by decide) rfl
  have i8 := pb_is g (c := 8) (v := 8) (by decide) rfl
  have i10 := pb_is g (c := 10) (v := 10) (by decide) rfl
  have i12 := pb_is g (c := 12) (v := 12) (by decide) rfl
  have i14 := pb_is g (c := 14) (v := 14) (by decide) rfl
  have i9 := pb_is g (c := 9) (v := 9) (by decide) rfl
  by_cases k8 : tk_cd n b st = 8
  · rw [if_pos k8] at w8 i8
    have eR : qX9_readLine τ = ps_bd (qX9_readDevice τ) (fun _ s => some ((), s)) := by
      unfold qX9_readLine
      rw [pz_lt, gz, if_pos rfl, i8, pz_bds, if_neg (by decide)]
    have eC : qX5_readLine σ = ps_bd (qX5_readDevice σ) pl_K := by
      unfold qX5_readLine
      rw [w8, pz_bds, if_neg (by decide)]
      rfl
    rw [eR, eC]
    exact pl_tail (pl_dev g t hk hc)
  rw [if_neg k8] at w8 i8
  by_cases k10 : tk_cd n b st = 10
  · rw [if_pos k10] at w10 i10
    have eR : qX9_readLine τ = ps_bd (qX9_readFile τ) (fun _ s => some ((), s)) := by
      unfold qX9_readLine
      rw [pz_lt, gz, if_pos rfl, i8, pz_bds, if_pos rfl, i10, pz_bds, if_neg (by decide)]
    have eC : qX5_readLine σ = ps_bd (qX5_readFile σ) pl_K := by
      unfold qX5_readLine
      rw [w8, pz_bds, if_pos rfl, w10, pz_bds, if_neg (by decide)]
      rfl
    rw [eR, eC]
    exact pl_tail (pl_file g t hk hc)
  rw [if_neg k10] at w10 i10
  by_cases k12 : tk_cd n b st = 12
  · rw [if_pos k12] at w12 i12
    have eR : qX9_readLine τ = ps_bd (qX9_readWriter τ) (fun _ s => some ((), s)) := by
      unfold qX9_readLine
      rw [pz_lt, gz, if_pos rfl, i8, pz_bds, if_pos rfl, i10, pz_bds, if_pos rfl, i12, pz_bds, if_neg (by decide)]
    have eC : qX5_readLine σ = ps_bd (qX5_readWriter σ) pl_K := by
      unfold qX5_readLine
      rw [w8, pz_bds, if_pos rfl, w10, pz_bds, if_pos rfl, w12, pz_bds, if_neg (by decide)]
      rfl
    rw [eR, eC]
    exact pl_tail (pl_wri g t hk hc)
  rw [if_neg k12] at w12 i12
  by_cases k14 : tk_cd n b st = 14
  · rw [if_pos k14] at w14 i14
    have eR : qX9_readLine τ = ps_bd (qX9_readLaw 0 τ) (fun _ s => some ((), s)) := by
      unfold qX9_readLine
      rw [pz_lt, gz, if_pos rfl, i8, pz_bds, if_pos rfl, i10, pz_bds, if_pos rfl, i12, pz_bds, if_pos rfl, i14, pz_bds, if_neg (by decide)]
    have eC : qX5_readLine σ = ps_bd (qX5_readLaw 1 σ) pl_K := by
      unfold qX5_readLine
      rw [w8, pz_bds, if_pos rfl, w10, pz_bds, if_pos rfl, w12, pz_bds, if_pos rfl, w14, pz_bds, if_neg (by decide)]
      rfl
    rw [eR, eC]
    exact pl_tail (pl_law (wr := true) g t hk hc)
  rw [if_neg k14] at w14 i14
  by_cases k9 : tk_cd n b st = 9
  · rw [if_pos k9] at w9 i9
    have eR : qX9_readLine τ = ps_bd (qX9_readLaw 1 τ) (fun _ s => some ((), s)) := by
      unfold qX9_readLine
      rw [pz_lt, gz, if_pos rfl, i8, pz_bds, if_pos rfl, i10, pz_bds, if_pos rfl, i12, pz_bds, if_pos rfl, i14, pz_bds, if_pos rfl, i9, pz_bds, if_neg (by decide)]
    have eC : qX5_readLine σ = ps_bd (qX5_readLaw 0 σ) pl_K := by
      unfold qX5_readLine
      rw [w8, pz_bds, if_pos rfl, w10, pz_bds, if_pos rfl, w12, pz_bds, if_pos rfl, w14, pz_bds, if_pos rfl, w9, pz_bds, if_neg (by decide)]
      rfl
    rw [eR, eC]
    exact pl_tail (pl_law (wr := false) g t hk hc)
  rw [if_neg k9] at w9 i9
  have eR : qX9_readLine τ = ps_bd (qX9_fails 2 τ) (fun _ s => some ((), s)) := by
    unfold qX9_readLine
    rw [pz_lt, gz, if_pos rfl, i8, pz_bds, if_pos rfl, i10, pz_bds, if_pos rfl, i12, pz_bds, if_pos rfl, i14, pz_bds, if_pos rfl, i9, pz_bds, if_pos rfl]
  have eC : qX5_readLine σ = ps_bd (qX5_refuse 2 σ) pl_K := by
    unfold qX5_readLine
    rw [w8, pz_bds, if_pos rfl, w10, pz_bds, if_pos rfl, w12, pz_bds, if_pos rfl, w14, pz_bds, if_pos rfl, w9, pz_bds, if_pos rfl]
    rfl
  rw [eR, eC]
  have := g.no (w := 2) (by decide) (show cs.length ≤ 900 by omega)
  exact pl_tail (this.im (fun a σ1 _ τ1 h1 => ⟨h1.2.2.2.1.l, h1.2.2.2.2.l, Or.inr ⟨h1.1, h1.2.1⟩⟩))
end LINE2
