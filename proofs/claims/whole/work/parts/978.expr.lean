/-! expressions: what is read of a law by both -/
def pr_E (n : Nat) (b : Nat → Nat) (wr : Bool) (p st : Nat) (cs : List Nat) (σ τ : ps_S) : Prop := pr_R n b st σ τ ∧ pr_C cs σ τ ∧ σ.1 11 10 = nI p ∧ σ.1 11 11 = (if wr = true then 1 else 0) ∧ τ.1 327 16 = (if wr = true then 0 else 1)
def tk_ty (wr : Bool) (l : List Nat) (ty : Bool) (h : Nat) : Prop := ∀ T : List Bool, T.length + h ≤ 99 → pa_tyR wr l T = some (ty :: T)
def pr_P (n : Nat) (b : Nat → Nat) (wr : Bool) (p st : Nat) (cs : List Nat) (k : Nat) (σ0 τ0 : ps_S) (ty : Bool) (h : Nat) (a : Int32) (σ τ : ps_S) : Prop :=
  pe_c σ0 σ ∧ pe_g τ0 τ ∧ ((a = 1 ∧ ∃ st' l, pr_E n b wr p st' (cs ++ l) σ τ ∧ (cs ++ l).length + k ≤ st' ∧ st ≤ st' ∧ l ≠ [] ∧ tk_ty wr l ty h) ∨ (a = 0 ∧ pr_F σ τ ∧ ∃ m, m ≤ 900 ∧ σ.1 9 1 = nI m))
theorem pa_tyR_app {wr : Bool} : ∀ (l1 l2 : List Nat) (T : List Bool), pa_tyR wr (l1 ++ l2) T = match pa_tyR wr l1 T with | none => none | some T' => pa_tyR wr l2 T'
  | [], l2, T => rfl
  | c :: l1, l2, T => by
    show pa_tyR wr (c :: (l1 ++ l2)) T = _
    rw [pa_tyR, pa_tyR]
    cases pa_tyS wr c T with
    | none => rfl
    | some T' =>
      simp only
      by_cases q : T'.length ≤ 99
      · rw [if_pos q, if_pos q]
        exact pa_tyR_app l1 l2 T'
      · rw [if_neg q, if_neg q]
theorem pa_tyR_1 {wr : Bool} {c : Nat} {T T' : List Bool} (h : pa_tyS wr c T = some T') (hl : T'.length ≤ 99) : pa_tyR wr [c] T = some T' := by
  rw [pa_tyR, h]
  simp only
  rw [if_pos hl]
  rfl
section TY
variable {wr t1 t2 t3 : Bool} {l1 l2 l3 : List Nat} {c h1 h2 h3 h : Nat}
theorem tk_ty.mono (g : tk_ty wr l1 t1 h1) (hh : h1 ≤ h) : tk_ty wr l1 t1 h := fun T hT => g T (by omega)
theorem tk_ty_1 (g : ∀ T, pa_tyS wr c T = some (t1 :: T)) : tk_ty wr [c] t1 1 := fun T hT => pa_tyR_1 (g T) (by rw [List.length_cons]; omega)
theorem tk_ty_2 (g1 : tk_ty wr l1 t1 h1) (g2 : tk_ty wr l2 t2 h2) (g : ∀ T, pa_tyS wr c (t2 :: t1 :: T) = some (t3 :: T)) (a1 : h1 ≤ h) (a2 : h2 + 1 ≤ h) : tk_ty wr (l1 ++ l2 ++ [c]) t3 h := fun T hT => by
  rw [pa_tyR_app, pa_tyR_app, g1 T (by omega)]
  simp only
  rw [g2 (t1 :: T) (by rw [List.length_cons]; omega)]
  exact pa_tyR_1 (g T) (by rw [List.length_cons]; omega)
theorem tk_ty_n (g1 : tk_ty wr l1 true h1) (a1 : h1 ≤ h) (a2 : 1 ≤ h) : tk_ty wr (l1 ++ [3006]) true h := fun T hT => by
  rw [pa_tyR_app, g1 T (by omega)]
  exact pa_tyR_1 (T' := true :: T) rfl (by rw [List.length_cons]; omega)
theorem tk_ty_3 (g1 : tk_ty wr l1 true h1) (g2 : tk_ty wr l2 false h2) (g3 : tk_ty wr l3 false h3) (a1 : h1 ≤ h) (a2 : h2 + 1 ≤ h) (a3 : h3 + 2 ≤ h) : tk_ty wr (l1 ++ l2 ++ l3 ++ [3009]) false h := fun T hT => by
  rw [pa_tyR_app, pa_tyR_app, pa_tyR_app, g1 T (by omega)]
  simp only
  rw [g2 (true :: T) (by rw [List.length_cons]; omega)]
  simp only
  rw [g3 (false :: true :: T) (by rw [List.length_cons, List.length_cons]; omega)]
  exact pa_tyR_1 (T' := false :: T) rfl (by rw [List.length_cons]; omega)
end TY
section EXP
variable {n : Nat} {b : Nat → Nat} {wr ty : Bool} {p st k h : Nat} {cs l : List Nat} {σ τ σ' τ' σ0 τ0 : ps_S}
theorem pc_K.e (g : pc_K n b st σ) (h1 : σ'.1 11 = σ.1 11) (h2 : σ'.1 1 = σ.1 1) : pc_K n b st σ' := by
  unfold pc_K pc_tx at g ⊢
  rw [h1, h2]
  exact g
theorem pg_K.e (g : pg_K n b st τ) (h1 : τ'.1 327 = τ.1 327) (h2 : τ'.1 331 = τ.1 331) : pg_K n b st τ' := by
  unfold pg_K pg_tx at g ⊢
  rw [h1, h2]
  exact g
theorem pr_E.lt (g : pr_E n b wr p st cs σ τ) : st ≤ n ∧ n ≤ 900 := ⟨g.1.1.2.2.2.2.2, g.1.1.1.1.1⟩
/-- both step on -/
theorem pr_E.adv (g : pr_E n b wr p st cs σ τ) (hc : tk_cd n b st ≠ 26) : pr2 (qX5_advance σ) (qX9_steps τ) (fun _ σ' _ τ' => ∃ st', st + 1 ≤ st' ∧ pr_E n b wr p st' cs σ' τ' ∧ pe_c σ σ' ∧ pe_g τ τ') := by
  obtain ⟨r, c, h10, h11, h16⟩ := g
  refine (pr_adv r).im (fun _ σ' _ τ' hh => ⟨_, tk_adv_gt (tk_cd_n hc), ⟨hh.1, c.congr ?_ ?_ ?_, ?_, ?_, ?_⟩, hh.2.1.e, hh.2.2.e⟩)
  · rw [hh.2.1.1 9 (by decide)]
  · rw [hh.2.1.1 10 (by decide)]
  · rw [hh.2.2.1 332 (by decide)]
  · rw [hh.2.1.2.1 10 (by omega)]; exact h10
  · rw [hh.2.1.2.1 11 (by omega)]; exact h11
  · rw [hh.2.2.2.1 16 (by decide) (by decide) (by decide) (by decide)]; exact h16
theorem pr_E.app {c : Nat} (g : pr_E n b wr p st cs σ τ) (hl : cs.length < 900) : pr2 (qX3_append 2 (nI (pa_mp c)) σ) (qX9_codes (nI c) τ) (fun _ σ' _ τ' => pr_E n b wr p st (cs ++ [c]) σ' τ' ∧ pe_c σ σ' ∧ pe_g τ τ') := by
  obtain ⟨⟨r1, r2, r3, r4⟩, c1, h10, h11, h16⟩ := g
  refine (pr_app c1 hl r3).im (fun _ σ' _ τ' hh => ?_)
  obtain ⟨a1, a2, a3, a4, a5⟩ := hh
  refine ⟨⟨⟨r1.e a4 (a2.1 1 (by decide) (by decide) (by decide)), r2.e a5 (a3.1 331 (by decide) (by decide)), by rw [a5]; exact r3, by rw [a4]; exact r4⟩, a1, by rw [a4]; exact h10, by rw [a4]; exact h11, by rw [a5]; exact h16⟩, a2, a3⟩
theorem pr_E.no {w : Nat} (g : pr_E n b wr p st cs σ τ) (hw : 1 ≤ w ∧ w ≤ 4) (hl : cs.length ≤ 900) : pr2 (qX5_refuse (nI w) σ) (qX9_fails (nI w) τ) (fun a σ' _ τ' => a = 0 ∧ pr_F σ' τ' ∧ (∃ m, m ≤ 900 ∧ σ'.1 9 1 = nI m) ∧ pe_c σ σ' ∧ pe_g τ τ') :=
  (pr_refuse hw g.1).im (fun a σ' _ τ' hh => ⟨hh.1, hh.2.1, ⟨cs.length, hl, by rw [hh.2.2.1.1 9 (by decide)]; exact g.2.1.1⟩, hh.2.2.1.e, hh.2.2.2.e⟩)
theorem pr_P.fl {a : Int32} (h1 : a = 0) (h2 : pr_F σ τ) (h3 : ∃ m, m ≤ 900 ∧ σ.1 9 1 = nI m) (h4 : pe_c σ0 σ) (h5 : pe_g τ0 τ) : pr_P n b wr p st cs k σ0 τ0 ty h a σ τ := ⟨h4, h5, Or.inr ⟨h1, h2, h3⟩⟩
/-- operands and what stands between them -/
theorem pr_loop {LC : Nat → Int32 → Int32 → ps_S → Option ((Int32 × Int32) × ps_S)} {LG : Nat → ps_S → Option (Unit × ps_S)} {rc : ps_S → Option (Int32 × ps_S)} {rg : ps_S → Option (Unit × ps_S)}
    (hrec : ∀ (st k : Nat) (cs : List Nat) (σ τ : ps_S), pr_E n b wr p st cs σ τ → cs.length + k ≤ st → pr2 (rc σ) (rg τ) (fun a σ' _ τ' => pr_P n b wr p st cs k σ τ ty h a σ' τ'))
    (hstop : ∀ (f : Nat) (x1 x2 : Int32) (σ : ps_S), (900 ≤ x2 ∨ x1 = 0) → LC (f + 1) x1 x2 σ = some ((x1, x2), σ))
    (hg0 : ∀ (f : Nat) (τ : ps_S), ¬ τ.1 327 12 = 0 → LG (f + 1) τ = some ((), τ))
    (hend : ∀ (st : Nat) (cs : List Nat) (σ τ : ps_S) (f : Nat), pr_E n b wr p st cs σ τ → tk_cd n b st = 26 → LG (f + 1) τ = some ((), τ))
    (hstep : ∀ (st : Nat) (cs : List Nat) (σ τ : ps_S) (f f' : Nat) (x2 : Int32), pr_E n b wr p st cs σ τ → ¬ 900 ≤ x2 → (LC (f + 1) 1 x2 σ = some ((1, x2), σ) ∧ LG (f' + 1) τ = some ((), τ)) ∨ (tk_cd n b st ≠ 26 ∧ ∃ c, (∀ T, pa_tyS wr c (ty :: ty :: T) = some (ty :: T)) ∧ LC (f + 1) 1 x2 σ = ps_bd (qX5_advance σ) (fun _ σ2 => ps_bd (rc σ2) (fun v σ3 => ps_bd (qX3_append 2 (nI (pa_mp c)) σ3) (fun _ σ4 => LC f v (x2 + 1) σ4))) ∧ LG (f' + 1) τ = ps_bd (qX9_steps τ) (fun _ τ2 => ps_bd (rg τ2) (fun _ τ3 => ps_bd (qX9_codes (nI c) τ3) (fun _ τ4 => LG f' τ4))))) :
    ∀ (m i st1 f f' : Nat) (l : List Nat) (σ τ : ps_S), i + m = 900 → m < f → m < f' → i ≤ st1 → st ≤ st1 → pe_c σ0 σ → pe_g τ0 τ → pr_E n b wr p st1 (cs ++ l) σ τ → (cs ++ l).length + k ≤ st1 → l ≠ [] → tk_ty wr l ty (h + 1) → pr2 (LC f 1 (nI i) σ) (LG f' τ) (fun a σ' _ τ' => pr_P n b wr p st cs k σ0 τ0 ty (h + 1) a.1 σ' τ') := by
  intro m
  induction m with
  | zero =>
    intro i st1 f f' l σ τ e1 e2 e3 e4 e5 fc fg g hk hl ht
    obtain ⟨f, rfl⟩ : ∃ f0, f = f0 + 1 := ⟨f - 1, by omega⟩
    obtain ⟨f', rfl⟩ : ∃ f0, f' = f0 + 1 := ⟨f' - 1, by omega⟩
    have hlt := g.lt
    rw [hstop f 1 (nI i) σ (Or.inl (nI_le (a := 900) (by omega) (by omega))), hend st1 (cs ++ l) σ τ f' g (by unfold tk_cd; rw [if_pos (by omega)])]
    exact pr2.d ⟨fc, fg, Or.inl ⟨rfl, st1, l, g, hk, e5, hl, ht⟩⟩
  | succ m ih =>
    intro i st1 f f' l σ τ e1 e2 e3 e4 e5 fc fg g hk hl ht
    obtain ⟨f, rfl⟩ : ∃ f0, f = f0 + 1 := ⟨f - 1, by omega⟩
    obtain ⟨f', rfl⟩ : ∃ f0, f' = f0 + 1 := ⟨f' - 1, by omega⟩
    have h9 : ¬ (900 : Int32) ≤ nI i := nI_ge (b := 900) (by omega) (by decide)
    rcases hstep st1 (cs ++ l) σ τ f f' (nI i) g h9 with ⟨q1, q2⟩ | ⟨hc, c, hty, q1, q2⟩
    · rw [q1, q2]
      exact pr2.d ⟨fc, fg, Or.inl ⟨rfl, st1, l, g, hk, e5, hl, ht⟩⟩
    · rw [q1, q2]
      refine (g.adv hc).b (fun _ σ1 _ τ1 h1 => ?_)
      obtain ⟨st2, s2, g1, c1, d1⟩ := h1
      refine (hrec st2 (k + 1) (cs ++ l) σ1 τ1 g1 (by omega)).b (fun v σ2 _ τ2 h2 => ?_)
      obtain ⟨c2, d2, h2 | h2⟩ := h2
      · obtain ⟨rfl, st3, l2, g2, hk2, hs2, hl2, ht2⟩ := h2
        have hlt := g2.lt
        refine (g2.app (c := c) (by omega)).b (fun _ σ3 _ τ3 h3 => ?_)
        obtain ⟨g3, c3, d3⟩ := h3
        rw [nI_1]
        have e : cs ++ l ++ l2 ++ [c] = cs ++ (l ++ l2 ++ [c]) := by rw [List.append_assoc, List.append_assoc, List.append_assoc]
        rw [e] at g3
        refine ih (i + 1) st3 f f' (l ++ l2 ++ [c]) σ3 τ3 (by omega) (by omega) (by omega) (by omega) (by omega) (fc.tr (c1.tr (c2.tr c3))) (fg.tr (d1.tr (d2.tr d3))) g3 ?_ ?_ (tk_ty_2 ht ht2 hty (Nat.le_refl _) (Nat.le_refl _))
        · rw [← e, List.length_append]
          have : [c].length = 1 := rfl
          omega
        · intro hh
          have := congrArg List.length hh
          rw [List.length_append] at this
          have h1 : [c].length = 1 := rfl
          have h0 : ([] : List Nat).length = 0 := rfl
          omega
      · obtain ⟨rfl, hF, m2, m3, m4⟩ := h2
        obtain ⟨x, ex, x1, x2, x3⟩ := pc_app0 (v := nI (pa_mp c)) m3 m4
        refine pr2.l ex ?_
        refine pr2.r (pg_codes0 hF.nz) ?_
        obtain ⟨f, rfl⟩ : ∃ f0, f = f0 + 1 := ⟨f - 1, by omega⟩
        obtain ⟨f', rfl⟩ : ∃ f0, f' = f0 + 1 := ⟨f' - 1, by omega⟩
        rw [hstop f 0 (nI i + 1) x.2 (Or.inr rfl), hg0 f' τ2 hF.nz]
        refine pr2.d ⟨fc.tr (c1.tr (c2.tr x1)), fg.tr (d1.tr d2), Or.inr ⟨rfl, ?_, x3⟩⟩
        unfold pr_F
        rw [x2]
        exact hF
/-- the same, with the first operand -/
theorem pr_bin {LC : Nat → Int32 → Int32 → ps_S → Option ((Int32 × Int32) × ps_S)} {LG : Nat → ps_S → Option (Unit × ps_S)} {rc : ps_S → Option (Int32 × ps_S)} {rg : ps_S → Option (Unit × ps_S)}
    (hrec : ∀ (st k : Nat) (cs : List Nat) (σ τ : ps_S), pr_E n b wr p st cs σ τ → cs.length + k ≤ st → pr2 (rc σ) (rg τ) (fun a σ' _ τ' => pr_P n b wr p st cs k σ τ ty h a σ' τ'))
    (hstop : ∀ (f : Nat) (x1 x2 : Int32) (σ : ps_S), (900 ≤ x2 ∨ x1 = 0) → LC (f + 1) x1 x2 σ = some ((x1, x2), σ))
    (hg0 : ∀ (f : Nat) (τ : ps_S), ¬ τ.1 327 12 = 0 → LG (f + 1) τ = some ((), τ))
    (hend : ∀ (st : Nat) (cs : List Nat) (σ τ : ps_S) (f : Nat), pr_E n b wr p st cs σ τ → tk_cd n b st = 26 → LG (f + 1) τ = some ((), τ))
    (hstep : ∀ (st : Nat) (cs : List Nat) (σ τ : ps_S) (f f' : Nat) (x2 : Int32), pr_E n b wr p st cs σ τ → ¬ 900 ≤ x2 → (LC (f + 1) 1 x2 σ = some ((1, x2), σ) ∧ LG (f' + 1) τ = some ((), τ)) ∨ (tk_cd n b st ≠ 26 ∧ ∃ c, (∀ T, pa_tyS wr c (ty :: ty :: T) = some (ty :: T)) ∧ LC (f + 1) 1 x2 σ = ps_bd (qX5_advance σ) (fun _ σ2 => ps_bd (rc σ2) (fun v σ3 => ps_bd (qX3_append 2 (nI (pa_mp c)) σ3) (fun _ σ4 => LC f v (x2 + 1) σ4))) ∧ LG (f' + 1) τ = ps_bd (qX9_steps τ) (fun _ τ2 => ps_bd (rg τ2) (fun _ τ3 => ps_bd (qX9_codes (nI c) τ3) (fun _ τ4 => LG f' τ4)))))
    (g : pr_E n b wr p st cs σ τ) (hk : cs.length + k ≤ st) :
    pr2 (ps_bd (rc σ) (fun v1 σ2 => ps_bd (LC ps_N v1 0 σ2) (fun res σ45 => match res with | (v46, v47) => if ps_b01 v46 = true then some (v46, σ45) else none))) (ps_bd (rg τ) (fun _ τ2 => ps_bd (LG ps_N τ2) (fun res τ3 => match res with | _ => some ((), τ3)))) (fun a σ' _ τ' => pr_P n b wr p st cs k σ τ ty (h + 1) a σ' τ') := by
  refine (hrec st k cs σ τ g hk).b (fun v σ1 _ τ1 h1 => ?_)
  obtain ⟨c1, d1, h1 | h1⟩ := h1
  · obtain ⟨rfl, st2, l, g1, hk1, hs1, hl1, ht1⟩ := h1
    refine (pr_loop (st := st) (σ0 := σ) (τ0 := τ) (cs := cs) (k := k) hrec hstop hg0 hend hstep 900 0 st2 ps_N ps_N l σ1 τ1 (by decide) (by unfold ps_N; decide) (by unfold ps_N; decide) (by omega) hs1 c1 d1 g1 hk1 hl1 (ht1.mono (by omega))).b (fun a σ2 _ τ2 h2 => ?_)
    obtain ⟨a1, a2⟩ := a
    have hb : ps_b01 a1 = true := by
      obtain ⟨_, _, h | h⟩ := h2
      · have : a1 = 1 := h.1
        rw [this]; rfl
      · have : a1 = 0 := h.1
        rw [this]; rfl
    refine pr2.lt hb ?_
    exact pr2.d h2
  · obtain ⟨rfl, hF, hm⟩ := h1
    obtain ⟨N, hN⟩ : ∃ N, ps_N = N + 1 := ⟨9999, by unfold ps_N; rfl⟩
    rw [hN]
    refine pr2.l (hstop N 0 0 σ1 (Or.inr rfl)) ?_
    refine pr2.r (hg0 N τ1 hF.nz) ?_
    refine pr2.lt rfl ?_
    exact pr2.d ⟨c1, d1, Or.inr ⟨rfl, hF, hm⟩⟩
end EXP
